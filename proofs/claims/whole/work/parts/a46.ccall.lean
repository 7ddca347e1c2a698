/-! ===== THE CLASS' TYPER: calls ===== -/
/-- no parameter's type is none -/
def Pgm.P5 (P : Pgm) : Prop := ∀ (m : Nat) (b : Mb) (j : Nat), P.ms[m]? = some b → j < mbP b → P.rt (px b j).1 ≠ 5
theorem lget_of {l : List Nat} {i t : Nat} (h : l[i]? = some t) : lget l i = t := by unfold lget; rw [h]
theorem CK.call_80 {P : Pgm} {D : List Int32 → Prop} {num : List Int32 → Nat} {σ l : List Nat} {X N m r : Nat} {b : Mb} {h : pH} (hN : 1100 ≤ N) (q : CK P D num h) (h5 : P.P5) (qs : CSt P (σ ++ (r :: l)) X h) (hb : P.ms[m]? = some b) (hl : mbP b = l.length) : ∀ (d j k : Nat), j + d = mbP b → d < k → fX9_isCallFine_80 N k 51 (Int32.ofNat l.length) (Int32.ofNat (σ.length + 1)) (Int32.ofNat m) (Int32.ofNat j) h = if (fstN (fun i => !P.sub (lget l i) (P.rt (px b i).1)) d j).isNone = true then ((fX9_push N 51 (ctI (P.rt b.2.1)) (wr h 51 5 (Int32.ofNat σ.length))).bind fun q6 => if pRet .boolean q6.1 = true then some (q6.1, q6.2) else none) else some (0, h)
  | 0, j, k, hd, hk => by
    obtain ⟨k, rfl⟩ : ∃ k', k = k' + 1 := ⟨k - 1, by omega⟩
    have hs := q.1.1
    have hs1 := hs.wr 51 5 (Int32.ofNat σ.length)
    have ql := qs.len
    rw [List.length_append, List.length_cons] at ql
    have hm := (List.getElem?_eq_some_iff.mp hb).1
    have hml := q.1.2.2.2.2.2.2.2.2.2.1
    have r28 : rd (wr h 51 5 (Int32.ofNat σ.length)) 28 m = ctI (P.rt b.2.1) := by rw [rd_wr_ne _ _ (by omega)]; exact (q.2.2.1.2.2.1 m b hb).1
    rw [fX9_isCallFine_80, ifLe (by omega) (by omega), if_pos (by omega), i_sub1, p_51_5 hs, Option.bind_some, R_51_1 hs1, Option.bind_some, R_25_3 hs1, Option.bind_some, L_28 hs1 (by omega), Option.bind_some, r28]
    rfl
  | d + 1, j, k, hd, hk => by
    obtain ⟨k, rfl⟩ : ∃ k', k = k' + 1 := ⟨k - 1, by omega⟩
    have hs := q.1.1
    have hn := q.1.2.2.2.2.2.1
    have ql := qs.len
    rw [List.length_append, List.length_cons] at ql
    have hx : l[j]? = some (l[j]'(by omega)) := List.getElem?_eq_getElem (by omega)
    generalize l[j]'(by omega) = t at hx
    obtain ⟨z1, z2, z3⟩ := qs.2.2.2.2 (σ.length + 1 + j) t (by rw [List.getElem?_append_right (by omega), show σ.length + 1 + j - σ.length = j + 1 by omega]; exact hx)
    have IH := CK.call_80 hN q h5 qs hb hl d (j + 1) k (by omega) (by omega)
    have hu := h5 m b j hb (by omega)
    rw [fX9_isCallFine_80, ifLe (by omega) (by omega), if_neg (by omega), R_51_0 hs, Option.bind_some, R_51_4 hs, Option.bind_some, ← Int32.ofNat_add, L_125 hs (by omega), Option.bind_some, z1, R_51_1 hs, Option.bind_some, CM1.ptype q.1 q.2.2.1 hb (by omega), Option.bind_some]
    dsimp only
    rw [q.1.isSub q.2.1 hN z2 P.rt_ok z3 hu, Option.bind_some]
    dsimp only
    rw [kI_if, i_add1, IH, fstN_succ, lget_of hx]
    cases P.sub t (P.rt (px b j).1) <;> rfl
theorem CK.callFine {P : Pgm} {D : List Int32 → Prop} {num : List Int32 → Nat} {σ l : List Nat} {X N i r : Nat} {w : List Int32} {h : pH} (hN : 1100 ≤ N) (q : CK P D num h) (h5 : P.P5) (qs : CSt P (σ ++ (r :: l)) X h) (hl : l.length ≤ 5000) (hw : D w) (hi : i < 3100) (h39 : rd h 39 i = 30) (h40 : rd h 40 i = Int32.ofNat (num w)) (h41 : rd h 41 i = Int32.ofNat l.length) : TyN P σ X i 30 (Int32.ofNat (num w)) (P.callT w (r :: l)) (fX9_isCallFine N 51 (Int32.ofNat i) h) h := by
  have hs := q.1.1
  have hn := q.1.2.2.2.2.2.1
  have hml := q.1.2.2.2.2.2.2.2.2.2.1
  have ql := qs.len
  have q1 := qs.1
  rw [List.length_append, List.length_cons] at ql q1
  have hsl : σ.length ≤ 3000 := by omega
  obtain ⟨r1, r2, r3⟩ := qs.2.2.2.2 σ.length r (by rw [List.getElem?_append_right (Nat.le_refl _), Nat.sub_self]; rfl)
  have esub : Int32.ofNat (σ.length + (l.length + 1)) - Int32.ofNat l.length = Int32.ofNat (σ.length + 1) := by
    rw [i_subk (by omega), show σ.length + (l.length + 1) - l.length = σ.length + 1 by omega]
  have had : fX6_had N 25 (ctI r) 1 (Int32.ofNat (num w)) h = some (oI (-1) (if r < 10 then none else P.had true w (r - 10)), h) := by
    by_cases z : r < 10
    · rw [if_pos z]
      have : r ≤ 5 := by unfold Pgm.tOk at r2; omega
      exact q.1.hadN hN (ctI_lt this).2
    · rw [if_neg z, ctI_cls (by omega)]
      have := q.1.had (N := N) (kk := true) q.2.1 hN hw (show r - 10 < P.n by unfold Pgm.tOk at r2; omega)
      rw [show kI true = 1 from rfl] at this
      exact this
  have hlt : ∀ m, (if r < 10 then none else P.had true w (r - 10)) = some m → m < P.ms.length := fun m hm => by
    split at hm
    · cases hm
    · exact (Pgm.hadF_lt hm).1
  have hcT : P.callT w (r :: l) = match (if r < 10 then none else P.had true w (r - 10)) with
      | none => none
      | some m => match P.ms[m]? with
        | none => none
        | some b => if P.argT b l = true then tS (P.rt b.2.1) else none := by
    unfold Pgm.callT
    dsimp only
    by_cases z : r < 10
    · rw [if_pos z, if_pos z]
    · rw [if_neg z, if_neg z]
      rcases P.had true w (r - 10) with _ | m
      · rfl
      · dsimp only
        rcases P.ms[m]? with _ | b
        · rfl
        · rfl
  unfold fX9_isCallFine
  rw [if_pos (o_51 hs), R_51_2 hs, Option.bind_some, R_38_2 hs, Option.bind_some, L_41 hs hi, Option.bind_some, h41, g_51_5 hs, Option.bind_some, q1, if_neg (i_nneg (by omega)), esub, show (1 : Int32) = Int32.ofNat 1 from rfl, ifLe (by omega) (by omega), if_pos (by omega), show Int32.ofNat 1 = 1 from rfl, i_sub1, R_51_1 hs, Option.bind_some, R_51_4 hs, Option.bind_some, L_125 hs (by omega), Option.bind_some, r1, Option.bind_some, R_38_1 hs, Option.bind_some, L_40 hs hi, Option.bind_some, h40, had, Option.bind_some]
  dsimp only
  rw [isNone_kI (fun e he => by have := hlt e he; omega), hcT]
  generalize hoo : (if r < 10 then none else P.had true w (r - 10)) = o at hlt ⊢
  rcases o with _ | m
  · exact ⟨h, rfl, Chg.refl _ _⟩
  · have hm := hlt m rfl
    obtain ⟨b, hb⟩ : ∃ b, P.ms[m]? = some b := ⟨P.ms[m]'hm, List.getElem?_eq_getElem hm⟩
    have b1 := (Pgm.pf_succ hb).1
    have b2 := (Pgm.pf_succ hb).2
    have b3 := q.2.2.1.2.1
    rw [if_neg (show ¬ (some m).isNone = true from Bool.false_ne_true), show oI (-1) (some m) = Int32.ofNat m from rfl, R_51_1 hs, Option.bind_some, R_25_7 hs, Option.bind_some, L_32 hs (by omega), Option.bind_some, (q.2.2.1.2.2.1 m b hb).2.2, ifEq (by omega) (by omega)]
    show TyN P σ X i 30 (Int32.ofNat (num w)) (match P.ms[m]? with
        | none => none
        | some b => if P.argT b l = true then tS (P.rt b.2.1) else none) _ h
    rw [hb]
    show TyN P σ X i 30 (Int32.ofNat (num w)) (if P.argT b l = true then tS (P.rt b.2.1) else none) _ h
    unfold Pgm.argT
    by_cases z : mbP b = l.length
    · rw [if_pos z, decide_eq_true z, Bool.true_and, show (0 : Int32) = Int32.ofNat 0 from rfl, CK.call_80 hN q h5 qs hb z (mbP b) 0 N (by omega) (by omega)]
      cases (fstN (fun i => !P.sub (lget l i) (P.rt (px b i).1)) (mbP b) 0).isNone with
      | false => exact ⟨h, rfl, Chg.refl _ _⟩
      | true =>
        rw [if_pos rfl, if_pos rfl]
        have g0 : Chg pyA h (wr h 51 5 (Int32.ofNat σ.length)) := Chg.wr _ _ _ _ (by unfold pyA; omega)
        have qs' : CSt P σ X (wr h 51 5 (Int32.ofNat σ.length)) := by
          obtain ⟨y1, y2, y3, y4, y5⟩ := qs
          rw [List.length_append] at y3
          refine ⟨w_51_5 hs _, by rw [rd_wr_ne _ _ (by omega)]; exact y2, by omega, y4, fun j t ht => ?_⟩
          have := (List.getElem?_eq_some_iff.mp ht).1
          rw [rd_wr_ne _ _ (by omega)]
          exact y5 j t (by rw [List.getElem?_append_left this]; exact ht)
        exact CSt.pushN (N := N) (by omega) (hs.wr 51 5 _) qs' P.rt_ok hsl (g0.mono (fun a k z => Or.inl z)) (by rw [rd_wr_ne _ _ (by omega)]; exact h39) (by rw [rd_wr_ne _ _ (by omega)]; exact h40) wrap_push
    · rw [if_neg z, decide_eq_false z, Bool.false_and, if_neg Bool.false_ne_true]
      exact ⟨h, rfl, Chg.refl _ _⟩
