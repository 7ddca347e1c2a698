/-! ===== THE REFERENCE: what types mean ===== -/
/-- a type as the reference tells it ahead of the check -/
def tyM (num : List Int32 → Nat) (P : Pgm) (y : Nat) : Int32 := if y < 4 then Int32.ofNat y else Int32.ofNat (10 + num (P.1 (y - 4)))
/-- the parameters' tables -/
def RQ (P : Pgm) (D : List Int32 → Prop) (num : List Int32 → Nat) (h : pH) : Prop := rd h 138 53 = Int32.ofNat P.ps.length ∧ P.ps.length ≤ 850 ∧ (∀ m, m ≤ P.ms.length → rd h 172 m = Int32.ofNat (P.pf m)) ∧ (∀ i x, P.ps[i]? = some x → D (P.1 x.2) ∧ rd h 177 i = Int32.ofNat (num (P.1 x.2)))
def RM0 (P : Pgm) (D : List Int32 → Prop) (num : List Int32 → Nat) (h : pH) : Prop := (∀ m b, P.ms[m]? = some b → tyD D P b.2.1 ∧ rd h 170 m = tyM num P b.2.1) ∧ (∀ i x, P.ps[i]? = some x → tyD D P x.1 ∧ rd h 176 i = tyM num P x.1)
def RM1 (P : Pgm) (h : pH) : Prop := (∀ m b, P.ms[m]? = some b → rd h 170 m = Int32.ofNat (P.rt b.2.1)) ∧ (∀ i x, P.ps[i]? = some x → rd h 176 i = Int32.ofNat (P.rt x.1))
theorem RQ.chg {A : Nat → Nat → Prop} {P : Pgm} {D : List Int32 → Prop} {num : List Int32 → Nat} {h h' : pH} (q : RQ P D num h) (g : Chg A h h') (h1 : ¬ A 138 53) (h2 : ∀ k, ¬ A 172 k) (h3 : ∀ k, ¬ A 177 k) : RQ P D num h' := by
  obtain ⟨q1, q2, q3, q4⟩ := q
  refine ⟨by rw [g.2.2.1 _ _ h1]; exact q1, q2, fun m hm => by rw [g.2.2.1 _ _ (h2 m)]; exact q3 m hm, fun i x hx => ⟨(q4 i x hx).1, by rw [g.2.2.1 _ _ (h3 i)]; exact (q4 i x hx).2⟩⟩
theorem RT.meant {P : Pgm} {D : List Int32 → Prop} {num : List Int32 → Nat} {N y : Nat} {h : pH} (q : RT P D num h) (hN : 1100 ≤ N) (hy : tyD D P y) : fX12_meant N 138 (tyM num P y) h = some (Int32.ofNat (P.rt y), h) := by
  have hn := q.2.2.2.2.2.1
  unfold fX12_meant tyM Pgm.rt
  rw [if_pos (o_138 q.1), show (10 : Int32) = Int32.ofNat 10 from rfl]
  by_cases h4 : y < 4
  · rw [if_pos h4, if_pos h4, ifLe (by omega) (by omega), if_neg (by omega)]
  · rw [if_neg h4, if_neg h4]
    have hw := hy.resolve_left h4
    have hl := q.2.2.1 (P.1 (y - 4))
    rw [ifLe (by omega) (by omega), if_pos (by omega), i_subk (by omega), show 10 + num (P.1 (y - 4)) - 10 = num (P.1 (y - 4)) by omega, q.classOf hN hw, Option.bind_some]
    rcases hf : P.fnd (P.1 (y - 4)) with _ | c
    · rfl
    · have hc := (Pgm.fnd_lt hf).1
      show (if (0 : Int32) ≤ Int32.ofNat c then _ else _) = _
      rw [if_pos (i_nn0 (by omega))]
      show some (Int32.ofNat 10 + Int32.ofNat c, h) = _
      rw [← Int32.ofNat_add]
theorem RT.res_45 {P : Pgm} {D : List Int32 → Prop} {num : List Int32 → Nat} {N : Nat} (hN : 1100 ≤ N) : ∀ (d i k : Nat) (h : pH), i + d = P.ps.length → d < k → RT P D num h → RQ P D num h → (∀ j x, P.ps[j]? = some x → tyD D P x.1 ∧ rd h 176 j = if j < i then Int32.ofNat (P.rt x.1) else tyM num P x.1) → ∃ h', fX12_checkMembers_45 N k 138 (Int32.ofNat i) h = fX12_checkMembers_77 N N 138 5 h' ∧ (∀ j x, P.ps[j]? = some x → rd h' 176 j = Int32.ofNat (P.rt x.1)) ∧ Chg (fun a _ => a = 176) h h'
  | 0, i, k, h, hd, hk, q, qr, hp => by
    obtain ⟨k, rfl⟩ : ∃ k', k = k' + 1 := ⟨k - 1, by omega⟩
    have hl := qr.2.1
    refine ⟨h, ?_, fun j x hj => ?_, Chg.refl _ _⟩
    · rw [fX12_checkMembers_45, g_138_53 q.1, Option.bind_some, qr.1, ifLe (by omega) (by omega), if_pos (by omega)]
    · have := (List.getElem?_eq_some_iff.mp hj).1
      rw [(hp j x hj).2, if_pos (by omega)]
  | d + 1, i, k, h, hd, hk, q, qr, hp => by
    obtain ⟨k, rfl⟩ : ∃ k', k = k' + 1 := ⟨k - 1, by omega⟩
    have hl := qr.2.1
    have hx : P.ps[i]? = some (P.ps[i]'(by omega)) := List.getElem?_eq_getElem (by omega)
    obtain ⟨t1, t2⟩ := hp i _ hx
    rw [if_neg (by omega)] at t2
    generalize P.ps[i]'(by omega) = x at hx t1 t2
    have g : Chg (fun a _ => a = 176) h (wr h 176 i (Int32.ofNat (P.rt x.1))) := Chg.wr _ _ _ _ rfl
    have q' := q.chg g (fun a k ha => by unfold rtA at ha; omega) (by omega) (by omega)
    have qr' := qr.chg g (by omega) (fun k => by omega) (fun k => by omega)
    obtain ⟨h', e1, e2, e3⟩ := RT.res_45 (P := P) (D := D) (num := num) hN d (i + 1) k (wr h 176 i (Int32.ofNat (P.rt x.1))) (by omega) (by omega) q' qr' (fun j y hj => by
      obtain ⟨u1, u2⟩ := hp j y hj
      refine ⟨u1, ?_⟩
      by_cases z : j = i
      · subst z
        rw [hx] at hj
        obtain rfl := Option.some.inj hj
        rw [W_176 q.1, if_pos (by omega)]
      · rw [rd_wr_ne _ _ (by omega), u2]
        by_cases y : j < i
        · rw [if_pos y, if_pos (by omega)]
        · rw [if_neg y, if_neg (by omega)])
    refine ⟨h', ?_, e2, g.trans e3⟩
    rw [fX12_checkMembers_45, g_138_53 q.1, Option.bind_some, qr.1, ifLe (by omega) (by omega), if_neg (by omega), R_138_54 q.1, Option.bind_some, Option.bind_some, L_176 q.1 (by omega), Option.bind_some, t2, q.meant hN t1, Option.bind_some]
    dsimp only
    rw [T_176 q.1 (by omega), Option.bind_some, i_add1]
    exact e1
theorem tyM_10 {P : Pgm} {num : List Int32 → Nat} (hl : ∀ w, num w < 4000) {y : Nat} {α : Type} (u v : α) : (if tyM num P y < 10 then u else v) = if y < 4 then u else v := by
  have := hl (P.1 (y - 4))
  unfold tyM
  by_cases h4 : y < 4
  · rw [if_pos h4, show (10 : Int32) = Int32.ofNat 10 from rfl, ifLt (by omega) (by omega), if_pos (by omega), if_pos h4]
  · rw [if_neg h4, show (10 : Int32) = Int32.ofNat 10 from rfl, ifLt (by omega) (by omega), if_neg (by omega), if_neg h4]
theorem RT.res_2 {P : Pgm} {D : List Int32 → Prop} {num : List Int32 → Nat} {N : Nat} (hN : 1100 ≤ N) : ∀ (d i k : Nat) (h : pH), i + d = P.ms.length → d < k → RT P D num h → (∀ j x, P.ms[j]? = some x → tyD D P x.2.1 ∧ rd h 170 j = if j < i then Int32.ofNat (P.rt x.2.1) else tyM num P x.2.1) → ∃ h', fX12_checkMembers_2 N k 138 (Int32.ofNat i) h = fX12_checkMembers_45 N N 138 0 h' ∧ (∀ j x, P.ms[j]? = some x → rd h' 170 j = Int32.ofNat (P.rt x.2.1)) ∧ Chg (fun a _ => a = 170) h h'
  | 0, i, k, h, hd, hk, q, hp => by
    obtain ⟨k, rfl⟩ : ∃ k', k = k' + 1 := ⟨k - 1, by omega⟩
    have hl := q.2.2.2.2.2.2.2.2.2.2.1
    refine ⟨h, ?_, fun j x hj => ?_, Chg.refl _ _⟩
    · rw [fX12_checkMembers_2, g_138_44 q.1, Option.bind_some, q.2.2.2.2.2.2.2.2.2.1, ifLe (by omega) (by omega), if_pos (by omega)]
    · have := (List.getElem?_eq_some_iff.mp hj).1
      rw [(hp j x hj).2, if_pos (by omega)]
  | d + 1, i, k, h, hd, hk, q, hp => by
    obtain ⟨k, rfl⟩ : ∃ k', k = k' + 1 := ⟨k - 1, by omega⟩
    have hl := q.2.2.2.2.2.2.2.2.2.2.1
    have hx : P.ms[i]? = some (P.ms[i]'(by omega)) := List.getElem?_eq_getElem (by omega)
    obtain ⟨t1, t2⟩ := hp i _ hx
    rw [if_neg (by omega)] at t2
    generalize P.ms[i]'(by omega) = x at hx t1 t2
    by_cases h4 : x.2.1 < 4
    · obtain ⟨h', e1, e2, e3⟩ := RT.res_2 (P := P) (D := D) (num := num) hN d (i + 1) k h (by omega) (by omega) q (fun j y hj => by
        obtain ⟨u1, u2⟩ := hp j y hj
        refine ⟨u1, ?_⟩
        by_cases z : j = i
        · subst z
          rw [hx] at hj
          obtain rfl := Option.some.inj hj
          rw [if_pos (by omega), t2]
          unfold tyM Pgm.rt
          rw [if_pos h4, if_pos h4]
        · rw [u2]
          by_cases y : j < i
          · rw [if_pos y, if_pos (by omega)]
          · rw [if_neg y, if_neg (by omega)])
      refine ⟨h', ?_, e2, e3⟩
      rw [fX12_checkMembers_2, g_138_44 q.1, Option.bind_some, q.2.2.2.2.2.2.2.2.2.1, ifLe (by omega) (by omega), if_neg (by omega), R_138_47 q.1, Option.bind_some, L_170 q.1 (by omega), Option.bind_some, t2, tyM_10 q.2.2.1, if_pos h4]
      unfold fX12_checkMembers_37
      rw [i_add1]
      exact e1
    · have g : Chg (fun a _ => a = 170) h (wr h 170 i (Int32.ofNat (P.rt x.2.1))) := Chg.wr _ _ _ _ rfl
      have q' := q.chg g (fun a k ha => by unfold rtA at ha; omega) (by omega) (by omega)
      obtain ⟨h', e1, e2, e3⟩ := RT.res_2 (P := P) (D := D) (num := num) hN d (i + 1) k (wr h 170 i (Int32.ofNat (P.rt x.2.1))) (by omega) (by omega) q' (fun j y hj => by
        obtain ⟨u1, u2⟩ := hp j y hj
        refine ⟨u1, ?_⟩
        by_cases z : j = i
        · subst z
          rw [hx] at hj
          obtain rfl := Option.some.inj hj
          rw [W_170 q.1, if_pos (by omega)]
        · rw [rd_wr_ne _ _ (by omega), u2]
          by_cases y : j < i
          · rw [if_pos y, if_pos (by omega)]
          · rw [if_neg y, if_neg (by omega)])
      refine ⟨h', ?_, e2, g.trans e3⟩
      rw [fX12_checkMembers_2, g_138_44 q.1, Option.bind_some, q.2.2.2.2.2.2.2.2.2.1, ifLe (by omega) (by omega), if_neg (by omega), R_138_47 q.1, Option.bind_some, L_170 q.1 (by omega), Option.bind_some, t2, tyM_10 q.2.2.1, if_neg h4, Option.bind_some, Option.bind_some, L_170 q.1 (by omega), Option.bind_some, t2, q.meant hN t1, Option.bind_some]
      dsimp only
      rw [T_170 q.1 (by omega), Option.bind_some]
      unfold fX12_checkMembers_37
      rw [i_add1]
      exact e1
theorem RT.resolve {P : Pgm} {D : List Int32 → Prop} {num : List Int32 → Nat} {N : Nat} {h : pH} (hN : 1100 ≤ N) (q : RT P D num h) (qr : RQ P D num h) (m : RM0 P D num h) : ∃ h', fX12_checkMembers N 138 h = fX12_checkMembers_77 N N 138 5 h' ∧ RM1 P h' ∧ Chg (fun a _ => a = 170 ∨ a = 176) h h' := by
  obtain ⟨m3, m4⟩ := m
  have hl := q.2.2.2.2.2.2.2.2.2.2.1
  have hl2 := qr.2.1
  obtain ⟨h1, e1, e2, e3⟩ := RT.res_2 (P := P) (D := D) (num := num) hN P.ms.length 0 N h (by omega) (by omega) q (fun j x hj => ⟨(m3 j x hj).1, by rw [(m3 j x hj).2, if_neg (by omega)]⟩)
  have q1 := q.chg e3 (fun a k ha => by unfold rtA at ha; omega) (by omega) (by omega)
  have qr1 := qr.chg e3 (by omega) (fun k => by omega) (fun k => by omega)
  obtain ⟨h2, f1, f2, f3⟩ := RT.res_45 (P := P) (D := D) (num := num) hN P.ps.length 0 N h1 (by omega) (by omega) q1 qr1 (fun j x hj => ⟨(m4 j x hj).1, by rw [e3.2.2.1 _ _ (by omega), (m4 j x hj).2, if_neg (by omega)]⟩)
  refine ⟨h2, ?_, ⟨fun j x hj => ?_, fun j x hj => f2 j x hj⟩, (e3.mono (fun a k z => Or.inl z)).trans (f3.mono (fun a k z => Or.inr z))⟩
  · unfold fX12_checkMembers
    rw [if_pos (o_138 q.1), show (0 : Int32) = Int32.ofNat 0 from rfl, e1]
    exact f1
  · rw [f3.2.2.1 _ _ (by omega)]; exact e2 j x hj
theorem tyR.num {T : Txt} {h : pH} {y : Nat} {x : Int32} (hi : nmInj h) (cs : List Cl) (q : tyR T h y x) : tyD (rD h) (tkW T, cs) y ∧ x = tyM (rnum h) (tkW T, cs) y := by
  unfold tyR at q
  unfold tyD tyM
  by_cases h4 : y < 4
  · rw [if_pos h4] at q
    rw [if_pos h4]
    exact ⟨Or.inl h4, q⟩
  · rw [if_neg h4] at q
    rw [if_neg h4]
    obtain ⟨v, q1, q2⟩ := q
    obtain ⟨n1, n2⟩ := q1.num hi
    refine ⟨Or.inr n1, ?_⟩
    rw [q2, n2]
    exact (Int32.ofNat_add _ _).symm
theorem flat_find : ∀ {l : List Mb} {i : Nat} {x : Nat × Nat}, (l.flatMap (fun b => b.2.2.2.2.1))[i]? = some x → ∃ m b j, l[m]? = some b ∧ b.2.2.2.2.1[j]? = some x ∧ i = msP (l.take m) + j
  | [], i, x, h => by cases h
  | y :: l, i, x, h => by
    rw [List.flatMap_cons] at h
    by_cases z : i < y.2.2.2.2.1.length
    · rw [List.getElem?_append_left z] at h
      exact ⟨0, y, i, rfl, h, by show i = 0 + i; omega⟩
    · rw [List.getElem?_append_right (by omega)] at h
      obtain ⟨m, b, j, e1, e2, e3⟩ := flat_find (l := l) h
      refine ⟨m + 1, b, j, e1, e2, ?_⟩
      rw [List.take_succ_cons, msP_cons]
      have : mbP y = y.2.2.2.2.1.length := rfl
      omega
theorem csP_ms : ∀ cs : List Cl, msP (cs.flatMap (fun x => x.2.2.2)) = csP cs
  | [] => rfl
  | x :: xs => by rw [List.flatMap_cons, msP_app, csP_ms xs]; rfl
theorem Parsed.rm {T : Txt} {cs : List Cl} {h : pH} (q : Parsed T cs h) : RQ (tkW T, cs) (rD h) (rnum h) h ∧ RM0 (tkW T, cs) (rD h) (rnum h) h := by
  obtain ⟨⟨t, n, l, qq, s, a3, _⟩, q2, q3, q4, q5, q6, q7, q8, q9⟩ := q
  obtain ⟨a2, e44, e53, b44, b53⟩ := id a3
  have rp : RP T t h := a2.1.1
  have hi := rp.2.2.2.2.1
  have hP := (tkP_le T t).1
  have hT : T.2 ≤ 3000 := by
    have := rp.1.2.2
    rw [rp.2.2.1] at this
    omega
  have hml : (Pgm.ms (tkW T, cs)).length = csM cs := Pgm.ms_len _
  have hpl : (Pgm.ps (tkW T, cs)).length = csP cs := by
    unfold Pgm.ps
    rw [flat_len]
    exact csP_ms cs
  have mq : ∀ m b, (Pgm.ms (tkW T, cs))[m]? = some b → mbR T h b m (Pgm.pf (tkW T, cs) m) (msS ((Pgm.ms (tkW T, cs)).take m)) (msN ((Pgm.ms (tkW T, cs)).take m)) (msL ((Pgm.ms (tkW T, cs)).take m)) := fun m b hb => by
    have := msQ_get (csR_ms q2) hb
    rw [Nat.zero_add, Nat.zero_add, Nat.zero_add, Nat.zero_add, Nat.zero_add] at this
    exact this
  have pq : ∀ i x, (Pgm.ps (tkW T, cs))[i]? = some x → tyR T h x.1 (rd h 176 i) ∧ NmIs T h x.2 (rd h 177 i) := fun i x hx => by
    obtain ⟨m, b, j, e1, e2, e3⟩ := flat_find hx
    have := (mq m b e1).2.2.2.2.2.1 j x e2
    rw [show Pgm.pf (tkW T, cs) m + j = i from e3.symm] at this
    exact this
  refine ⟨⟨by rw [hpl]; exact e53, by rw [hpl]; omega, fun m hm => ?_, fun i x hx => ((pq i x hx).2.num hi)⟩, fun m b hb => (mq m b hb).2.2.1.num hi cs, fun i x hx => (pq i x hx).1.num hi cs⟩
  by_cases z : m < (Pgm.ms (tkW T, cs)).length
  · exact (mq m _ (List.getElem?_eq_getElem z)).2.2.2.2.1
  · have : m = csM cs := by omega
    rw [this, q4]
    unfold Pgm.pf
    rw [← hml, List.take_length, ← hpl]
    unfold Pgm.ps
    rw [flat_len]
