/-! ===== THE CLASS moves an object ===== -/
theorem tot_app (hp : List Ob) : ∀ (L M : List Nat), tot hp (L ++ M) = tot hp L + tot hp M
  | [], M => by show tot hp M = 0 + tot hp M; omega
  | i :: L, M => by show 2 + obL hp i + tot hp (L ++ M) = 2 + obL hp i + tot hp L + tot hp M; rw [tot_app hp L M]; omega
theorem Lay.nd {hp : List Ob} {A : Nat → Nat} : ∀ {L : List Nat} {a : Nat}, Lay hp A L a → L.Nodup
  | [], _, _ => List.nodup_nil
  | i :: L, a, h => List.nodup_cons.mpr ⟨h.2.1, Lay.nd h.2.2.2.2⟩
theorem tot_sub (hp : List Ob) : ∀ (L M : List Nat), L.Nodup → (∀ i, i ∈ L → i ∈ M) → tot hp L ≤ tot hp M
  | [], M, _, _ => Nat.zero_le _
  | i :: L, M, hn, hs => by
    obtain ⟨h1, h2⟩ := List.nodup_cons.mp hn
    obtain ⟨s, t, rfl⟩ := List.append_of_mem (hs i (List.mem_cons_self ..))
    have := tot_sub hp L (s ++ t) h2 (fun j hj => by
      have := hs j (List.mem_cons_of_mem _ hj)
      rcases List.mem_append.mp this with z | z
      · exact List.mem_append.mpr (Or.inl z)
      · rcases List.mem_cons.mp z with rfl | z
        · exact absurd hj h1
        · exact List.mem_append.mpr (Or.inr z))
    rw [tot_app] at this ⊢
    show 2 + obL hp i + tot hp L ≤ tot hp s + (2 + obL hp i + tot hp t)
    omega
theorem Lay.app {hp : List Ob} {A : Nat → Nat} {i x : Nat} : ∀ {L : List Nat} {a : Nat}, Lay hp A L a → i ∉ L → 5 ≤ i → i < hp.length → x = a + tot hp L → Lay hp (fun j => if j = i then x else A j) (L ++ [i]) a
  | [], a, _, _, h5, hl, hx => ⟨by show (if i = i then x else A i) = a; rw [if_pos rfl, hx]; rfl, by simp, h5, hl, trivial⟩
  | k :: L, a, h, hi, h5, hl, hx => by
    obtain ⟨h1, h2, h3, h4, h6⟩ := h
    have hki : k ≠ i := fun z => hi (by rw [z]; exact List.mem_cons_self ..)
    refine ⟨by show (if k = i then x else A k) = a; rw [if_neg hki]; exact h1, ?_, h3, h4, Lay.app h6 (fun z => hi (List.mem_cons_of_mem _ z)) h5 hl ?_⟩
    · intro z
      rcases List.mem_append.mp z with z | z
      · exact h2 z
      · exact hki (List.mem_singleton.mp z)
    · rw [hx]
      show a + (2 + obL hp k + tot hp L) = _
      omega
/-- an object that has moved: words ahead of p are told anew -/
def NwC (hp : List Ob) (A : Nat → Nat) (L : List Nat) (A' : Nat → Nat) (L' : List Nat) (p : Nat) (h : pH) (i : Nat) : Prop := ∀ ob : Ob, hp[i]? = some ob → rdJ h (cR h) (A' i) = clW ob.1 ∧ rdJ h (cR h) (A' i + 1) = (Int32.ofNat ob.2.length).toInt64 ∧ ∀ (j : Nat) (v : Vl), ob.2[j]? = some v → (A' i + 2 + j < p → Ww A' L' (rdJ h (cR h) (A' i + 2 + j)) v) ∧ (p ≤ A' i + 2 + j → Ww A L (rdJ h (cR h) (A' i + 2 + j)) v)
def Mov (hp : List Ob) (R : Nat → Prop) (A : Nat → Nat) (L : List Nat) (A' : Nat → Nat) (L' : List Nat) (p : Nat) (h : pH) : Prop := Sg h ∧ FtC h ∧ (∀ i, i < 5 → A' i = i + 1) ∧ Lay hp A' L' 6 ∧ (∀ i, i ∈ L' → i ∈ L ∧ R i) ∧ rd h 129 2 = Int32.ofNat (6 + tot hp L') ∧ p ≤ 6 + tot hp L' ∧ (∀ i, i ∈ L → i ∈ L' → rdJ h (oR h) (A i) = -2 ∧ rdJ h (oR h) (A i + 1) = wO (A' i)) ∧ (∀ i, i ∈ L → i ∉ L' → ObC hp A L (oR h) h i) ∧ ∀ i, i ∈ L' → NwC hp A L A' L' p h i
def OldC (hp : List Ob) (A : Nat → Nat) (L : List Nat) : Prop := (∀ i, i < 5 → A i = i + 1) ∧ Lay hp A L 6 ∧ tot hp L ≤ 10000
def Mx (h h' : pH) : Prop := (∀ b, sh h' b = sh h b) ∧ (∀ a k, ¬ (a = 129 ∧ k = 2) → rd h' a k = rd h a k) ∧ ∀ a k, a ≠ 130 → a ≠ 131 → rdJ h' a k = rdJ h a k
theorem Mx.refl (h : pH) : Mx h h := ⟨fun _ => rfl, fun _ _ _ => rfl, fun _ _ _ _ => rfl⟩
theorem Mx.trans {h h1 h2 : pH} (q1 : Mx h h1) (q2 : Mx h1 h2) : Mx h h2 := ⟨fun b => (q2.1 b).trans (q1.1 b), fun a k n => (q2.2.1 a k n).trans (q1.2.1 a k n), fun a k n m => (q2.2.2 a k n m).trans (q1.2.2 a k n m)⟩
def Ext (A' : Nat → Nat) (L' : List Nat) (A'' : Nat → Nat) (L'' : List Nat) : Prop := (∃ Z, L'' = L' ++ Z) ∧ ∀ i, i ∈ L' ∨ i < 5 → (i ∈ L'' ∨ i < 5) ∧ A'' i = A' i
theorem Ext.refl (A' : Nat → Nat) (L' : List Nat) : Ext A' L' A' L' := ⟨⟨[], (List.append_nil _).symm⟩, fun i h => ⟨h, rfl⟩⟩
theorem Ext.trans {A A1 A2 : Nat → Nat} {L L1 L2 : List Nat} (q1 : Ext A L A1 L1) (q2 : Ext A1 L1 A2 L2) : Ext A L A2 L2 := by
  obtain ⟨⟨Z, hZ⟩, q1⟩ := q1
  obtain ⟨⟨Y, hY⟩, q2⟩ := q2
  exact ⟨⟨Z ++ Y, by rw [hY, hZ, List.append_assoc]⟩, fun i h => ⟨(q2 i (q1 i h).1).1, (q2 i (q1 i h).1).2.trans (q1 i h).2⟩⟩
theorem clW_m2 (o : Option Nat) (ho : ∀ c, o = some c → c < 100000) : clW o ≠ -2 := by
  cases o with
  | none => show (-1 : Int32).toInt64 ≠ -2; decide
  | some c =>
    intro h
    have h1 : (Int32.ofNat c).toInt64.toInt32 = (-2 : Int64).toInt32 := congrArg Int64.toInt32 h
    rw [Int32.toInt32_toInt64] at h1
    have := ho c rfl
    exact i_ne_neg (by omega) (by decide) h1
theorem moved_ok {P : Pgm} {hp : List Ob} {R : Nat → Prop} {A A' : Nat → Nat} {L L' : List Nat} {p N : Nat} {h : pH} {w : Int64} {v : Vl} (hho : HO P hp) (hn : P.n ≤ 400) (old : OldC hp A L) (m : Mov hp R A L A' L' p h) (hw : Ww A L w v) (hR : ∀ i, v = .inr (some i) → R i) : ∃ w' h' A'' L'', fX3_moved N 129 w h = some (w', h') ∧ Mov hp R A L A'' L'' p h' ∧ Mx h h' ∧ Ww A'' L'' w' v ∧ Ext A' L' A'' L'' := by
  obtain ⟨m1, m2, m3, m4, m5, m6, m7, m8, m9, m10⟩ := id m
  obtain ⟨o1, o2, o3⟩ := old
  have same : v = v → (∀ i, v = .inr (some i) → (i ∈ L' ∨ i < 5) ∧ A' i = A i) → fX3_moved N 129 w h = some (w, h) → ∃ w' h' A'' L'', fX3_moved N 129 w h = some (w', h') ∧ Mov hp R A L A'' L'' p h' ∧ Mx h h' ∧ Ww A'' L'' w' v ∧ Ext A' L' A'' L'' := fun _ h1 h2 => ⟨w, h, A', L', h2, m, Mx.refl h, ⟨by
    rw [hw.1]
    match v, h1 with
    | .inl n, _ => rfl
    | .inr none, _ => rfl
    | .inr (some i), h1 => exact congrArg wO (h1 i rfl).2.symm, fun i hi => (h1 i hi).1⟩, Ext.refl _ _⟩
  match v, hw, hR, same with
  | .inl n, hw, hR, same =>
    refine same rfl (fun i hi => by cases hi) ?_
    unfold fX3_moved
    rw [if_pos (o_129 m1), lc_if, hw.1]
    exact if_pos (wN_and n)
  | .inr none, hw, hR, same =>
    refine same rfl (fun i hi => by cases hi) ?_
    unfold fX3_moved
    rw [if_pos (o_129 m1), lc_if, hw.1]
    exact if_pos (show (0 : Int64) &&& 4294967296 = 0 by decide)
  | .inr (some i), hw, hR, same =>
    have hw1 : w = wO (A i) := hw.1
    have hiL := hw.2 i rfl
    have hRi := hR i rfl
    have hand : ¬ (wO (A i) &&& 4294967296 = 0) := by rw [wO_and]; decide
    rcases Nat.lt_or_ge i 5 with z | z
    · refine same rfl (fun j hj => by cases hj; exact ⟨Or.inr z, by rw [m3 i z, o1 i z]⟩) ?_
      unfold fX3_moved
      rw [if_pos (o_129 m1), lc_if, hw1, if_neg hand, wO_to, o1 i z, if_pos (by rw [show (6 : Int32) = Int32.ofNat 6 from rfl, iLt (by omega) (by omega)]; omega)]
    · have hiL := inL hiL z
      obtain ⟨l1, l2, l3, l4⟩ := o2.mem i hiL
      obtain ⟨ob, hob⟩ : ∃ ob, hp[i]? = some ob := ⟨_, List.getElem?_eq_getElem l4⟩
      rw [obL_get hob] at l2
      have hlc : A i < 10005 := by omega
      have hap := m1.apart
      have hro := m1.rows.1
      have pre : fX3_moved N 129 w h = if rdJ h (oR h) (A i) = (-2 : Int64) then some (rdJ h (oR h) (A i + 1), h) else (if ((2 : Int32) + (rdJ h (oR h) (A i + 1)).toInt32) < (2 : Int32) then some (wO (A i), h) else (if ((10006 : Int32) - Int32.ofNat (A i)) < ((2 : Int32) + (rdJ h (oR h) (A i + 1)).toInt32) then some (wO (A i), h) else (if ((2 : Int32) + (rdJ h (oR h) (A i + 1)).toInt32) ≤ ((10006 : Int32) - Int32.ofNat (6 + tot hp L')) then ((copyA h (oR h) (Int32.ofNat (A i)) (cR h) (Int32.ofNat (6 + tot hp L')) ((2 : Int32) + (rdJ h (oR h) (A i + 1)).toInt32)).bind fun h16 => (getI h16 129 3 2).bind fun t17 => (getI h16 129 3 2).bind fun t18 => (putI h16 129 3 2 (t18 + ((2 : Int32) + (rdJ h (oR h) (A i + 1)).toInt32))).bind fun h19 => (getR h19 129 3 1).bind fun t20 => (stJ h19 t20 (Int32.ofNat (A i)) (-2 : Int64)).bind fun h21 => (getR h21 129 3 1).bind fun t22 => (stJ h21 t22 (Int32.ofNat (A i + 1)) ((4294967296 : Int64) ||| t17.toInt64)).bind fun h23 => some (((4294967296 : Int64) ||| t17.toInt64), h23)) else some (wO (A i), h)))) := by
        unfold fX3_moved
        rw [if_pos (o_129 m1), lc_if, hw1, if_neg hand, wO_to, if_neg (by rw [show (6 : Int32) = Int32.ofNat 6 from rfl, iLt (by omega) (by omega)]; omega), if_pos (by rw [show (10005 : Int32) = Int32.ofNat 10005 from rfl, iLt (by omega) (by omega)]; omega), R_129_1 m1, Option.bind_some]
        have l1 := L_oR m1 (i := A i) (by omega)
        have l2 := L_oR m1 (i := A i + 1) (by omega)
        simp only [R_129_1 m1, R_129_0 m1, g_129_2 m1, m6, Option.bind_some, l1, l2, i_add1, lc_if]
      rw [pre]
      by_cases hL' : i ∈ L'
      · obtain ⟨e1, e2⟩ := m8 i hiL hL'
        rw [if_pos e1, e2]
        exact ⟨_, h, A', L', rfl, m, Mx.refl h, ⟨rfl, okV_ob (Or.inl hL')⟩, Ext.refl _ _⟩
      · obtain ⟨c1, c2, c3⟩ := m9 i hiL hL' ob hob
        have hcl : clW ob.1 ≠ -2 := clW_m2 _ (fun c hc => by
          have := hho.2 i ob hob
          rw [hc] at this
          have := this.2.1
          omega)
        have hts : tot hp L' + (2 + ob.2.length) ≤ tot hp L := by
          have := tot_sub hp (L' ++ [i]) L (by
            rw [List.nodup_append]
            refine ⟨m4.nd, by simp, fun a ha b hb => ?_⟩
            rw [List.mem_singleton.mp hb]
            rintro rfl
            exact hL' ha) (fun j hj => by
            rcases List.mem_append.mp hj with z | z
            · exact (m5 j z).1
            · rw [List.mem_singleton.mp z]; exact hiL)
          rw [tot_app] at this
          have e : tot hp [i] = 2 + obL hp i + 0 := rfl
          rw [e, obL_get hob] at this
          omega
        have e2 : (2 : Int32) + (rdJ h (oR h) (A i + 1)).toInt32 = Int32.ofNat (2 + ob.2.length) := by
          rw [c2, Int32.toInt32_toInt64, Int32.ofNat_add]; rfl
        have e6 : ∀ x, x ≤ 10006 → (10006 : Int32) - Int32.ofNat x = Int32.ofNat (10006 - x) := fun x hx => i_subk (a := 10006) hx
        rw [if_neg (by rw [c1]; exact hcl), e2, e6 _ (by omega), e6 _ (by omega), if_neg (by rw [show (2 : Int32) = Int32.ofNat 2 from rfl, iLt (by omega) (by omega)]; omega), if_neg (by rw [iLt (by omega) (by omega)]; omega), if_pos (by rw [iLe (by omega) (by omega)]; omega)]
        obtain ⟨h1, f1, f2, f3, f4, f5, f6⟩ := copyJ (h := h) (sp := A i) (dp := 6 + tot hp L') (n := 2 + ob.2.length) (sh_oR m1) (sh_c m1) (by omega) (by omega) (by omega) (by omega)
        have s1 : Sg h1 := m1.of f2
        have s2 := s1.wr 129 2 (Int32.ofNat (6 + tot hp L' + (2 + ob.2.length)))
        have ec1 : cR h1 = cR h := cR_of f2
        have eo1 : oR h1 = oR h := oR_of f2
        have eo2 : oR (wr h1 129 2 (Int32.ofNat (6 + tot hp L' + (2 + ob.2.length)))) = oR h := (oR_of (fun b => sh_wr _ _ _ _ b)).trans eo1
        have s3 : Sg (wrJ (wr h1 129 2 (Int32.ofNat (6 + tot hp L' + (2 + ob.2.length)))) (oR h) (A i) (-2)) := s2.wrJ _ _ _
        have eo3 : oR (wrJ (wr h1 129 2 (Int32.ofNat (6 + tot hp L' + (2 + ob.2.length)))) (oR h) (A i) (-2)) = oR h := (oR_of (fun b => sh_wrJ _ _ _ _ b)).trans eo2
        have t2 := T_oR s2 (i := A i) (by omega) (-2)
        rw [eo2] at t2
        have t3 := T_oR s3 (i := A i + 1) (by omega) (wO (6 + tot hp L'))
        rw [eo3] at t3
        have s4 : Sg (wrJ (wrJ (wr h1 129 2 (Int32.ofNat (6 + tot hp L' + (2 + ob.2.length)))) (oR h) (A i) (-2)) (oR h) (A i + 1) (wO (6 + tot hp L'))) := s3.wrJ _ _ _
        refine ⟨wO (6 + tot hp L'), wrJ (wrJ (wr h1 129 2 (Int32.ofNat (6 + tot hp L' + (2 + ob.2.length)))) (oR h) (A i) (-2)) (oR h) (A i + 1) (wO (6 + tot hp L')), (fun j => if j = i then 6 + tot hp L' else A' j), L' ++ [i], ?_, ?_, ?_, ?_, ?_⟩
        · rw [f1, Option.bind_some, g_129_2 s1, Option.bind_some, f4, m6, Option.bind_some, ← Int32.ofNat_add, p_129_2 s1, Option.bind_some, R_129_1 s2, Option.bind_some, eo2, t2, Option.bind_some, R_129_1 s3, Option.bind_some, eo3]
          show ((stJ _ (oR h) (Int32.ofNat (A i + 1)) (wO (6 + tot hp L'))).bind fun h23 => some (wO (6 + tot hp L'), h23)) = _
          rw [t3, Option.bind_some]
        · have hsh : ∀ b, sh (wrJ (wrJ (wr h1 129 2 (Int32.ofNat (6 + tot hp L' + (2 + ob.2.length)))) (oR h) (A i) (-2)) (oR h) (A i + 1) (wO (6 + tot hp L'))) b = sh h b := fun b => (sh_wrJ _ _ _ _ b).trans ((sh_wrJ _ _ _ _ b).trans ((sh_wr _ _ _ _ b).trans (f2 b)))
          have eo4 := oR_of hsh
          have ec4 := cR_of hsh
          have hro' : ∀ k, k ≠ A i → k ≠ A i + 1 → rdJ (wrJ (wrJ (wr h1 129 2 (Int32.ofNat (6 + tot hp L' + (2 + ob.2.length)))) (oR h) (A i) (-2)) (oR h) (A i + 1) (wO (6 + tot hp L'))) (oR h) k = rdJ h (oR h) k := fun k k1 k2 => by
            rw [rdJ_wrJ_ne _ _ (by omega), rdJ_wrJ_ne _ _ (by omega), rdJ_wr, f5 _ _ (by omega)]
          have hrc' : ∀ k, rdJ (wrJ (wrJ (wr h1 129 2 (Int32.ofNat (6 + tot hp L' + (2 + ob.2.length)))) (oR h) (A i) (-2)) (oR h) (A i + 1) (wO (6 + tot hp L'))) (cR h) k = if 6 + tot hp L' ≤ k ∧ k < 6 + tot hp L' + (2 + ob.2.length) then rdJ h (oR h) (A i + (k - (6 + tot hp L'))) else rdJ h (cR h) k := fun k => by
            rw [rdJ_wrJ_ne _ _ (by omega), rdJ_wrJ_ne _ _ (by omega), rdJ_wr, f6]
          have hne : ∀ j, j ∈ L' → j ≠ i := fun j hj e => hL' (e ▸ hj)
          have hext : ∀ x : Nat, (x ∈ L' ∨ x < 5) → (x ∈ L' ++ [i] ∨ x < 5) ∧ (if x = i then 6 + tot hp L' else A' x) = A' x := fun x hx => by
            have hxi : x ≠ i := by
              rintro rfl
              rcases hx with y | y
              · exact hL' y
              · omega
            rw [if_neg hxi]
            exact ⟨hx.imp (fun y => List.mem_append.mpr (Or.inl y)) (fun y => y), rfl⟩
          refine ⟨s4, ?_, ?_, m4.app hL' z l4 rfl, ?_, ?_, ?_, ?_, ?_, ?_⟩
          · intro k hk
            rw [rdJ_wrJ_ne _ _ (by omega), rdJ_wrJ_ne _ _ (by omega), rdJ_wr, rdJ_wrJ_ne _ _ (by omega), rdJ_wrJ_ne _ _ (by omega), rdJ_wr]
            have := m2 k hk
            rcases hro with ⟨q1, q2⟩ | ⟨q1, q2⟩
            · have e := f6 (k + 1)
              rw [q1, if_neg (by omega)] at e
              rw [e, f5 131 _ (by omega)]
              exact this
            · have e := f6 (k + 1)
              rw [q1, if_neg (by omega)] at e
              rw [e, f5 130 _ (by omega)]
              exact this
          · intro k hk
            dsimp only
            rw [if_neg (by omega)]
            exact m3 k hk
          · intro j hj
            rcases List.mem_append.mp hj with y | y
            · exact m5 j y
            · rw [List.mem_singleton.mp y]; exact ⟨hiL, hRi⟩
          · rw [rd_wrJ, rd_wrJ, w_129_2 s1, tot_app]
            show _ = Int32.ofNat (6 + (tot hp L' + (2 + obL hp i + 0)))
            rw [obL_get hob, show 6 + tot hp L' + (2 + ob.2.length) = 6 + (tot hp L' + (2 + ob.2.length + 0)) by omega]
          · rw [tot_app]; omega
          · intro j hj hj'
            rw [eo4]
            rcases List.mem_append.mp hj' with y | y
            · have hji := hne j y
              have ap := o2.apart j i hj hiL hji
              rw [obL_get hob] at ap
              rw [hro' _ (by omega) (by omega), hro' _ (by omega) (by omega)]
              dsimp only
              rw [if_neg hji]
              exact m8 j hj y
            · obtain rfl := List.mem_singleton.mp y
              dsimp only
              rw [if_pos rfl]
              refine ⟨?_, ?_⟩
              · rw [rdJ_wrJ_ne _ _ (by omega)]
                have := W_oR s2 (A j) (-2)
                rw [eo2] at this
                exact this
              · have := W_oR s3 (A j + 1) (wO (6 + tot hp L'))
                rw [eo3] at this
                exact this
          · intro j hj hj'
            rw [eo4]
            have hji : j ≠ i := fun e => hj' (by rw [e]; exact List.mem_append.mpr (Or.inr (List.mem_singleton.mpr rfl)))
            have hjn : j ∉ L' := fun y => hj' (List.mem_append.mpr (Or.inl y))
            intro ob' hob'
            obtain ⟨d1, d2, d3⟩ := m9 j hj hjn ob' hob'
            have ap := o2.apart j i hj hiL hji
            rw [obL_get hob, obL_get hob'] at ap
            refine ⟨by rw [hro' _ (by omega) (by omega)]; exact d1, by rw [hro' _ (by omega) (by omega)]; exact d2, fun k x hk => ?_⟩
            have := (List.getElem?_eq_some_iff.mp hk).1
            rw [hro' _ (by omega) (by omega)]
            exact d3 k x hk
          · intro j hj ob' hob'
            rw [ec4]
            dsimp only
            rcases List.mem_append.mp hj with y | y
            · have hji := hne j y
              obtain ⟨d1, d2, d3⟩ := m10 j y ob' hob'
              have ml := m4.mem j y
              rw [obL_get hob'] at ml
              rw [if_neg hji]
              refine ⟨by rw [hrc', if_neg (by omega)]; exact d1, by rw [hrc', if_neg (by omega)]; exact d2, fun k x hk => ?_⟩
              have := (List.getElem?_eq_some_iff.mp hk).1
              rw [hrc', if_neg (by omega)]
              exact ⟨fun q => ((d3 k x hk).1 q).mono hext, (d3 k x hk).2⟩
            · obtain rfl := List.mem_singleton.mp y
              rw [hob] at hob'
              obtain rfl := Option.some.inj hob'
              rw [if_pos rfl]
              refine ⟨?_, ?_, fun k x hk => ?_⟩
              · rw [hrc', if_pos (by omega), Nat.sub_self, Nat.add_zero]; exact c1
              · rw [hrc', if_pos (by omega), show 6 + tot hp L' + 1 - (6 + tot hp L') = 1 by omega]; exact c2
              · have := (List.getElem?_eq_some_iff.mp hk).1
                refine ⟨fun q => by omega, fun q => ?_⟩
                rw [hrc', if_pos (by omega), show A j + (6 + tot hp L' + 2 + k - (6 + tot hp L')) = A j + 2 + k by omega]
                exact c3 k x hk
        · refine ⟨fun b => (sh_wrJ _ _ _ _ b).trans ((sh_wrJ _ _ _ _ b).trans ((sh_wr _ _ _ _ b).trans (f2 b))), fun a k n => ?_, fun a k n1 n2 => ?_⟩
          · rw [rd_wrJ, rd_wrJ, rd_wr_ne _ _ (fun y => n ⟨y.1.symm, y.2.symm⟩), f4]
          · rw [rdJ_wrJ_ne _ _ (by omega), rdJ_wrJ_ne _ _ (by omega), rdJ_wr, f5 _ _ (by omega)]
        · refine ⟨?_, okV_ob (Or.inl (List.mem_append.mpr (Or.inr (List.mem_singleton.mpr rfl))))⟩
          show _ = wO (if i = i then 6 + tot hp L' else A' i)
          rw [if_pos rfl]
        · refine ⟨⟨[i], rfl⟩, ?_⟩
          intro x hx
          have hxi : x ≠ i := by
            rintro rfl
            rcases hx with y | y
            · exact hL' y
            · omega
          dsimp only
          rw [if_neg hxi]
          exact ⟨hx.imp (fun y => List.mem_append.mpr (Or.inl y)) (fun y => y), rfl⟩
