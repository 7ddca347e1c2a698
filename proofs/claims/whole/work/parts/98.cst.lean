/-! ===== THE CLASS' READER: small statements ===== -/
theorem Tks.argl_cl {S : Tks} {sub : Nat → Pr Tr} (hs : S.Cap sub) : ∀ (f : Nat) (s : Tr) (n t : Nat) (y : Tr × Nat) (t' : Nat), S.argl sub f s n t = ok y t' → cl y.1 + 1 + S.P t ≤ cl s + S.P t'
  | 0, s, n, t, y, t', h => (no_ok h).elim
  | f + 1, s, n, t, y, t', h => by
    unfold Tks.argl at h
    obtain ⟨a, u, h1, h2⟩ := Pr.bind_eq_ok h
    have h3 := hs _ _ _ h1
    have h4 := cl_le_wt a
    have h7 := cl_arg s a
    split at h2
    · rename_i h5
      have h6 := Tks.argl_cl hs f _ _ _ _ _ h2
      have := Tks.mono_k h5 (by decide)
      omega
    · split at h2
      · rename_i h5
        obtain ⟨h6, h8⟩ := ok_inj h2
        have := Tks.mono_k h5 (by decide)
        subst h6 h8
        show cl (eArg s a) + _ + _ ≤ _
        omega
      · exact (no_ok h2).elim
theorem Tks.args_cl {S : Tks} {sub : Nat → Pr Tr} (hs : S.Cap sub) {r : Nat} {s : Tr} {t : Nat} {y : Tr × Nat} {t' : Nat} (h : S.args r sub s t = ok y t') : cl y.1 + 2 + S.P t ≤ cl s + S.P t' := by
  unfold Tks.args at h
  split at h
  · exact (no_ok h).elim
  · rename_i h0
    have h1 : S.P t + 1 ≤ S.P (t + 1) := Tks.mono_k (Decidable.not_not.mp (fun z => h0 (Or.inl z))) (by decide)
    split at h
    · rename_i h5
      obtain ⟨h6, h7⟩ := ok_inj h
      have : S.P (t + 1) + 1 ≤ S.P (t + 2) := Tks.mono_k h5 (by decide)
      subst h6 h7
      show cl s + 2 + _ ≤ _
      omega
    · have := Tks.argl_cl hs _ _ _ _ _ _ h
      omega
/-- a call leaves a byte more -/
def Tks.CapC (S : Tks) (p : Nat → Pr Tr) : Prop := ∀ t x t', p t = ok x t' → isCallE x = true → cl x + 1 + S.P t ≤ S.P t'
theorem notCall {k v w : Nat} {a b : Tr} (h : k ≠ 30) : ¬ isCallE (nd k v w a b) = true := by
  intro z
  have z : (k == 30) = true := z
  simp at z
  exact h z
theorem Tks.chn_capC {S : Tks} {sub : Nat → Pr Tr} (hs : S.Cap sub) (r p0 : Nat) : ∀ (f : Nat) (x : Tr) (t : Nat) (y : Tr) (t' : Nat), S.chn r sub f x t = ok y t' → wt x + p0 ≤ S.P t → (isCallE x = true → cl x + 1 + p0 ≤ S.P t) → isCallE y = true → cl y + 1 + p0 ≤ S.P t'
  | 0, x, t, y, t', h, hx, hc, hy => by
    unfold Tks.chn at h
    obtain ⟨h1, h2⟩ := ok_inj h
    subst h1 h2
    exact hc hy
  | f + 1, x, t, y, t', h, hx, hc, hy => by
    have hcl := cl_le_wt x
    rw [Tks.chn_succ] at h
    split at h
    · rename_i hk
      obtain ⟨z, u, h1, h2⟩ := Pr.bind_eq_ok h
      have hz : wt z + p0 ≤ S.P u ∧ (isCallE z = true → cl z + 1 + p0 ≤ S.P u) := by
        have h0 := Tks.chn_succ S r sub 0 x t
        rw [if_pos hk, h1, Pr.bind_ok] at h0
        have hcap := Tks.chn_cap hs r 1 x t z u h0
        refine ⟨by omega, fun hcz => ?_⟩
        unfold Tks.beh at h1
        split at h1
        · rename_i h46
          have m1 := Tks.mono_k h46 (by decide)
          split at h1
          · exact (no_ok h1).elim
          · rename_i h22
            have m2 : S.P (t + 1) + 1 ≤ S.P (t + 2) := Tks.mono_k (Decidable.not_not.mp h22) (by decide)
            split at h1
            · obtain ⟨a, v, g1, g2⟩ := Pr.bind_eq_ok h1
              have := Tks.args_cl hs g1
              obtain ⟨g3, g4⟩ := ok_inj g2
              subst g3 g4
              have := cl_call a.2 (t + 1) a.1
              omega
            · obtain ⟨g3, g4⟩ := ok_inj h1
              subst g3 g4
              exact absurd hcz (notCall (by decide))
        · split at h1
          · obtain ⟨a, v, g1, g2⟩ := Pr.bind_eq_ok h1
            obtain ⟨g3, g4⟩ := ok_inj g2
            subst g3 g4
            exact absurd hcz (notCall (by decide))
          · split at h1
            · exact (no_ok h1).elim
            · obtain ⟨g3, g4⟩ := ok_inj h1
              subst g3 g4
              exact absurd hcz (notCall (by decide))
      exact Tks.chn_capC hs r p0 f z u y t' h2 hz.1 hz.2 hy
    · obtain ⟨h1, h2⟩ := ok_inj h
      subst h1 h2
      exact hc hy
theorem Tks.first_capC {S : Tks} {sub : Nat → Pr Tr} (hs : S.Cap sub) (hc : S.CapC sub) (r : Nat) : S.CapC (S.first r sub) := by
  intro t x t' h hx
  unfold Tks.first at h
  repeat' split at h
  all_goals first
    | (exact (no_ok h).elim)
    | (obtain ⟨h6, h7⟩ := ok_inj h; subst h6 h7; exact absurd hx (notCall (by decide)))
    | skip
  · rename_i h5 _
    obtain ⟨y, u, h1, h2⟩ := Pr.bind_eq_ok h
    have := Tks.args_cl hs h1
    obtain ⟨h6, h7⟩ := ok_inj h2
    have := Tks.mono_k h5 (by decide)
    subst h6 h7
    have e := cl_call y.2 t y.1
    have e2 := cl_self
    omega
  · unfold Tks.brk at h
    split at h
    · exact (no_ok h).elim
    · rename_i h0
      have m1 : S.P t + 1 ≤ S.P (t + 1) := Tks.mono_k (Decidable.not_not.mp (fun z => h0 (Or.inl z))) (by decide)
      obtain ⟨y, u, h1, h2⟩ := Pr.bind_eq_ok h
      split at h2
      · rename_i h5
        have := Tks.mono_k h5 (by decide)
        obtain ⟨h6, h7⟩ := ok_inj h2
        subst h6 h7
        have := hc _ _ _ h1 hx
        omega
      · exact (no_ok h2).elim
  · obtain ⟨y, u, h1, h2⟩ := Pr.bind_eq_ok h
    obtain ⟨h6, h7⟩ := ok_inj h2
    subst h6 h7
    exact absurd hx (notCall (by decide))
theorem Tks.chain_capC {S : Tks} {sub : Nat → Pr Tr} (hs : S.Cap sub) (hc : S.CapC sub) (r : Nat) : S.CapC (S.chain r sub) := by
  intro t x t' h hx
  obtain ⟨y, u, h1, h2⟩ := Pr.bind_eq_ok h
  exact Tks.chn_capC hs r (S.P t) _ y u x t' h2 (Tks.first_cap hs r _ _ _ h1) (fun z => Tks.first_capC hs hc r _ _ _ h1 z) hx
theorem Tks.lp_capC {S : Tks} {s : Nat → Pr Tr} {p0 : Nat} : ∀ (l f : Nat) (x : Tr) (t : Nat) (y : Tr) (t' : Nat), S.lp s l f x t = ok y t' → (isCallE x = true → cl x + 1 + p0 ≤ S.P t) → isCallE y = true → cl y + 1 + p0 ≤ S.P t'
  | l, 0, x, t, y, t', h, hc, hy => by
    obtain ⟨h1, h2⟩ := ok_inj h
    subst h1 h2
    exact hc hy
  | l, f + 1, x, t, y, t', h, hc, hy => by
    rw [Tks.lp_succ] at h
    split at h
    · obtain ⟨h1, h2⟩ := ok_inj h
      subst h1 h2
      exact hc hy
    · split at h
      · split at h
        · obtain ⟨h1, h2⟩ := ok_inj h
          subst h1 h2
          exact absurd hy (notCall (by decide))
        · exact (no_ok h).elim
      · obtain ⟨a, u, h1, h2⟩ := Pr.bind_eq_ok h
        have ho := opc_rng (S.K t)
        have nc : ¬ isCallE (mk2 (S.K t) x a) = true := notCall (by omega)
        split at h2
        · obtain ⟨h3, h4⟩ := ok_inj h2
          subst h3 h4
          exact absurd hy nc
        · exact Tks.lp_capC l f _ u y t' h2 (fun z => absurd z nc) hy
theorem Tks.lv_capC {S : Tks} {s : Nat → Pr Tr} (hs : S.CapC s) : ∀ i, S.CapC (S.lv s i)
  | 0 => hs
  | i + 1 => by
    intro t x t' h hx
    obtain ⟨a, u, h1, h2⟩ := Pr.bind_eq_ok (show (S.lv s i t).bind _ = _ from h)
    exact Tks.lp_capC (s := S.lv s i) (p0 := S.P t) (6 - i) (S.E - u) a u x t' h2 (fun z => Tks.lv_capC hs i _ _ _ h1 z) hx
theorem Tks.sgl_capC (S : Tks) : ∀ r, S.CapC (S.sgl r)
  | 0 => by
    intro t x t' h hx
    unfold Tks.sgl at h
    split at h
    · exact (no_ok h).elim
    · exact Tks.chain_capC (fun t x t' h => (no_ok h).elim) (fun t x t' h => (no_ok h).elim) 0 _ _ _ h hx
  | r + 1 => by
    intro t x t' h hx
    unfold Tks.sgl at h
    split at h
    · obtain ⟨y, u, h1, h2⟩ := Pr.bind_eq_ok h
      obtain ⟨h6, h7⟩ := ok_inj h2
      subst h6 h7
      exact absurd hx (notCall (by split <;> decide))
    · exact Tks.chain_capC (Tks.expr_cap S r) (Tks.lv_capC (Tks.sgl_capC S r) 6) _ _ _ _ h hx
theorem Tks.expr_capC (S : Tks) (r : Nat) : S.CapC (S.expr r) := Tks.lv_capC (Tks.sgl_capC S r) 6
theorem RX.mono {C : Cx} {N J J' mn r wb wb' : Nat} {sub : Nat → Pr Tr} (h : RX C N J mn sub r wb) (hJ : J ≤ J') (hw : wb' ≤ wb) : RX C N J' mn sub r wb' := fun j hj t W c p o h' q hW => h j (by omega) t W c p o h' q (by omega)
theorem ex7 {C : Cx} {N r t c : Nat} {p o : Int32} {h : pH} (hN : 3200 < N) (q : At7 C r t 0 c p o h) : PX C (C.1.expr r t) r 0 c p o h (rcV (gX7_readSign N 600) 76 [.ref 46] h) := expr_run7 hN r 600 (by have := q.2.2.1; omega) t 0 c p o h q (by omega)
theorem br7 {C : Cx} {N r t c : Nat} {p o : Int32} {h : pH} (hN : 3200 < N) (q : At7 C r t 0 c p o h) : PX C (C.1.brk r (C.1.expr (r - 1)) 40 41 t) r 0 c p o h (rcV (gX7_readSign N 600) 75 [.ref 46] h) := by
  have hr := q.2.2.1
  refine bracketed_run (J := 6 * r + 9) (fun r' z => ?_) (by omega) (by omega) 600 (by omega) t 0 c p o h q (by omega)
  subst z
  exact (expr_run7 hN r').mono (by omega) (Nat.le_refl _)
theorem Er7.bracketed {C : Cx} {N w W : Nat} {h : pH} (hN : 400 < N) (q : Er7 C w W h) : ∃ h', rcV (gX7_readSign N 600) 75 [.ref 46] h = some h' ∧ Er7 C w W h' ∧ Chg (eA W) h h' := by
  obtain ⟨h1, e1, q1, c1⟩ := q.opn (N := N) (k := 40) (by decide)
  obtain ⟨h3, e3, q3, c3⟩ := Er7.expr hN 599 (by omega) _ _ _ q1
  obtain ⟨h4, e4, q4, c4⟩ := q3.close (N := N) (k := 41) (by decide)
  refine ⟨h4, ?_, q4, ((c1.mono (fun a k z => m7_e z)).trans c3).trans (c4.mono (fun a k z => m7_e z))⟩
  rw [k_75]
  unfold fX7_readBracketed
  rw [if_pos (o_46 q.sg), e1, Option.bind_some, guard46 q1.sg, Option.bind_some, e3, Option.bind_some, e4, Option.bind_some]
/-- the numbers of names are numbers -/
def NmC (C : Cx) : Prop := ∀ i, i ≤ C.2.2 → C.1.K i = 22 → ∃ n, n < 4000 ∧ C.2.1 i = Int32.ofNat n
theorem ne_m6 {n : Nat} (h : n < 4000) : Int32.ofNat n ≠ -6 := by
  intro z
  have := congrArg Int32.toInt z
  rw [Int32.toInt_ofNat_of_lt (by omega)] at this
  have e : (-6 : Int32).toInt = -6 := by decide
  omega
theorem takeType_66 {N : Nat} {v : Int32} {h h1 : pH} (hv : v ≠ -6) (e : fX7_advance N 46 h = some h1) : fX7_takeType_66 N 46 v h = some (v, h1) := by
  unfold fX7_takeType_66
  rw [if_neg hv, e, Option.bind_some]
theorem e7_takeType {C : Cx} {N r t W c y : Nat} {p o : Int32} {h : pH} (hC : NmC C) (q : At7 C r t W c p o h) (hy : C.1.ty t = some y) : ∃ h', fX7_takeType N 46 h = some (tyc C y, h') ∧ At7 C r (t + 1) W c p o h' ∧ Chg m7 h h' := by
  have hn := q.1.2.1
  have ht := q.2.1
  unfold Tks.ty at hy
  have key : ∀ (k : Int32), C.1.K t = k → k ≠ 0 → k ≠ 24 → ∃ h', fX7_advance N 46 h = some h' ∧ At7 C r (t + 1) W c p o h' ∧ Chg m7 h h' := fun k z1 z2 z3 => e7_advance q (q.lt z1 z2 z3)
  unfold fX7_takeType
  rw [if_pos (o_46 q.sg), g_46_9 q.sg, Option.bind_some, q.kind]
  by_cases h2 : C.1.K t = 2
  · rw [if_pos h2] at hy
    obtain rfl := Option.some.inj hy
    obtain ⟨h', e1, q1, c1⟩ := key 2 h2 (by decide) (by decide)
    refine ⟨h', ?_, q1, c1⟩
    rw [h2, if_neg (by decide), Option.bind_some, if_pos rfl, takeType_66 (by decide) e1]
    rfl
  rw [if_neg h2] at hy
  by_cases h3 : C.1.K t = 3
  · rw [if_pos h3] at hy
    obtain rfl := Option.some.inj hy
    obtain ⟨h', e1, q1, c1⟩ := key 3 h3 (by decide) (by decide)
    refine ⟨h', ?_, q1, c1⟩
    rw [h3, if_neg (by decide), Option.bind_some, if_neg (by decide), Option.bind_some, if_pos rfl, takeType_66 (by decide) e1]
    rfl
  rw [if_neg h3] at hy
  by_cases h4 : C.1.K t = 4
  · rw [if_pos h4] at hy
    obtain rfl := Option.some.inj hy
    obtain ⟨h', e1, q1, c1⟩ := key 4 h4 (by decide) (by decide)
    refine ⟨h', ?_, q1, c1⟩
    rw [h4, if_neg (by decide), Option.bind_some, if_neg (by decide), Option.bind_some, if_neg (by decide), Option.bind_some, if_pos rfl, takeType_66 (by decide) e1]
    rfl
  rw [if_neg h4] at hy
  by_cases h22 : C.1.K t = 22
  · rw [if_pos h22] at hy
    obtain rfl := Option.some.inj hy
    obtain ⟨h', e1, q1, c1⟩ := key 22 h22 (by decide) (by decide)
    obtain ⟨n, n1, n2⟩ := hC t ht h22
    refine ⟨h', ?_, q1, c1⟩
    have hty : tyc C (4 + t) = C.2.1 t := by
      unfold tyc
      rw [if_neg (by omega), if_neg (by omega), if_neg (by omega), if_neg (by omega), show 4 + t - 4 = t by omega]
    rw [if_pos h22, R_46_0 q.sg, Option.bind_some, R_8_1 q.sg, Option.bind_some, g_46_8 q.sg, Option.bind_some, q.2.2.2.2.2.2.1, L_10 q.sg (by omega), Option.bind_some, (q.1.2.2.2.2.2.1 t ht).2.2.1 h22, takeType_66 (by rw [n2]; exact ne_m6 n1) e1, hty]
  · rw [if_neg h22] at hy
    cases hy
theorem e7_takeType_no {C : Cx} {N r t W c : Nat} {p o : Int32} {h : pH} (q : At7 C r t W c p o h) (hy : C.1.ty t = none) : ∃ x h', fX7_takeType N 46 h = some (x, h') ∧ Er7 C (C.1.P t) W h' ∧ Chg m7 h h' := by
  obtain ⟨h', e1, q1, c1⟩ := e7_fail (N := N) q
  refine ⟨-6, h', ?_, q1, c1⟩
  unfold Tks.ty at hy
  have h2 : ¬ C.1.K t = 2 := fun z => by rw [if_pos z] at hy; cases hy
  rw [if_neg h2] at hy
  have h3 : ¬ C.1.K t = 3 := fun z => by rw [if_pos z] at hy; cases hy
  rw [if_neg h3] at hy
  have h4 : ¬ C.1.K t = 4 := fun z => by rw [if_pos z] at hy; cases hy
  rw [if_neg h4] at hy
  have h22 : ¬ C.1.K t = 22 := fun z => by rw [if_pos z] at hy; cases hy
  unfold fX7_takeType fX7_takeType_66
  rw [if_pos (o_46 q.sg), g_46_9 q.sg, Option.bind_some, q.kind, if_neg h22, Option.bind_some, if_neg h2, Option.bind_some, if_neg h3, Option.bind_some, if_neg h4, if_pos rfl, e1, Option.bind_some]
theorem Er7.takeType {C : Cx} {N w W : Nat} {h : pH} (q : Er7 C w W h) : fX7_takeType N 46 h = some (-6, h) := by
  unfold fX7_takeType fX7_takeType_66
  rw [if_pos (o_46 q.sg), g_46_9 q.sg, Option.bind_some, q.kind, if_neg (by decide), Option.bind_some, if_neg (by decide), Option.bind_some, if_neg (by decide), Option.bind_some, if_neg (by decide), if_pos rfl, q.fail, Option.bind_some]
def QC5 (C : Cx) (h : pH) : QB := fun p o i k v w g => QC C p o h i k v w g
def sA (c : Nat) : Nat → Nat → Prop := fun a k => xA 0 c a k ∨ (a = 38 ∧ (k = 8 ∨ k = 9))
theorem xA_s {c a k : Nat} (z : xA 0 c a k) : sA c a k := Or.inl z
theorem sA_e {c a k : Nat} (z : sA c a k) : eA 0 a k := by unfold sA xA at z; unfold eA; omega
theorem sA_le {c c' a k : Nat} (h : c ≤ c') (z : sA c' a k) : sA c a k := by unfold sA xA at z ⊢; omega
theorem m7_s {c a k : Nat} (z : m7 a k) : sA c a k := Or.inl (m7_x z)
/-- what a reading of a statement comes to -/
def PS7 (C : Cx) (q : Pr Tr) (r c : Nat) (o : Int32) (h : pH) (res : Option pH) : Prop := (∀ x t', q = ok x t' → ∃ h' p', res = some h' ∧ At7 C r t' 0 (c + cb x) p' o h' ∧ CB (QC5 C h') x c o ∧ (∃ n, OkS n x) ∧ Chg (sA c) h h') ∧ (∀ w, q = no w → ∃ h', res = some h' ∧ Er7 C w 0 h' ∧ Chg (eA 0) h h')
theorem PS7.mk_ok {C : Cx} {r c t' : Nat} {p' o : Int32} {h h' : pH} {x : Tr} {res : Option pH} (e : res = some h') (a : At7 C r t' 0 (c + cb x) p' o h') (b : CB (QC5 C h') x c o) (s : ∃ n, OkS n x) (g : Chg (sA c) h h') : PS7 C (ok x t') r c o h res := ⟨fun y u z => by
  obtain ⟨rfl, rfl⟩ := ok_inj z
  exact ⟨h', p', e, a, b, s, g⟩, fun w z => (by cases z)⟩
theorem PS7.mk_no {C : Cx} {r c w : Nat} {o : Int32} {h h' : pH} {res : Option pH} (e : res = some h') (a : Er7 C w 0 h') (g : Chg (eA 0) h h') : PS7 C (no w) r c o h res := ⟨fun y u z => (by cases z), fun w' z => by
  obtain rfl := Sum.inr.inj z
  exact ⟨h', e, a, g⟩⟩
/-- ; at the end -/
theorem semi_run {C : Cx} {N r t c : Nat} {p o : Int32} {h0 h : pH} {x : Tr} (q : At7 C r t 0 (c + cb x) p o h) (qb : ∀ h', (∀ y i, 39 ≤ y → y ≤ 45 → rd h' y i = rd h y i) → CB (QC5 C h') x c o) (hs : ∃ n, OkS n x) (g : Chg (sA c) h0 h) : PS7 C (C.1.semi x t) r c o h0 ((fX7_take N 46 59 h).bind fun h1 => some h1) := by
  unfold Tks.semi
  by_cases h59 : C.1.K t = 59
  · rw [if_pos h59]
    obtain ⟨h1, e1, q1, c1⟩ := e7_take (N := N) q h59 (by decide) (by decide)
    refine PS7.mk_ok (h' := h1) (by rw [e1, Option.bind_some]) q1 (qb h1 (fun y i y1 y2 => c1.2.2.1 _ _ (by unfold m7; omega))) hs (g.trans (c1.mono (fun a k z => m7_s z)))
  · rw [if_neg h59]
    obtain ⟨h1, e1, q1, c1⟩ := e7_take_no (N := N) (k := 59) q h59
    exact PS7.mk_no (h' := h1) (by rw [e1, Option.bind_some]) q1 ((g.mono (fun a k z => sA_e z)).trans (c1.mono (fun a k z => m7_e z)))
theorem Er7.semi {C : Cx} {N w W : Nat} {h : pH} (q : Er7 C w W h) : ((fX7_take N 46 59 h).bind fun h1 => some h1) = some h := by
  rw [q.take (by decide), Option.bind_some]
theorem PcAt.same {h h' : pH} {i : Nat} {k a b tg p o : Int32} (q : PcAt h i k a b tg p o) (e : ∀ y, 39 ≤ y → y ≤ 45 → rd h' y i = rd h y i) : PcAt h' i k a b tg p o := by
  obtain ⟨q1, q2, q3, q4, q5, q6⟩ := q
  exact ⟨by rw [e 39 (by omega) (by omega)]; exact q1, by rw [e 40 (by omega) (by omega)]; exact q2, by rw [e 41 (by omega) (by omega)]; exact q3, by rw [e 42 (by omega) (by omega)]; exact q4, by rw [e 43 (by omega) (by omega)]; exact q5, by rw [e 45 (by omega) (by omega)]; exact q6⟩
theorem CE.same {C : Cx} {p o : Int32} {h h' : pH} {e : Tr} {c : Nat} (q : CE (QC C p o h) e c) (g : ∀ y i, 39 ≤ y → y ≤ 45 → rd h' y i = rd h y i) : CE (QC C p o h') e c := CE.mono e c (fun i k v w t i1 i2 z => PcAt.same z (fun y y1 y2 => g y i y1 y2)) q
