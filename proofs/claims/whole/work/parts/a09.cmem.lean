/-! ===== THE CLASS' READER: members ===== -/
def nA (m p c : Nat) : Nat → Nat → Prop := fun a k => sA c a k ∨ (a = 25 ∧ (k = 11 ∨ k = 14)) ∨ (26 ≤ a ∧ a ≤ 35 ∧ m ≤ k) ∨ ((a = 36 ∨ a = 37) ∧ p ≤ k)
theorem nA_e {m p c a k : Nat} (z : nA m p c a k) : eM a k := by
  rcases z with z | z | z | z
  · exact Or.inl (sA_e z)
  · exact Or.inr (by omega)
  · exact Or.inr (by omega)
  · exact Or.inr (by omega)
theorem nA_le {m p c m' p' c' a k : Nat} (h1 : m ≤ m') (h2 : p ≤ p') (h3 : c ≤ c') (z : nA m' p' c' a k) : nA m p c a k := by
  rcases z with z | z | z | z
  · exact Or.inl (sA_le h3 z)
  · exact Or.inr (Or.inl z)
  · exact Or.inr (Or.inr (Or.inl (by omega)))
  · exact Or.inr (Or.inr (Or.inr (by omega)))
theorem m7_n {m p c a k : Nat} (z : m7 a k) : nA m p c a k := Or.inl (m7_s z)
theorem WTb.mono {C : Cx} {h : pH} (q : WTb C h) : ∀ (d t : Nat), t + d ≤ C.2.2 → C.1.P t ≤ C.1.P (t + d)
  | 0, t, _ => Nat.le_refl _
  | d + 1, t, hd => by
    have h1 := WTb.mono q d t (by omega)
    have h2 : C.1.P (t + d) < C.1.P (t + d + 1) := C.1.mono _ (q.2.2.2.1 (t + d) (by omega)).1
    exact Nat.le_trans h1 (Nat.le_of_lt h2)
theorem WTb.le {C : Cx} {h : pH} (q : WTb C h) {t t' : Nat} (h1 : t ≤ t') (h2 : t' ≤ C.2.2) : C.1.P t ≤ C.1.P t' := by
  have := q.mono (t' - t) t (by omega)
  rwa [show t + (t' - t) = t' by omega] at this
/-- a member in the tables -/
def mcR (C : Cx) (h : pH) (b : Mb) (m p c : Nat) : Prop := rd h 26 m = C.2.1 b.2.2.1 ∧ rd h 27 m = Int32.ofNat b.2.2.2.1 ∧ rd h 28 m = tyc C b.2.1 ∧ rd h 29 m = (if b.1 = true then 1 else 0) ∧ rd h 31 m = Int32.ofNat p ∧ rd h 32 m = Int32.ofNat b.2.2.2.2.1.length ∧ pcR C h b.2.2.2.2.1 p ∧ (b.1 = true → rd h 33 m = Int32.ofNat c ∧ CB (QC5 C h) (mbB b) c (-1) ∧ PcAt h (c + cb (mbB b)) 61 0 0 0 (Int32.ofNat b.2.2.2.2.2.2) (-1) ∧ ∃ n, OkB n (mbB b))
def mcC (b : Mb) : Nat := if b.1 = true then cb (mbB b) + 1 else 0
theorem mcR.chg {C : Cx} {h h' : pH} {b : Mb} {m p c : Nat} (q : mcR C h b m p c) (g1 : ∀ a, 26 ≤ a → a ≤ 35 → rd h' a m = rd h a m) (g2 : ∀ a k, (a = 36 ∨ a = 37) → k < p + mbP b → rd h' a k = rd h a k) (g3 : ∀ a k, 39 ≤ a → a ≤ 45 → c ≤ k → k < c + mcC b → rd h' a k = rd h a k) : mcR C h' b m p c := by
  obtain ⟨q1, q2, q3, q4, q5, q6, q7, q8⟩ := q
  refine ⟨?_, ?_, ?_, ?_, ?_, ?_, q7.chg g2, fun z => ?_⟩
  · rw [g1 26 (by omega) (by omega)]; exact q1
  · rw [g1 27 (by omega) (by omega)]; exact q2
  · rw [g1 28 (by omega) (by omega)]; exact q3
  · rw [g1 29 (by omega) (by omega)]; exact q4
  · rw [g1 31 (by omega) (by omega)]; exact q5
  · rw [g1 32 (by omega) (by omega)]; exact q6
  · obtain ⟨r1, r2, r3, n, r4⟩ := q8 z
    have hc : mcC b = cb (mbB b) + 1 := if_pos z
    rw [hc] at g3
    exact ⟨by rw [g1 33 (by omega) (by omega)]; exact r1, CB.same r4 r2 (fun y i y1 y2 i1 i2 => g3 y i y1 y2 i2 (by omega)), PcAt.same r3 (fun y y1 y2 => g3 y _ y1 y2 (by omega) (by omega)), n, r4⟩
/-- what a reading of a member comes to -/
def PM8 (C : Cx) (q : Pr Mb) (r c m p0 : Nat) (h : pH) (res : Option pH) : Prop := (∀ b t', q = ok b t' → ∃ h' p', res = some h' ∧ At8 C r t' (c + mcC b) (m + 1) (p0 + mbP b) 0 p' h' ∧ mcR C h' b m p0 c ∧ Chg (nA m p0 c) h h') ∧ (∀ w, q = no w → ∃ h', res = some h' ∧ Er8 C w h' ∧ Chg eM h h')
theorem Er8.add {C : Cx} {N w : Nat} {h : pH} (q : Er8 C w h) (v1 v2 v3 v4 : Int32) (hv : v4 = 0 ∨ v4 = 1) : ∃ h', fX6_add N 25 v1 v2 v3 v4 h = some h' ∧ Er8 C w h' ∧ Chg eM h h' := by
  obtain ⟨q1, ⟨m, m1, m2⟩, ⟨p, p1, p2⟩, k, k1, k2⟩ := id q
  rcases Nat.lt_or_ge m 1000 with z | z
  · have g := adH_chg h m v1 v2 v3 v4
    refine ⟨_, e6_add v1 v2 v3 v4 hv q1.sg m2 z, ⟨q1.of g (fun a k ha => by unfold adA; omega) (fun k hk => by unfold adA; omega) (by unfold adA; omega) (fun a i a1 a2 a3 => by omega), ⟨m + 1, by omega, (adH_rd q1.sg m v1 v2 v3 v4).2.2.2.2.2.2⟩, ⟨p, p1, ?_⟩, k, k1, ?_⟩, g.mono (fun a k z => by unfold adA at z; unfold eM; omega)⟩
    · rw [g.2.2.1 _ _ (by unfold adA; omega)]; exact p2
    · rw [g.2.2.1 _ _ (by unfold adA; omega)]; exact k2
  · obtain rfl : m = 1000 := by omega
    exact ⟨h, e6_add_full v1 v2 v3 v4 q1.sg m2, q, Chg.refl _ _⟩
theorem Er8.codeOfLast {C : Cx} {N w : Nat} {h : pH} (q : Er8 C w h) (v : Int32) : ∃ h', fX6_codeOfLast N 25 v h = some h' ∧ Er8 C w h' ∧ Chg eM h h' := by
  obtain ⟨q1, ⟨m, m1, m2⟩, ⟨p, p1, p2⟩, k, k1, k2⟩ := id q
  cases m with
  | zero => exact ⟨h, e6_codeOfLast_0 v q1.sg m2, q, Chg.refl _ _⟩
  | succ m =>
    have g : Chg (fun a k => a = 33 ∧ k = m) h (wr h 33 m v) := Chg.wr _ _ _ _ ⟨rfl, rfl⟩
    exact ⟨_, e6_codeOfLast v q1.sg m2 (by omega), q.mv (q1.of g (fun a k ha => by omega) (fun k hk => by omega) (by omega) (fun a i a1 a2 a3 => by omega)) g (fun k => by omega) (by omega), g.mono (fun a k z => by unfold eM; omega)⟩
theorem pars_err {C : Cx} {N w : Nat} {h0 h : pH} (hN : 0 < N) (q : Er8 C w h) (g : Chg eM h0 h) : ∃ h', fX7_readParameters N 46 h = some h' ∧ Er8 C w h' ∧ Chg eM h0 h' := by
  obtain ⟨n, hn⟩ : ∃ n, N = n + 1 := ⟨N - 1, by omega⟩
  obtain ⟨h1, e1, a1, c1⟩ := q.1.opn (N := N) (k := 40) (by decide)
  have b1 := q.mv a1 c1 m7_25 m7_17
  obtain ⟨h2, e2, b2, c2⟩ := parameter_err (N := N) b1 (g.trans (c1.mono (fun a k z => m7_eM z)))
  obtain ⟨h3, e3, b3, c3⟩ := par_21 (N := N) (n := n) (v := 0) b2 c2
  rw [← hn] at e3
  refine ⟨h3, ?_, b3, c3⟩
  unfold fX7_readParameters
  rw [if_pos (o_46 q.1.sg), e1, Option.bind_some, g_46_9 a1.sg, Option.bind_some, a1.kind, if_neg (by decide), e2, Option.bind_some, e3]
/-- the end of a method: its code -/
def mt1 (N : Nat) (h4 : pH) : Option pH := (getR h4 46 7 2).bind fun t5 => (getR h4 46 7 3).bind fun t6 => (getI h4 t6 2 7).bind fun t7 => (fX6_codeOfLast N t5 t7 h4).bind fun h8 => (getR h8 46 7 3).bind fun t9 => (if isO h8 46 7 = true then some () else none).bind fun _ => (rcI (gX7_readWhile N 200) 72 [.ref 46] h8).bind fun q10 => (putI q10.2 t9 2 8 q10.1).bind fun h12 => (getR h12 46 7 3).bind fun t13 => (fX2_emit N t13 61 0 0 h12).bind fun q14 => some q14.2
theorem mt1_err {C : Cx} {N w : Nat} {h0 h : pH} (hN : 0 < N) (q : Er8 C w h) (g : Chg eM h0 h) : ∃ h', mt1 N h = some h' ∧ Er8 C w h' ∧ Chg eM h0 h' := by
  obtain ⟨h1, e1, b1, c1⟩ := q.codeOfLast (N := N) (rd h 38 7)
  obtain ⟨v, h2, e2, a2, c2⟩ := Er7.block (N := N) (j := 199) hN b1.1
  have b2 := b1.mv a2 c2 eA_25 eA_17
  obtain ⟨a3, c3⟩ := a2.set8 (k := 8) (x := v) (Or.inl rfl)
  have b3 := b2.mv a3 c3 eA_25 eA_17
  obtain ⟨m, h4, m1, e4, a4, c4⟩ := a3.emit3 (N := N) (k := 61) (a := 0) (b := 0) (Chg.refl (eA 0) (wr h2 38 8 v))
  refine ⟨h4, ?_, b3.mv a4 c4 eA_25 eA_17, (((g.trans c1).trans (c2.mono (fun a k z => Or.inl z))).trans (c3.mono (fun a k z => Or.inl z))).trans (c4.mono (fun a k z => Or.inl z))⟩
  unfold mt1
  rw [R_46_2 q.1.sg, Option.bind_some, R_46_3 q.1.sg, Option.bind_some, g_38_7 q.1.sg, Option.bind_some, e1, Option.bind_some, R_46_3 b1.1.sg, Option.bind_some, guard46 b1.1.sg, Option.bind_some, e2, Option.bind_some]
  dsimp only
  rw [p_38_8 a2.sg, Option.bind_some, R_46_3 a3.sg, Option.bind_some, e4, Option.bind_some]
theorem mem_124 (N : Nat) (k8 : Nat → Int32 → pH → Option pH) (v1 v6 s1 s2 s3 s4 : Int32) (h : pH) : fX7_readMembers_124 N k8 46 v1 v6 25 s1 s2 s3 s4 h = (fX6_add N 25 s1 s2 s3 s4 h).bind fun h2 => ((if v6 = 0 then (fX7_readParameters N 46 h2).bind fun h4 => mt1 N h4 else fX7_advance N 46 h2).bind fun h' => k8 46 (v1 + 1) h') := by
  unfold fX7_readMembers_124 fX7_readMembers_180 mt1
  congr 1
  funext h2
  split
  · simp only [Option.bind_assoc, Option.bind_some]
  · rfl
/-- one turn of the loop over members, up to its end -/
def mb1 (N : Nat) (h : pH) : Option pH := (getI h 46 7 9).bind fun t34 => ((if t34 = 5 then (fX7_advance N 46 h).bind fun h28 => some ((-4 : Int32), h28) else fX7_takeType N 46 h).bind fun q27 => (getR q27.2 46 7 0).bind fun t18 => (getR q27.2 t18 10 2).bind fun t19 => (getI q27.2 46 7 8).bind fun t20 => (ldI q27.2 t19 t20).bind fun t21 => (fX7_takeName N 46 q27.2).bind fun q22 => (getI q22.2 46 7 9).bind fun t24 => if t34 ≠ 5 ∧ t24 = 59 then (fX6_add N 25 q22.1 t21 q27.1 0 q22.2).bind fun h2 => fX7_advance N 46 h2 else (fX6_add N 25 q22.1 t21 q27.1 1 q22.2).bind fun h2 => (fX7_readParameters N 46 h2).bind fun h4 => mt1 N h4)
theorem mem_102 {N : Nat} {k8 : Nat → Int32 → pH → Option pH} {v1 v3 v4 v5 : Int32} {h : pH} (hs : Sg h) : fX7_readMembers_102 N k8 46 v1 v3 v4 v5 h = ((fX6_add N 25 v5 v4 v3 1 h).bind fun h2 => (fX7_readParameters N 46 h2).bind fun h4 => mt1 N h4).bind fun h' => k8 46 (v1 + 1) h' := by
  unfold fX7_readMembers_102 fX7_readMembers_103
  rw [R_46_2 hs, Option.bind_some, if_pos rfl, if_neg (by decide), mem_124, Option.bind_assoc]
  congr 1
theorem mem_103 {N : Nat} {k8 : Nat → Int32 → pH → Option pH} {v1 v3 v4 v5 : Int32} {h : pH} (hs : Sg h) : fX7_readMembers_103 N k8 46 v1 v3 v4 v5 1 h = ((fX6_add N 25 v5 v4 v3 0 h).bind fun h2 => fX7_advance N 46 h2).bind fun h' => k8 46 (v1 + 1) h' := by
  unfold fX7_readMembers_103
  rw [R_46_2 hs, Option.bind_some, if_neg (by decide), if_neg (by decide), mem_124, Option.bind_assoc]
  congr 1
theorem mem_run {C : Cx} {N r t c m p0 : Nat} {p : Int32} {h : pH} (hC : NmC C) (hN : 3200 < N) (q : At8 C r t c m p0 0 p h) : PM8 C (C.1.mem r t) r c m p0 h (mb1 N h) := by
  obtain ⟨q1, q2, q3, q4, q5, kk, k1, k2⟩ := id q
  have hC3 := q1.1.2.1
  have hP2 := q1.1.2.2.1 (t + 2)
  unfold mb1 Tks.mem
  rw [g_46_9 q.sg, Option.bind_some, q1.kind]
  -- the type
  have ht1 : (∃ y h1, C.1.rty t = some y ∧ (if C.1.K t = 5 then (fX7_advance N 46 h).bind fun h28 => some ((-4 : Int32), h28) else fX7_takeType N 46 h) = some (tyc C y, h1) ∧ At7 C r (t + 1) 0 c p (-1) h1 ∧ Chg m7 h h1 ∧ C.1.K t ≠ 0) ∨ (∃ x h1, C.1.rty t = none ∧ (if C.1.K t = 5 then (fX7_advance N 46 h).bind fun h28 => some ((-4 : Int32), h28) else fX7_takeType N 46 h) = some (x, h1) ∧ Er7 C (C.1.P t) 0 h1 ∧ Chg m7 h h1 ∧ C.1.K t ≠ 5) := by
    unfold Tks.rty
    by_cases h5 : C.1.K t = 5
    · left
      obtain ⟨h1, e1, a1, c1⟩ := e7_advance (N := N) q1 (q1.lt h5 (by decide) (by decide))
      exact ⟨3, h1, by rw [if_pos h5], by rw [if_pos h5, e1, Option.bind_some]; rfl, a1, c1, by rw [h5]; decide⟩
    · rw [if_neg h5, if_neg h5]
      rcases hy : C.1.ty t with _ | y
      · right
        obtain ⟨x, h1, e1, a1, c1⟩ := e7_takeType_no (N := N) q1 hy
        exact ⟨x, h1, rfl, e1, a1, c1, h5⟩
      · left
        obtain ⟨h1, e1, a1, c1⟩ := e7_takeType (N := N) hC q1 hy
        refine ⟨y, h1, rfl, e1, a1, c1, fun z => ?_⟩
        unfold Tks.ty at hy
        rw [z, if_neg (by decide), if_neg (by decide), if_neg (by decide), if_neg (by decide)] at hy
        cases hy
  rcases ht1 with ⟨y, h1, hy, e1, a1, c1, kt0⟩ | ⟨x, h1, hy, e1, a1, c1, h5⟩
  · have hm0 := C.1.mono t kt0
    have ht1 := a1.2.1
    rw [hy, e1, Option.bind_some]
    dsimp only
    rw [R_46_0 a1.sg, Option.bind_some, R_8_2 a1.sg, Option.bind_some, g_46_8 a1.sg, Option.bind_some, a1.2.2.2.2.2.2.1, L_11 a1.sg (by omega), Option.bind_some, (a1.1.2.2.2.2.2.1 (t + 1) ht1).2.1]
    by_cases h22 : C.1.K (t + 1) ≠ 22
    · rw [if_pos h22]
      obtain ⟨x2, h2, e2, a2, c2⟩ := e7_takeName_no (N := N) a1 h22
      have b2 := q.er (by omega) a2 (c1.trans c2) m7_25 m7_17
      obtain ⟨h3, e3, b3, c3⟩ := b2.add (N := N) x2 (Int32.ofNat (C.1.P (t + 1))) (tyc C y) 1 (Or.inr rfl)
      obtain ⟨h4, e4, b4, c4⟩ := pars_err (N := N) (by omega) b3 ((((c1.trans c2).mono (fun a k z => m7_eM z))).trans c3)
      obtain ⟨h5, e5, b5, c5⟩ := mt1_err (N := N) (by omega) b4 c4
      refine ⟨fun b t' z => (no_ok z).elim, fun w z => ?_⟩
      obtain rfl := Sum.inr.inj z
      refine ⟨h5, ?_, b5, c5⟩
      rw [e2, Option.bind_some]
      dsimp only
      rw [g_46_9 a2.sg, Option.bind_some, a2.kind, if_neg (fun z => absurd z.2 (by decide)), e3, Option.bind_some, e4, Option.bind_some, e5]
    · rw [if_neg h22]
      have h22 := Decidable.not_not.mp h22
      obtain ⟨h2, e2, a2, c2⟩ := e7_takeName (N := N) a1 h22
      have a2 : At7 C r (t + 2) 0 c p (-1) h2 := a2
      have hm1 : C.1.P (t + 1) < C.1.P (t + 2) := C.1.mono (t + 1) (by rw [h22]; decide)
      have c12 := c1.trans c2
      have r11 : rd h2 25 11 = Int32.ofNat m := by rw [c12.2.2.1 _ _ (m7_25 _)]; exact q2
      have r14 : rd h2 25 14 = Int32.ofNat p0 := by rw [c12.2.2.1 _ _ (m7_25 _)]; exact q3
      have r17 : rd h2 17 7 = Int32.ofNat kk := by rw [c12.2.2.1 _ _ m7_17]; exact k2
      rw [e2, Option.bind_some]
      dsimp only
      rw [g_46_9 a2.sg, Option.bind_some, a2.kind]
      have ad : ∀ v4 : Int32, (v4 = 0 ∨ v4 = 1) → ∃ h3, fX6_add N 25 (C.2.1 (t + 1)) (Int32.ofNat (C.1.P (t + 1))) (tyc C y) v4 h2 = some h3 ∧ At8 C r (t + 2) c (m + 1) p0 1 p h3 ∧ rd h3 26 m = C.2.1 (t + 1) ∧ rd h3 27 m = Int32.ofNat (C.1.P (t + 1)) ∧ rd h3 28 m = tyc C y ∧ rd h3 29 m = v4 ∧ rd h3 31 m = Int32.ofNat p0 ∧ rd h3 32 m = 0 ∧ Chg (adA m) h2 h3 := by
        intro v4 hv
        have g := adH_chg h2 m (C.2.1 (t + 1)) (Int32.ofNat (C.1.P (t + 1))) (tyc C y) v4
        obtain ⟨g1, g2, g3, g4, g5, g6, g7⟩ := adH_rd a2.sg m (C.2.1 (t + 1)) (Int32.ofNat (C.1.P (t + 1))) (tyc C y) v4
        refine ⟨_, e6_add _ _ _ v4 hv a2.sg r11 (by omega), ⟨a2.of g (fun a k ha => by unfold adA; omega) (fun k hk => by unfold adA; omega) (fun k hk => by unfold adA; omega) (fun a i a1 a2 a3 => by omega), g7, ?_, by omega, by omega, kk, k1, ?_⟩, g1, g2, g3, g4, by rw [g5]; exact r14, g6, g⟩
        · rw [g.2.2.1 _ _ (by unfold adA; omega)]; exact r14
        · rw [g.2.2.1 _ _ (by unfold adA; omega)]; exact r17
      by_cases hf : C.1.K t ≠ 5 ∧ C.1.K (t + 2) = 59
      · rw [if_pos hf, if_pos hf]
        obtain ⟨h3, e3, b3, g1, g2, g3, g4, g5, g6, g⟩ := ad 0 (Or.inl rfl)
        obtain ⟨h4, e4, a4, c4⟩ := e7_advance (N := N) b3.1 (b3.1.lt hf.2 (by decide) (by decide))
        have hm2 : C.1.P (t + 2) < C.1.P (t + 3) := C.1.mono (t + 2) (by rw [hf.2]; decide)
        have gg : ∀ a, 26 ≤ a → a ≤ 35 → rd h4 a m = rd h3 a m := fun a x1 x2 => c4.2.2.1 _ _ (by unfold m7; omega)
        refine ⟨fun b t' z => ?_, fun w z => (by cases z)⟩
        obtain ⟨rfl, rfl⟩ := ok_inj z
        refine ⟨h4, p, by rw [e3, Option.bind_some, e4], b3.mv a4 c4 m7_25 m7_17 (by show C.1.P (t + 2) + 1 ≤ C.1.P (t + 3) + 0; omega), ⟨?_, ?_, ?_, ?_, ?_, ?_, fun i x hi => (by cases hi), fun z => (by cases z)⟩, ((c12.mono (fun a k z => m7_n z)).trans (g.mono (fun a k z => by unfold adA at z; unfold nA; omega))).trans (c4.mono (fun a k z => m7_n z))⟩
        · rw [gg 26 (by omega) (by omega)]; exact g1
        · rw [gg 27 (by omega) (by omega)]; exact g2
        · rw [gg 28 (by omega) (by omega)]; exact g3
        · rw [gg 29 (by omega) (by omega)]; exact g4
        · rw [gg 31 (by omega) (by omega)]; exact g5
        · rw [gg 32 (by omega) (by omega)]; exact g6
      · rw [if_neg hf, if_neg hf]
        obtain ⟨h3, e3, b3, g1, g2, g3, g4, g5, g6, g⟩ := ad 1 (Or.inr rfl)
        have pr := pars_run (N := N) hC hN b3 g6
        rw [e3, Option.bind_some]
        have c03 : Chg (nA m p0 c) h h3 := (c12.mono (fun a k z => m7_n z)).trans (g.mono (fun a k z => by unfold adA at z; unfold nA; omega))
        rcases hq : C.1.pars r (t + 2) with ⟨ps, t1⟩ | w
        · obtain ⟨h4, e4, b4, r32, pc4, c4⟩ := pr.1 ps t1 hq
          obtain ⟨b41, b42, b43, b44, b45, kk4, b46, b47⟩ := id b4
          have hP4 := b41.1.2.2.1 t1
          have c5 : Chg (fun a k => a = 33 ∧ k = m) h4 (wr h4 33 m (Int32.ofNat c)) := Chg.wr _ _ _ _ ⟨rfl, rfl⟩
          have a5 := b41.of c5 (fun a k ha => by omega) (fun k hk => by omega) (fun k hk => by omega) (fun a i a1 a2 a3 => by omega)
          have r33 : rd (wr h4 33 m (Int32.ofNat c)) 33 m = Int32.ofNat c := W_33 b4.sg _ _
          have pb := block_run hC hN r 200 (by have := b41.2.2.1; omega) t1 c p (-1) _ a5
          rw [e4, Option.bind_some, Pr.bind_ok]
          unfold mt1
          rw [R_46_2 b4.sg, Option.bind_some, R_46_3 b4.sg, Option.bind_some, g_38_7 b4.sg, Option.bind_some, b41.2.2.2.2.2.2.2.2.2.2.1, e6_codeOfLast _ b4.sg b42 (by omega), Option.bind_some, R_46_3 a5.sg, Option.bind_some, guard46 a5.sg, Option.bind_some]
          have c45 : Chg (nA m p0 c) h (wr h4 33 m (Int32.ofNat c)) := (c03.trans (c4.mono (fun a k z => by unfold pnA m7 at z; unfold nA sA xA; omega))).trans (c5.mono (fun a k z => by unfold nA; omega))
          rcases hqb : C.1.blk r t1 with ⟨b, t2⟩ | w
          · obtain ⟨h6, p6, e6, a6, x6, ⟨nb, okb⟩, c6, hc6⟩ := pb.1 b t2 hqb
            have a7 := a6.setP (Int32.ofNat b.2)
            have c7 : Chg (fun a k => a = 38 ∧ k = 8) h6 (wr h6 38 8 (Int32.ofNat b.2)) := Chg.wr _ _ _ _ ⟨rfl, rfl⟩
            obtain ⟨m1, m2, m3⟩ := a7.emit (N := N) 61 0 0 hc6
            have c8 := emH_chg (wr h6 38 8 (Int32.ofNat b.2)) (c + cb b.1) 61 0 0
            rw [e6, Option.bind_some, Pr.bind_ok]
            dsimp only
            rw [p_38_8 a6.sg, Option.bind_some, R_46_3 a7.sg, Option.bind_some, m1, Option.bind_some]
            have keep : ∀ a k, (26 ≤ a ∧ a ≤ 37) → rd (emH (wr h6 38 8 (Int32.ofNat b.2)) (c + cb b.1) 61 0 0) a k = rd (wr h4 33 m (Int32.ofNat c)) a k := by
              intro a k ha
              rw [c8.2.2.1 _ _ (by unfold emA; omega), c7.2.2.1 _ _ (by omega), c6.2.2.1 _ _ (by unfold sA xA; omega)]
            have keep2 : ∀ a, (26 ≤ a ∧ a ≤ 31) → rd (emH (wr h6 38 8 (Int32.ofNat b.2)) (c + cb b.1) 61 0 0) a m = rd h3 a m := by
              intro a ha
              rw [keep a m (by omega), c5.2.2.1 _ _ (by omega), c4.2.2.1 _ _ (by unfold pnA m7; omega)]
            have hmc : mcC (true, y, t + 1, C.1.P (t + 1), ps, b.1, b.2) = cb b.1 + 1 := rfl
            have hP6 := Tks.blk_adv C.1 r _ _ _ hqb
            refine ⟨fun bb t' z => ?_, fun w z => (by cases z)⟩
            obtain ⟨rfl, rfl⟩ := ok_inj z
            refine ⟨_, Int32.ofNat b.2, rfl, ?_, ⟨?_, ?_, ?_, ?_, ?_, ?_, ?_, fun _ => ⟨?_, ?_, m3, nb, okb⟩⟩, ((c45.trans (c6.mono (fun a k z => Or.inl z))).trans (c7.mono (fun a k z => Or.inl (Or.inr ⟨z.1, Or.inl z.2⟩)))).trans (c8.mono (fun a k z => by unfold emA at z; unfold nA sA xA; omega))⟩
            · have hP6 : C.1.P t1 ≤ C.1.P t2 := by
                exact a6.1.le (by omega) a6.2.1
              refine ⟨by rw [hmc, ← Nat.add_assoc]; exact m2, ?_, ?_, by omega, ?_, kk4, b46, ?_⟩
              · rw [c8.2.2.1 _ _ (by unfold emA; omega), c7.2.2.1 _ _ (by omega), c6.2.2.1 _ _ (by unfold sA xA; omega), c5.2.2.1 _ _ (by omega)]; exact b42
              · rw [c8.2.2.1 _ _ (by unfold emA; omega), c7.2.2.1 _ _ (by omega), c6.2.2.1 _ _ (by unfold sA xA; omega), c5.2.2.1 _ _ (by omega)]; exact b43
              · show 3 * (p0 + ps.length) ≤ _
                omega
              · rw [c8.2.2.1 _ _ (by unfold emA; omega), c7.2.2.1 _ _ (by omega), c6.2.2.1 _ _ (by unfold sA xA; omega), c5.2.2.1 _ _ (by omega)]; exact b47
            · rw [keep2 26 (by omega)]; exact g1
            · rw [keep2 27 (by omega)]; exact g2
            · rw [keep2 28 (by omega)]; exact g3
            · rw [keep2 29 (by omega)]; exact g4
            · rw [keep2 31 (by omega)]; exact g5
            · rw [keep 32 m (by omega), c5.2.2.1 _ _ (by omega)]; exact r32
            · exact pc4.chg (fun a k ha hk => by rw [keep a k (by omega), c5.2.2.1 _ _ (by omega)])
            · rw [keep 33 m (by omega)]; exact r33
            · exact CB.same okb x6 (fun y i y1 y2 i1 i2 => by
                have i1 : i < c + cb b.1 := i1
                rw [c8.2.2.1 _ _ (by unfold emA; omega), c7.2.2.1 _ _ (by omega)])
          · obtain ⟨v, h6, e6, a6, c6⟩ := pb.2 w hqb
            have b5 : Er8 C w h6 := by
              refine ⟨a6, ⟨m + 1, by omega, ?_⟩, ⟨p0 + ps.length, by omega, ?_⟩, kk4, b46, ?_⟩
              · rw [c6.2.2.1 _ _ (eA_25 _), c5.2.2.1 _ _ (by omega)]; exact b42
              · rw [c6.2.2.1 _ _ (eA_25 _), c5.2.2.1 _ _ (by omega)]; exact b43
              · rw [c6.2.2.1 _ _ eA_17, c5.2.2.1 _ _ (by omega)]; exact b47
            obtain ⟨a7, c7⟩ := a6.set8 (k := 8) (x := v) (Or.inl rfl)
            have b7 := b5.mv a7 c7 eA_25 eA_17
            obtain ⟨mm, h8, m1, e8, a8, c8⟩ := a7.emit3 (N := N) (k := 61) (a := 0) (b := 0) (Chg.refl (eA 0) (wr h6 38 8 v))
            rw [e6, Option.bind_some, Pr.bind_no]
            dsimp only
            rw [p_38_8 a6.sg, Option.bind_some, R_46_3 a7.sg, Option.bind_some, e8, Option.bind_some]
            refine ⟨fun bb t' z => (by cases z), fun w' z => ?_⟩
            obtain rfl := Sum.inr.inj z
            exact ⟨h8, rfl, b7.mv a8 c8 eA_25 eA_17, (((c45.mono (fun a k z => nA_e z)).trans (c6.mono (fun a k z => Or.inl z))).trans (c7.mono (fun a k z => Or.inl z))).trans (c8.mono (fun a k z => Or.inl z))⟩
        · obtain ⟨h4, e4, b4, c4⟩ := pr.2 w hq
          obtain ⟨h5, e5, b5, c5⟩ := mt1_err (N := N) (by omega) b4 ((c03.mono (fun a k z => nA_e z)).trans c4)
          refine ⟨fun bb t' z => (by cases z), fun w' z => ?_⟩
          obtain rfl := Sum.inr.inj z
          exact ⟨h5, by rw [e4, Option.bind_some, e5], b5, c5⟩
  · rw [hy, e1, Option.bind_some]
    dsimp only
    obtain ⟨t0, t01, t02⟩ := a1.2.2.1
    have b1 := q.er (by omega) a1 c1 m7_25 m7_17
    obtain ⟨x2, e2⟩ := a1.takeName (N := N)
    obtain ⟨h3, e3, b3, c3⟩ := b1.add (N := N) x2 (rd h1 11 t0) x 1 (Or.inr rfl)
    obtain ⟨h4, e4, b4, c4⟩ := pars_err (N := N) (by omega) b3 ((c1.mono (fun a k z => m7_eM z)).trans c3)
    obtain ⟨h5', e5, b5, c5⟩ := mt1_err (N := N) (by omega) b4 c4
    refine ⟨fun b t' z => (no_ok z).elim, fun w z => ?_⟩
    obtain rfl := Sum.inr.inj z
    refine ⟨h5', ?_, b5, c5⟩
    rw [R_46_0 a1.sg, Option.bind_some, R_8_2 a1.sg, Option.bind_some, g_46_8 a1.sg, Option.bind_some, t02, L_11 a1.sg (by omega), Option.bind_some, e2, Option.bind_some]
    dsimp only
    rw [g_46_9 a1.sg, Option.bind_some, a1.kind, if_neg (fun z => absurd z.2 (by decide)), e3, Option.bind_some, e4, Option.bind_some, e5]
