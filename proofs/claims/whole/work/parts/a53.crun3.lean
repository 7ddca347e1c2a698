theorem and_te (t : Nat) (o : Option (List Nat)) : (o.bind fun y => eqT ([t] ++ y) [1, 1] 1) = (if t = 1 then some ([] : List Nat) else none).bind fun _ => o.bind fun y => eqT y [1] 1 := by
  cases o with
  | none => split <;> rfl
  | some y =>
    show eqT (t :: y) [1, 1] 1 = _
    by_cases z : t = 1
    · subst z
      rw [if_pos rfl]
      show _ = eqT y [1] 1
      unfold eqT
      by_cases w : y = [1]
      · rw [if_pos (by rw [w]), if_pos w]
      · rw [if_neg (fun u => w (by injection u)), if_neg w]
    · rw [if_neg z]
      exact if_neg (fun u => z (by injection u))
theorem RunX.arg {P : Pgm} {D : List Int32 → Prop} {num : List Int32 → Nat} {C : Cx} {c M N en v w : Nat} {E : EnvV} {a b : Tr} {p o v1 v2 : Int32} {k2 : Nat → Int32 → pH → Option (Int32 × pH)} {k23 : Nat → Int32 → Int32 → pH → Option (Int32 × pH)} (ra : RunX P D num C c E M N p o v1 v2 k2 k23 en a) (rb : RunX P D num C c E M N p o v1 v2 k2 k23 en b) : RunX P D num C c E M N p o v1 v2 k2 k23 en (nd 70 v w a b) := by
  intro s σ X h n q ce hs hl
  have hcl : cl (nd 70 v w a b) = cl a + cl b := rfl
  rw [hcl] at hs hl ⊢
  rw [CE_nd, if_neg (by omega), if_pos rfl] at ce
  obtain ⟨c1, c2⟩ := ce
  rw [Pgm.te_nd]
  have A := ra s σ X h (n + cl b) q c1 (by omega) (by omega)
  rw [show n + (cl a + cl b) = n + cl b + cl a by omega]
  refine TyS.bind (t := s + cl a) (by omega) A (fun x h1 X1 hx q1 _ z1 g1 => ?_)
  have hcs := Pgm.te_len a x hx
  have B := rb (s + cl a) (σ ++ x) X1 h1 n q1 (c2.chg g1 (fun y i y1 y2 i1 i2 => by unfold exA pyA; omega)) (by omega) (by rw [List.length_append]; omega)
  rw [show s + (cl a + cl b) = s + cl a + cl b by omega]
  have B' := B.low (s' := s) (Z' := fun X' h' => TX P c E (Rp P C c E h') (nd 70 v w a b) s ∧ HX (nd 70 v w a b) σ.length X') (by omega) (fun r X' h' _ u1 _ z g => by
    rw [TX_nd, if_neg (by omega), if_pos rfl, HX_nd, if_neg (by omega)]
    rw [List.length_append, Pgm.te_ln a x hx] at z
    exact ⟨⟨z1.1.chg g (Or.inl (Nat.le_refl _)), z.1⟩, HX.mono u1 _ _ z1.2, z.2, fun z => absurd rfl z⟩)
  cases hb : P.te c E b with
  | none => rw [hb] at B'; exact B'
  | some y =>
    rw [hb] at B'
    obtain ⟨h2, X2, f1, f2, f3, f4, f5⟩ := B'
    exact ⟨h2, X2, f1, by rw [← List.append_assoc]; exact f2, f3, f4, f5⟩
theorem RunX.and {P : Pgm} {D : List Int32 → Prop} {num : List Int32 → Nat} {C : Cx} {c M N en k v w : Nat} {E : EnvV} {a b : Tr} {p o v1 v2 : Int32} {k2 : Nat → Int32 → pH → Option (Int32 × pH)} {k23 : Nat → Int32 → Int32 → pH → Option (Int32 × pH)} (hn : P.n ≤ 400) (hen : en < 3100) (hk : k = 28 ∨ k = 29) (ha : ∀ x, P.te c E a = some x → ∃ t, x = [t] ∧ t ≠ 5) (hb : ∀ x, P.te c E b = some x → ∃ t, x = [t] ∧ t ≠ 5) (ra : RunX P D num C c E M N p o v1 v2 k2 k23 en a) (rb : RunX P D num C c E M N p o v1 v2 k2 k23 en b) : RunX P D num C c E M N p o v1 v2 k2 k23 en (nd k v w a b) := by
  intro s σ X h n q ce hs hl
  have hcl : cl (nd k v w a b) = cl a + cl b + 2 := by rw [cl_nd, if_pos hk]
  rw [hcl] at hs hl ⊢
  rw [CE_nd, if_pos hk] at ce
  obtain ⟨c1, c2, c3, c4⟩ := ce
  rw [Pgm.te_nd]
  have A := ra s σ X h (n + 2 + cl b) q c1 (by omega) (by omega)
  rw [show n + (cl a + cl b + 2) = n + 2 + cl b + cl a by omega]
  refine TyS.bind (t := s + cl a) (by omega) A (fun x h1 X1 hx q1 _ z1 g1 => ?_)
  obtain ⟨t, rfl, _⟩ := ha x hx
  have hop : ∀ y, P.opT c E k w ([t] ++ y) = eqT ([t] ++ y) [1, 1] 1 := fun y => by
    rcases hk with rfl | rfl <;> rfl
  rw [show ((P.te c E b).bind fun y => P.opT c E k w ([t] ++ y)) = (P.te c E b).bind fun y => eqT ([t] ++ y) [1, 1] 1 from congrArg _ (funext hop), and_te]
  obtain ⟨d1, d2, d3, d4, d5, d6⟩ := PcAt.chg c2 g1 (fun x x1 x2 => by unfold exA pyA; omega)
  have hs1 := q1.1.1.1.wr 44 (s + cl a) (rd h1 52 2)
  have cs1 : CSt P (σ ++ [t]) X1 (wr h1 44 (s + cl a) (rd h1 52 2)) := q1.2.2.1.chg (A := fun a k => a = 44) (Chg.wr _ _ _ _ rfl) (fun a k z => by omega)
  have s1 := TS.step (N := N) (n := n + 1 + cl b) (v1 := v1) (v2 := v2) (k2 := k2) (k23 := k23) q1 (i := s + cl a) (e := en) (by omega) hen d1 d5 (fine_and (N := N) (i := s + cl a) hn hs1 hk cs1)
  rw [rd_wr_ne _ _ (by omega), rd_wr_ne _ _ (by omega), d1, d2] at s1
  rw [show n + 2 + cl b = n + 1 + cl b + 1 by omega]
  refine TyS.bind (t := s + cl a + 1) (by omega) (s1.low (s' := s) (Z' := fun X' h' => TX P c E (Rp P C c E h') a s ∧ rd h' 39 (s + cl a) = Int32.ofNat k ∧ rd h' 40 (s + cl a) = pa C k 0 0 ∧ rd h' 44 (s + cl a) = Int32.ofNat E.1.length ∧ HX a σ.length X') (by omega) (fun r X' h' _ u1 _ z g => ⟨z1.1.chg g (Or.inl (Nat.le_refl _)), z.1, z.2.1, z.2.2, HX.mono u1 _ _ z1.2⟩)) (fun r h2 X2 hr q2 _ z2 g2 => ?_)
  have hr0 : r = [] := by
    split at hr
    · exact (Option.some.inj hr).symm
    · cases hr
  subst hr0
  rw [List.append_nil] at q2
  have g12 : Chg (exA s (s + cl a + 1)) h h2 := (g1.mono (fun a k z => z.mono (Nat.le_refl _) (by omega))).trans g2
  have B := rb (s + cl a + 1) σ X2 h2 (n + 1) q2 (c3.chg g12 (fun y i y1 y2 i1 i2 => by unfold exA pyA; omega)) (by omega) (by omega)
  refine TyS.bind (t := s + cl a + 1 + cl b) (Z1 := fun X' h' => TX P c E (Rp P C c E h') a s ∧ rd h' 39 (s + cl a) = Int32.ofNat k ∧ rd h' 40 (s + cl a) = pa C k 0 0 ∧ rd h' 44 (s + cl a) = Int32.ofNat E.1.length ∧ HX a σ.length X' ∧ TX P c E (Rp P C c E h') b (s + cl a + 1) ∧ HX b σ.length X') (by omega) (B.low (by omega) (fun r X' h' _ u1 _ z g => ⟨z2.1.chg g (Or.inl (by omega)), by rw [g.2.2.1 _ _ (by unfold exA pyA; omega)]; exact z2.2.1, by rw [g.2.2.1 _ _ (by unfold exA pyA; omega)]; exact z2.2.2.1, by rw [g.2.2.1 _ _ (by unfold exA pyA; omega)]; exact z2.2.2.2.1, HX.mono u1 _ _ z2.2.2.2.2, z⟩)) (fun y h3 X3 hy q3 _ z3 g3 => ?_)
  obtain ⟨u, rfl, _⟩ := hb y hy
  have g13 : Chg (exA s (s + cl a + 1 + cl b)) h h3 := (g12.mono (fun a k z => z.mono (Nat.le_refl _) (by omega))).trans g3
  obtain ⟨f1, f2, f3, f4, f5, f6⟩ := PcAt.chg c4 g13 (fun x x1 x2 => by unfold exA pyA; omega)
  have hs3 := q3.1.1.1.wr 44 (s + cl a + 1 + cl b) (rd h3 52 2)
  have cs3 : CSt P (σ ++ [u]) X3 (wr h3 44 (s + cl a + 1 + cl b) (rd h3 52 2)) := q3.2.2.1.chg (A := fun a k => a = 44) (Chg.wr _ _ _ _ rfl) (fun a k z => by omega)
  have s3 := TS.step (N := N) (n := n) (v1 := v1) (v2 := v2) (k2 := k2) (k23 := k23) q3 (i := s + cl a + 1 + cl b) (e := en) (by omega) hen f1 f5 (fine_51 (N := N) (i := s + cl a + 1 + cl b) hn hs3 cs3)
  rw [rd_wr_ne _ _ (by omega), rd_wr_ne _ _ (by omega), f1, f2] at s3
  rw [show s + (cl a + cl b + 2) = s + cl a + 1 + cl b + 1 by omega]
  refine s3.low (by omega) (fun r X' h' u0 u1 u2 z g => ?_)
  rw [TX_nd, if_pos hk, HX_nd, if_pos hk]
  have u3 := u2.2.2.1.2.2.1
  obtain ⟨rfl, _⟩ := eqT_one u0
  rw [List.length_append] at u3
  refine ⟨⟨z3.1.chg g (Or.inl (by omega)), ⟨?_, ?_, by rw [g.2.2.1 _ _ (by unfold exA pyA; omega)]; exact z3.2.2.2.1⟩, z3.2.2.2.2.2.1.chg g (Or.inl (by omega)), z⟩, HX.mono u1 _ _ z3.2.2.2.2.1, HX.mono u1 _ _ z3.2.2.2.2.2.2, u3⟩
  · rw [g.2.2.1 _ _ (by unfold exA pyA; omega), z3.2.1]
    rcases hk with rfl | rfl <;> rfl
  · rw [g.2.2.1 _ _ (by unfold exA pyA; omega), z3.2.2.1]
    rcases hk with rfl | rfl <;> rfl
