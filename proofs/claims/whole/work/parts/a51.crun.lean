/-! ===== THE CLASS' TYPER: forks ===== -/
/-- an expression's pieces run -/
def RunX (P : Pgm) (D : List Int32 → Prop) (num : List Int32 → Nat) (C : Cx) (c : Nat) (E : EnvV) (M N : Nat) (p o v1 v2 : Int32) (k2 : Nat → Int32 → pH → Option (Int32 × pH)) (k23 : Nat → Int32 → Int32 → pH → Option (Int32 × pH)) (en : Nat) (e : Tr) : Prop := ∀ (s : Nat) (σ : List Nat) (X : Nat) (h : pH) (n : Nat), TS P D num c E M σ X h → CE (QC C p o h) e s → s + cl e ≤ en + 1 → σ.length + cl e ≤ 3000 → TyS P D num c E M σ X p s (s + cl e) (fun X' h' => TX P c E (Rp P C c E h') e s ∧ HX e σ.length X') (P.te c E e) (fX9_check_79 N k2 k23 (n + cl e) 51 v1 v2 (Int32.ofNat en) (Int32.ofNat s) h) (fX9_check_79 N k2 k23 n 51 v1 v2 (Int32.ofNat en) (Int32.ofNat (s + cl e))) h
theorem RunX.nl {P : Pgm} {D : List Int32 → Prop} {num : List Int32 → Nat} {C : Cx} {c M N en : Nat} {E : EnvV} {p o v1 v2 : Int32} {k2 : Nat → Int32 → pH → Option (Int32 × pH)} {k23 : Nat → Int32 → Int32 → pH → Option (Int32 × pH)} : RunX P D num C c E M N p o v1 v2 k2 k23 en nl := fun s σ X h n q _ _ _ => ⟨h, X, rfl, by rw [List.append_nil]; exact q, Nat.le_refl _, ⟨trivial, q.2.2.1.2.2.1⟩, Chg.refl _ _⟩
theorem Pgm.te_no {P : Pgm} {c : Nat} {E : EnvV} {e : Tr} (he : ∀ k v w a b, e ≠ nd k v w a b) : P.te c E e = some [] := by
  unfold Pgm.te
  split
  · exact absurd rfl (he _ _ _ _ _)
  · rfl
theorem Pgm.te_len {P : Pgm} {c : Nat} {E : EnvV} (e : Tr) : ∀ x, P.te c E e = some x → x.length ≤ cl e := by
  induction e using Tr.rec2 with
  | h2 e he =>
    intro x hx
    rw [Pgm.te_no he] at hx
    rw [← Option.some.inj hx]
    exact Nat.zero_le _
  | h1 k v w a b iha ihb =>
    intro x hx
    rw [Pgm.te_nd] at hx
    obtain ⟨y, h1, hx⟩ := Option.bind_eq_some_iff.mp hx
    obtain ⟨z, h2, hx⟩ := Option.bind_eq_some_iff.mp hx
    have i1 := iha y h1
    have i2 := ihb z h2
    rw [cl_nd]
    by_cases hk : k = 70
    · have he : P.opT c E k w (y ++ z) = some (y ++ z) := by unfold Pgm.opT; rw [if_pos hk]
      rw [he] at hx
      rw [← Option.some.inj hx, List.length_append, if_neg (by omega), if_pos hk]
      omega
    · obtain ⟨t, ht, _⟩ := Pgm.opT_one hk hx
      rw [ht]
      show 1 ≤ _
      by_cases hk2 : k = 28 ∨ k = 29
      · rw [if_pos hk2]; omega
      · rw [if_neg hk2, if_neg hk]; omega
theorem RunX.fork {S : Tks} {P : Pgm} {D : List Int32 → Prop} {num : List Int32 → Nat} {C : Cx} {c M N en k v w : Nat} {E : EnvV} {a b : Tr} {p o v1 v2 : Int32} {k2 : Nat → Int32 → pH → Option (Int32 × pH)} {k23 : Nat → Int32 → Int32 → pH → Option (Int32 × pH)} (hN : 1100 ≤ N) (h5 : P.P5) (hc : c < P.n) (hen : en < 3100) (hC : ∀ w, S.K w = 22 → D (P.1 w) ∧ C.2.1 w = Int32.ofNat (num (P.1 w))) (hk : (1 ≤ k ∧ k ≤ 6) ∨ k = 9 ∨ (12 ≤ k ∧ k ≤ 27) ∨ k = 30 ∨ k = 50) (hv : k = 30 → v ≤ cl a) (hw : k = 6 ∨ k = 9 ∨ k = 13 ∨ k = 15 ∨ k = 16 ∨ k = 30 → S.K w = 22) (har : ∀ x y, P.te c E a = some x → P.te c E b = some y → (x ++ y).length = arK k v) (ra : RunX P D num C c E M N p o v1 v2 k2 k23 en a) (rb : RunX P D num C c E M N p o v1 v2 k2 k23 en b) : RunX P D num C c E M N p o v1 v2 k2 k23 en (nd k v w a b) := by
  intro s σ X h n q ce hs hl
  have hcl : cl (nd k v w a b) = cl a + cl b + 1 := by rw [cl_nd, if_neg (by omega), if_neg (by omega)]
  rw [hcl] at hs hl ⊢
  rw [CE_nd, if_neg (by omega), if_neg (by omega)] at ce
  obtain ⟨c1, c2, c3⟩ := ce
  rw [Pgm.te_nd]
  have A := ra s σ X h (n + 1 + cl b) q c1 (by omega) (by omega)
  rw [show n + (cl a + cl b + 1) = n + 1 + cl b + cl a by omega]
  refine TyS.bind (t := s + cl a) (by omega) A (fun x h1 X1 hx q1 _ z1 g1 => ?_)
  have B := rb (s + cl a) (σ ++ x) X1 h1 (n + 1) q1 (c2.chg g1 (fun y i y1 y2 i1 i2 => by unfold exA pyA; omega)) (by omega) ?_
  · refine TyS.bind (t := s + cl a + cl b) (Z1 := fun X' h' => TX P c E (Rp P C c E h') a s ∧ TX P c E (Rp P C c E h') b (s + cl a) ∧ HX a σ.length X' ∧ HX b (σ.length + ln a) X') (by omega) (B.low (by omega) (fun r X' h' _ u1 _ z g => ⟨z1.1.chg g (Or.inl (Nat.le_refl _)), z.1, HX.mono u1 _ _ z1.2, by rw [List.length_append, Pgm.te_ln a x hx] at z; exact z.2⟩)) (fun y h2 X2 hy q2 _ z2 g2 => ?_)
    have gg : Chg (exA s (s + cl a + cl b)) h h2 := (g1.mono (fun a k z => z.mono (Nat.le_refl _) (by omega))).trans g2
    obtain ⟨d1, d2, d3, d4, d5, d6⟩ := PcAt.chg c3 gg (fun x x1 x2 => by unfold exA pyA; omega)
    have pcs := TS.piece (N := N) (n := n) (i := s + cl a + cl b) (e := en) (k := k) (v := v) (w := w) (l := x ++ y) (σ := σ) (p := p) (v1 := v1) (v2 := v2) (k2 := k2) (k23 := k23) hN h5 hc (by rw [← List.append_assoc]; exact q2) (by omega) hen (by omega) hk (har x y hx hy) (fun z => by have := hv z; omega) d1 d5 (fun z => by
      obtain ⟨w1, w2⟩ := hC w (hw z)
      refine ⟨w1, ?_⟩
      rw [d2, ← w2]
      unfold pa
      rw [if_pos (by omega)]) (fun z => by
      rw [d3]
      unfold pb
      rw [if_pos z])
    rw [show s + (cl a + cl b + 1) = s + cl a + cl b + 1 by omega]
    refine pcs.low (by omega) (fun r X' h' u0 u1 u2 z g => ?_)
    rw [TX_nd, if_neg (by omega), if_neg (by omega), hx, hy, HX_nd, if_neg (by omega)]
    rw [d2] at z
    refine ⟨⟨z2.1.chg g (Or.inl (by omega)), z2.2.1.chg g (Or.inl (by omega)), z⟩, HX.mono u1 _ _ z2.2.2.1, HX.mono u1 _ _ z2.2.2.2, fun _ => ?_⟩
    have u3 := u2.2.2.1.2.2.1
    obtain ⟨t, rfl, _⟩ := Pgm.opT_one (by omega) u0
    rw [List.length_append] at u3
    exact u3
  · have hcs := Pgm.te_len a x hx
    rw [List.length_append]
    omega
