/-! ===== next(), from any place ===== -/
abbrev isSp (c : Int32) : Prop := c = 32 ∨ c = 10
def SkipTo (s : Nat → Int32) (L p P : Nat) : Prop := p ≤ P ∧ P ≤ L ∧ (∀ i, p ≤ i → i < P → isSp (s i)) ∧ (P = L ∨ ¬ isSp (s P))
theorem skip_ex (s : Nat → Int32) (L : Nat) : ∀ (d p : Nat), p + d = L → ∃ P, SkipTo s L p P
  | 0, p, h => ⟨p, Nat.le_refl p, by omega, fun i h1 h2 => absurd h1 (by omega), Or.inl (by omega)⟩
  | d + 1, p, h => by
    by_cases hq : isSp (s p)
    · obtain ⟨P, h1, h2, h3, h4⟩ := skip_ex s L d (p + 1) (by omega)
      refine ⟨P, by omega, h2, fun i i1 i2 => ?_, h4⟩
      by_cases z : i = p
      · subst z; exact hq
      · exact h3 i (by omega) i2
    · exact ⟨p, Nat.le_refl p, by omega, fun i h1 h2 => absurd h1 (by omega), Or.inr hq⟩
theorem next_skip {N P : Nat} : ∀ (j m p : Nat) (h : pH), p + j = P → tOk h → rd h 138 4 = Int32.ofNat p → SkipTo (tx h) (tl h) p P → ∃ h1, fX12_next_0 N (m + j + 1) 138 h = fX12_next_52 N 138 h1 ∧ Chg (Fl [4]) h h1 ∧ rd h1 138 4 = Int32.ofNat P
  | 0, m, p, h, hj, ht, e4, ⟨k1, k2, k3, k4⟩ => by
    obtain rfl : p = P := by omega
    have hs := ht.1
    have hl := ht.2.2
    refine ⟨h, ?_, Chg.refl _ _, e4⟩
    rw [fX12_next_0, g_138_4 hs, Option.bind_some, g_138_3 hs, Option.bind_some, e4, ht.2.1]
    by_cases hc : tl h ≤ p
    · rw [if_pos ((Int32.ofNat_le_ofNat (by omega) (by omega)).mpr hc)]
    · have hx := k4.resolve_left (by omega)
      rw [if_neg (fun q => hc ((Int32.ofNat_le_ofNat (by omega) (by omega)).mp q)), R_138_2 hs, Option.bind_some, Option.bind_some, L_140 hs (by omega), Option.bind_some, if_neg (fun z => hx (Or.inl z)), Option.bind_some, Option.bind_some, L_140 hs (by omega), Option.bind_some, if_neg (fun z => hx (Or.inr z))]
  | j + 1, m, p, h, hj, ht, e4, ⟨k1, k2, k3, k4⟩ => by
    have hs := ht.1
    have hl := ht.2.2
    have q1 : Chg (Fl [4]) h (wr h 138 4 (Int32.ofNat (p + 1))) := Chg.wr h _ _ _ ⟨rfl, by simp⟩
    obtain ⟨ht1, hl1⟩ := tOk_chg q1 (Fl_ne (Or.inr (by decide))) ht
    have hx1 := tx_chg q1 (fun i => Fl_ne (Or.inl (by decide)))
    obtain ⟨h1, r1, r2, r3⟩ := next_skip (N := N) (P := P) j m (p + 1) (wr h 138 4 (Int32.ofNat (p + 1))) (by omega) ht1 (w_138_4 hs _) (by rw [hx1, hl1]; exact ⟨by omega, k2, fun i i1 i2 => k3 i (by omega) i2, k4⟩)
    refine ⟨h1, ?_, q1.trans r2, r3⟩
    have step : fX12_next_39 N (fX12_next_0 N (m + (j + 1))) 138 h = fX12_next_52 N 138 h1 := by
      unfold fX12_next_39
      rw [g_138_4 hs, Option.bind_some, e4, p_138_4 hs, Option.bind_some, i_add1]
      exact r1
    rw [fX12_next_0, g_138_4 hs, Option.bind_some, g_138_3 hs, Option.bind_some, e4, ht.2.1, if_neg (fun q => by have := (Int32.ofNat_le_ofNat (by omega) (by omega)).mp q; omega), R_138_2 hs, Option.bind_some, Option.bind_some, L_140 hs (by omega), Option.bind_some]
    by_cases hc : rd h 140 p = 32
    · rw [if_pos hc]
      exact step
    · rw [if_neg hc, Option.bind_some, Option.bind_some, L_140 hs (by omega), Option.bind_some, if_pos ((k3 p (Nat.le_refl p) (by omega)).resolve_left hc)]
      exact step
/-- the reference takes its next word -/
theorem e12_next {N p M : Nat} {h : pH} (ht : tOk h) (hn : nmsOk h M) (hM : M < 1600) (hN : 3200 ≤ N) (hp : p ≤ tl h) (e4 : rd h 138 4 = Int32.ofNat p) : ∃ h' P, fX12_next N 138 h = some h' ∧ SkipTo (tx h) (tl h) p P ∧ NxR h h' M P := by
  have hl3 := ht.2.2
  obtain ⟨P, hP⟩ := skip_ex (tx h) (tl h) (tl h - p) p (by omega)
  obtain ⟨N1, hN1⟩ : ∃ N1, N = N1 + (P - p) + 1 := ⟨N - ((P - p) + 1), by have := hP.2.1; omega⟩
  obtain ⟨h1, r1, c1, r3⟩ := next_skip (N := N) (P := P) (P - p) N1 p h (by have := hP.1; omega) ht e4 hP
  rw [← hN1] at r1
  obtain ⟨t1, l1⟩ := tOk_chg c1 (Fl_ne (Or.inr (by decide))) ht
  have x1 := tx_chg c1 (fun i => Fl_ne (Or.inl (by decide)))
  obtain ⟨n1, nf1⟩ := nms_chg c1 (fun _ _ => Fl_ne (Or.inl (by decide))) (fun _ _ => Fl_ne (Or.inl (by decide))) (Fl_ne (Or.inr (by decide))) hn
  have nr1 : ∀ k, k < M → nmR h1 k = nmR h k := fun k hk => nmR_chg c1 (fun i => Fl_ne (Or.inl (by decide))) (nf1 k hk).1 (nf1 k hk).2
  obtain ⟨h', r4, n, M', K, V, id, q1, q2, q3, q4, q5, q6, q7, q8, q9, q10, q11, q12⟩ := next_52 (N := N) t1 n1 hM hN (by rw [l1]; exact hP.2.1) r3
  rw [l1] at q5
  rw [x1, l1] at q6
  rw [x1] at q11
  refine ⟨h', P, ?_, hP, n, M', K, V, id, (c1.mono (fun a k z => NxA_fl (by decide) z)).trans q1, q2, q3, q4, q5, q6, q7, q8, q9, fun k hk => ⟨(q10 k hk).1.trans (nf1 k hk).1, (q10 k hk).2.trans (nf1 k hk).2⟩, fun z => ?_, q12⟩
  · unfold fX12_next
    rw [if_pos (o_138 ht.1), r1]
    exact r4
  · obtain ⟨z1, z2, z3⟩ := q11 z
    exact ⟨z1, z2, z3.imp (fun w => w) (fun w => ⟨w.1, fun q hq => by rw [← nr1 q hq]; exact w.2 q hq⟩)⟩
