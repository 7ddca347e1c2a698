/-! ===== THE REFERENCE moves: frames, pile ===== -/
theorem mvs_of {h h1 : pH} {f x : Int32} (e : ∀ j, rd h1 189 j = rd h 189 j) : mvs h1 f x = mvs h f x := by
  unfold mvs mvx
  rw [e]
section SF
variable {P : Pgm} {hp : List Ob} {H N : Nat} {B O B' O' : Nat → Nat} {L L' bl : List Nat}
theorem loc_sw {k58 : Nat → Int32 → Int32 → pH → Option pH} {v1 : Int32} {n lb ll : Nat} (hn : n < 101) (hl9 : lb + ll ≤ 90000) : ∀ (r a d : Nat) (h : pH), a + r = lb + ll → Sg h → rd h 194 n = Int32.ofNat lb → rd h 195 n = Int32.ofNat ll → (∀ k, a ≤ k → k < a + r → Okw (rd h 197 k) (rd h 198 k)) → ∃ h', fX12_sweep_89 N k58 (d + r) 138 v1 (Int32.ofNat n) (Int32.ofNat a) h = fX12_sweep_89 N k58 d 138 v1 (Int32.ofNat n) (Int32.ofNat (a + r)) h' ∧ Sg h' ∧ Chg (fun x k => x = 197 ∧ a ≤ k ∧ k < a + r) h h' ∧ ∀ k, a ≤ k → k < a + r → rd h' 197 k = mvs h (rd h 198 k) (rd h 197 k)
  | 0, a, d, h, ha, sg, e194, e195, ho => ⟨h, rfl, sg, Chg.refl _ _, fun k h1 h2 => absurd h2 (by omega)⟩
  | r + 1, a, d, h, ha, sg, e194, e195, ho => by
    have hs : ∃ h1, fX12_sweep_89 N k58 (d + r + 1) 138 v1 (Int32.ofNat n) (Int32.ofNat a) h = fX12_sweep_89 N k58 (d + r) 138 v1 (Int32.ofNat n) (Int32.ofNat (a + 1)) h1 ∧ Sg h1 ∧ Chg (fun x k => x = 197 ∧ k = a) h h1 ∧ rd h1 197 a = mvs h (rd h 198 a) (rd h 197 a) := by
      by_cases f0 : rd h 198 a = 0
      · refine ⟨h, ?_, sg, Chg.refl _ _, ?_⟩
        · show fX12_sweep_89 N k58 (d + r + 1) 138 v1 (Int32.ofNat n) (Int32.ofNat a) h = _
          rw [fX12_sweep_89, R_138_95 sg, Option.bind_some, L_194 sg (by omega), Option.bind_some, R_138_96 sg, Option.bind_some, L_195 sg (by omega), Option.bind_some, e194, e195, ← Int32.ofNat_add, if_neg (show ¬ Int32.ofNat (lb + ll) ≤ Int32.ofNat a by rw [iLe (by omega) (by omega)]; omega), R_138_99 sg, Option.bind_some, L_198 sg (by omega), Option.bind_some, if_pos f0]
          unfold fX12_sweep_131
          rw [i_add1]
        · unfold mvs
          rw [if_pos f0]
      · have hx := (ho a (by omega) (by omega)).resolve_left f0
        refine ⟨wr h 197 a (mvx h (rd h 197 a)), ?_, sg.wr 197 a _, Chg.wr h 197 a _ ⟨rfl, rfl⟩, ?_⟩
        · show fX12_sweep_89 N k58 (d + r + 1) 138 v1 (Int32.ofNat n) (Int32.ofNat a) h = _
          rw [fX12_sweep_89, R_138_95 sg, Option.bind_some, L_194 sg (by omega), Option.bind_some, R_138_96 sg, Option.bind_some, L_195 sg (by omega), Option.bind_some, e194, e195, ← Int32.ofNat_add, if_neg (show ¬ Int32.ofNat (lb + ll) ≤ Int32.ofNat a by rw [iLe (by omega) (by omega)]; omega), R_138_99 sg, Option.bind_some, L_198 sg (by omega), Option.bind_some, if_neg f0, R_138_98 sg, Option.bind_some, Option.bind_some, L_197 sg (by omega), Option.bind_some, r_moved sg hx, Option.bind_some]
          dsimp only
          rw [T_197 sg (by omega), Option.bind_some]
          unfold fX12_sweep_131
          rw [i_add1]
        · unfold mvs
          rw [if_neg f0, W_197 sg]
    obtain ⟨h1, b1, b2, b3, b4⟩ := hs
    obtain ⟨h', a1, a2, a3, a4⟩ := loc_sw hn hl9 r (a + 1) d h1 (by omega) b2 ((b3.2.2.1 _ _ (by omega)).trans e194) ((b3.2.2.1 _ _ (by omega)).trans e195) (fun k k1 k2 => by
      rw [b3.2.2.1 _ _ (by omega), b3.2.2.1 _ _ (by omega)]
      exact ho k (by omega) (by omega))
    refine ⟨h', ?_, a2, (b3.mono (fun x k z => by omega)).trans (a3.mono (fun x k z => by omega)), fun k k1 k2 => ?_⟩
    · rw [show a + (r + 1) = a + 1 + r by omega, ← a1, ← b1]
      rfl
    · by_cases hk : k = a
      · subst hk
        rw [a3.2.2.1 _ _ (by omega), b4]
      · rw [a4 k (by omega) (by omega), mvs_of (fun j => b3.2.2.1 _ _ (by omega)), b3.2.2.1 _ _ (by omega), b3.2.2.1 _ _ (by omega)]
theorem pile_sw {v1 : Int32} {top : Nat} (ht : top ≤ 200000) : ∀ (r a d : Nat) (h : pH), a + r = top → Sg h → rd h 138 100 = Int32.ofNat top → (∀ k, a ≤ k → k < a + r → Okw (rd h 199 k) (rd h 200 k)) → ∃ h', fX12_sweep_145 N (d + r) 138 v1 (Int32.ofNat a) h = fX12_sweep_145 N d 138 v1 (Int32.ofNat (a + r)) h' ∧ Sg h' ∧ Chg (fun x k => x = 199 ∧ a ≤ k ∧ k < a + r) h h' ∧ ∀ k, a ≤ k → k < a + r → rd h' 199 k = mvs h (rd h 200 k) (rd h 199 k)
  | 0, a, d, h, ha, sg, h100, ho => ⟨h, rfl, sg, Chg.refl _ _, fun k h1 h2 => absurd h2 (by omega)⟩
  | r + 1, a, d, h, ha, sg, h100, ho => by
    have hs : ∃ h1, fX12_sweep_145 N (d + r + 1) 138 v1 (Int32.ofNat a) h = fX12_sweep_145 N (d + r) 138 v1 (Int32.ofNat (a + 1)) h1 ∧ Sg h1 ∧ Chg (fun x k => x = 199 ∧ k = a) h h1 ∧ rd h1 199 a = mvs h (rd h 200 a) (rd h 199 a) := by
      by_cases f0 : rd h 200 a = 0
      · refine ⟨h, ?_, sg, Chg.refl _ _, ?_⟩
        · show fX12_sweep_145 N (d + r + 1) 138 v1 (Int32.ofNat a) h = _
          rw [fX12_sweep_145, g_138_100 sg, Option.bind_some, h100, if_neg (show ¬ Int32.ofNat top ≤ Int32.ofNat a by rw [iLe (by omega) (by omega)]; omega), R_138_102 sg, Option.bind_some, L_200 sg (by omega), Option.bind_some, if_pos f0]
          unfold fX12_sweep_178
          rw [i_add1]
        · unfold mvs
          rw [if_pos f0]
      · have hx := (ho a (by omega) (by omega)).resolve_left f0
        refine ⟨wr h 199 a (mvx h (rd h 199 a)), ?_, sg.wr 199 a _, Chg.wr h 199 a _ ⟨rfl, rfl⟩, ?_⟩
        · show fX12_sweep_145 N (d + r + 1) 138 v1 (Int32.ofNat a) h = _
          rw [fX12_sweep_145, g_138_100 sg, Option.bind_some, h100, if_neg (show ¬ Int32.ofNat top ≤ Int32.ofNat a by rw [iLe (by omega) (by omega)]; omega), R_138_102 sg, Option.bind_some, L_200 sg (by omega), Option.bind_some, if_neg f0, R_138_101 sg, Option.bind_some, Option.bind_some, L_199 sg (by omega), Option.bind_some, r_moved sg hx, Option.bind_some]
          dsimp only
          rw [T_199 sg (by omega), Option.bind_some]
          unfold fX12_sweep_178
          rw [i_add1]
        · unfold mvs
          rw [if_neg f0, W_199 sg]
    obtain ⟨h1, b1, b2, b3, b4⟩ := hs
    obtain ⟨h', a1, a2, a3, a4⟩ := pile_sw ht r (a + 1) d h1 (by omega) b2 ((b3.2.2.1 _ _ (by omega)).trans h100) (fun k k1 k2 => by
      rw [b3.2.2.1 _ _ (by omega), b3.2.2.1 _ _ (by omega)]
      exact ho k (by omega) (by omega))
    refine ⟨h', ?_, a2, (b3.mono (fun x k z => by omega)).trans (a3.mono (fun x k z => by omega)), fun k k1 k2 => ?_⟩
    · rw [show a + (r + 1) = a + 1 + r by omega, ← a1, ← b1]
      rfl
    · by_cases hk : k = a
      · subst hk
        rw [a3.2.2.1 _ _ (by omega), b4]
      · rw [a4 k (by omega) (by omega), mvs_of (fun j => b3.2.2.1 _ _ (by omega)), b3.2.2.1 _ _ (by omega), b3.2.2.1 _ _ (by omega)]
theorem LwR.okw {h hx : pH} (q : HpR hp H B O L hx) : ∀ {fs : List Fm} {lt pt : Nat} {trs : List (Nat × Nat)}, LwR B L h fs lt pt trs → (∀ n, n < fs.length → ∃ b, b < 5200 ∧ rd h 193 n = Int32.ofNat b) ∧ (∀ k, k < lt → Okw (rd h 197 k) (rd h 198 k)) ∧ ∀ k, k < pt → Okw (rd h 199 k) (rd h 200 k)
  | [], lt, pt, trs, hL => by
    obtain ⟨rfl, rfl, -⟩ := hL
    exact ⟨fun n z => absurd z (Nat.not_lt_zero _), fun n z => absurd z (Nat.not_lt_zero _), fun n z => absurd z (Nat.not_lt_zero _)⟩
  | f :: fs, lt, pt, trs, hL => by
    obtain ⟨lb, pb, tr', F, e1, e2, -, hL'⟩ := hL
    obtain ⟨i1, i2, i3⟩ := LwR.okw q hL'
    have hrv := F.rvs
    obtain ⟨k1, k2, k3, k4, k5, k6, k7, k8, k9, k10, k11, k12, k13, k14⟩ := F
    refine ⟨fun n hn => ?_, fun k hk => ?_, fun k hk => ?_⟩
    · rw [List.length_cons] at hn
      by_cases z : n < fs.length
      · exact i1 n z
      · obtain ⟨b1, -, -⟩ := q.at k2
        exact ⟨B f.1.2.2, by omega, by rw [show n = fs.length by omega]; exact k1⟩
    · by_cases z : k < lb
      · exact i2 k z
      · have hkl : k - lb < f.2.1.length := by omega
        have := k12 (k - lb) _ (List.getElem?_eq_getElem hkl)
        rw [show lb + (k - lb) = k by omega] at this
        exact this.okw q
    · by_cases z : k < pb
      · exact i3 k z
      · have hkl : k - pb < (um f.2.2.1).reverse.length := by rw [List.length_reverse]; omega
        have := hrv (k - pb) _ (List.getElem?_eq_getElem hkl)
        rw [show pb + (k - pb) = k by omega] at this
        exact this.okw q
theorem LwR.mvd {h h' : pH} (hB : ∀ i, i ∈ bl → B i < 5200 ∧ rd h 189 (B i) = Int32.ofNat (B' i) ∧ (i ∈ L' ∨ i < 5)) (hk : ∀ a k, a = 194 ∨ a = 195 ∨ a = 196 ∨ a = 198 ∨ a = 200 → rd h' a k = rd h a k) : ∀ {fs : List Fm} {lt pt : Nat} {trs : List (Nat × Nat)}, LwR B L h fs lt pt trs → (∀ f, f ∈ fs → ∀ j, rootF f j → j ∈ bl) → (∀ n, n < fs.length → rd h' 193 n = mvx h (rd h 193 n)) → (∀ k, k < lt → rd h' 197 k = mvs h (rd h 198 k) (rd h 197 k)) → (∀ k, k < pt → rd h' 199 k = mvs h (rd h 200 k) (rd h 199 k)) → LwR B' L' h' fs lt pt trs
  | [], lt, pt, trs, hL, hr, p1, p2, p3 => hL
  | f :: fs, lt, pt, trs, hL, hr, p1, p2, p3 => by
    obtain ⟨lb, pb, tr', F, e1, e2, e3, hL'⟩ := hL
    have hr0 := hr f (List.mem_cons_self ..)
    obtain ⟨k1, k2, k3, k4, k5, k6, k7, k8, k9, k10, k11, k12, k13, k14⟩ := F
    refine ⟨lb, pb, tr', ?_, e1, e2, e3, LwR.mvd hB hk hL' (fun f' hf' => hr f' (List.mem_cons_of_mem _ hf')) (fun n hn => p1 n (by rw [List.length_cons]; omega)) (fun k hk' => p2 k (by omega)) (fun k hk' => p3 k (by omega))⟩
    obtain ⟨b1, b2, b3⟩ := hB _ (hr0 f.1.2.2 (Or.inl rfl))
    refine ⟨?_, b3, (hk _ _ (by omega)).trans k3, (hk _ _ (by omega)).trans k4, (hk _ _ (by omega)).trans k5, k6, k7, k8, k9, k10, k11, fun j v hj => ?_, fun j v hj => ?_, k14⟩
    · rw [p1 fs.length (by rw [List.length_cons]; omega), k1, mvx_of b1, b2]
    · have hjl := (List.getElem?_eq_some_iff.mp hj).1
      rw [p2 _ (by omega), hk _ _ (by omega)]
      exact (k12 j v hj).mvd hB (fun i hi => hr0 i (Or.inr (Or.inl (hi ▸ List.mem_of_getElem? hj))))
    · have hjl := (List.getElem?_eq_some_iff.mp hj).1
      rw [p3 _ (by omega), hk _ _ (by omega)]
      exact (k13 j v hj).mvd hB (fun i hi => hr0 i (Or.inr (Or.inr ⟨false, mem_um.mp (hi ▸ List.mem_of_getElem? hj)⟩)))
theorem lw_sw {v1 : Int32} {D : Nat} {h hx : pH} (hN : 1000 ≤ N) (q : HpR hp H B O L hx) (sg : Sg h) (hD : rd h 138 93 = Int32.ofNat D) (hD1 : D ≤ 100) : ∀ (fs : List Fm) (lt pt : Nat) (trs : List (Nat × Nat)) (d : Nat), LwR B L h fs lt pt trs → fs.length ≤ D → ∃ h', fX12_sweep_58 N (d + fs.length) 138 v1 (Int32.ofNat 0) h = fX12_sweep_58 N d 138 v1 (Int32.ofNat fs.length) h' ∧ Sg h' ∧ Chg (fun a k => (a = 193 ∧ k < fs.length) ∨ (a = 197 ∧ k < lt)) h h' ∧ (∀ n, n < fs.length → rd h' 193 n = mvx h (rd h 193 n)) ∧ ∀ k, k < lt → rd h' 197 k = mvs h (rd h 198 k) (rd h 197 k)
  | [], lt, pt, trs, d, hL, hf => by
    obtain ⟨rfl, rfl, -⟩ := hL
    exact ⟨h, rfl, sg, Chg.refl _ _, fun n z => absurd z (Nat.not_lt_zero _), fun n z => absurd z (Nat.not_lt_zero _)⟩
  | f :: fs, lt, pt, trs, d, hL, hf => by
    rw [List.length_cons] at hf
    have hok := hL.okw q
    obtain ⟨lb, pb, tr', F, e1, e2, e3, hL'⟩ := hL
    obtain ⟨h1, a1, a2, a3, a4, a5⟩ := lw_sw hN q sg hD hD1 fs lb pb tr' (d + 1) hL' (by omega)
    obtain ⟨k1, k2, k3, k4, k5, k6, k7, k8, k9, k10, k11, k12, k13, k14⟩ := F
    obtain ⟨b1, -, -⟩ := q.at k2
    have n1 : ∀ a k, ¬ ((a = 193 ∧ k < fs.length) ∨ (a = 197 ∧ k < lb)) → rd h1 a k = rd h a k := fun a k z => a3.2.2.1 _ _ z
    have s2 := a2.wr 193 fs.length (mvx h1 (rd h 193 fs.length))
    have c2 : Chg (fun a k => a = 193 ∧ k = fs.length) h1 (wr h1 193 fs.length (mvx h1 (rd h 193 fs.length))) := Chg.wr h1 193 _ _ ⟨rfl, rfl⟩
    obtain ⟨e, he⟩ : ∃ e, N = e + 1 + f.2.1.length := ⟨N - 1 - f.2.1.length, by omega⟩
    obtain ⟨h3, g1, g2, g3, g4⟩ := loc_sw (N := N) (k58 := fX12_sweep_58 N d) (v1 := v1) (n := fs.length) (lb := lb) (ll := f.2.1.length) (by omega) (by omega) f.2.1.length lb (e + 1) _ rfl s2 (by rw [c2.2.2.1 _ _ (by omega), n1 _ _ (by omega)]; exact k3) (by rw [c2.2.2.1 _ _ (by omega), n1 _ _ (by omega)]; exact k4) (fun k x1 x2 => by
      rw [c2.2.2.1 _ _ (by omega), c2.2.2.1 _ _ (by omega), n1 _ _ (by omega), n1 _ _ (by omega)]
      exact hok.2.1 k (by omega))
    refine ⟨h3, ?_, g2, ?_, fun n hn => ?_, fun k hk => ?_⟩
    · rw [List.length_cons, show d + (fs.length + 1) = d + 1 + fs.length by omega, a1, fX12_sweep_58, g_138_93 a2, Option.bind_some, n1 _ _ (by omega), hD, if_neg (by rw [iLe (by omega) (by omega)]; omega), R_138_94 a2, Option.bind_some, Option.bind_some, L_193 a2 (by omega), Option.bind_some, n1 193 fs.length (by omega), r_moved a2 (Or.inr ⟨_, by omega, k1⟩), Option.bind_some]
      dsimp only
      rw [T_193 a2 (by omega), Option.bind_some, R_138_95 s2, Option.bind_some, L_194 s2 (by omega), Option.bind_some, c2.2.2.1 194 fs.length (by omega), n1 194 fs.length (by omega), k3]
      have e5 : fX12_sweep_89 N (fX12_sweep_58 N d) N 138 v1 (Int32.ofNat fs.length) (Int32.ofNat lb) (wr h1 193 fs.length (mvx h1 (rd h 193 fs.length))) = fX12_sweep_89 N (fX12_sweep_58 N d) (e + 1 + f.2.1.length) 138 v1 (Int32.ofNat fs.length) (Int32.ofNat lb) (wr h1 193 fs.length (mvx h1 (rd h 193 fs.length))) := by rw [← he]
      have x1 : rd h3 194 fs.length = Int32.ofNat lb := by rw [g3.2.2.1 _ _ (by omega), c2.2.2.1 _ _ (by omega), n1 _ _ (by omega)]; exact k3
      have x2 : rd h3 195 fs.length = Int32.ofNat f.2.1.length := by rw [g3.2.2.1 _ _ (by omega), c2.2.2.1 _ _ (by omega), n1 _ _ (by omega)]; exact k4
      rw [e5, g1, fX12_sweep_89, R_138_95 g2, Option.bind_some, L_194 g2 (by omega), Option.bind_some, R_138_96 g2, Option.bind_some, L_195 g2 (by omega), Option.bind_some, x1, x2, ← Int32.ofNat_add, if_pos (Int32.le_refl _), i_add1]
    · refine (a3.mono (fun a k z => ?_)).trans ((c2.mono (fun a k z => ?_)).trans (g3.mono (fun a k z => ?_)))
      · rw [List.length_cons]; omega
      · rw [List.length_cons]; omega
      · rw [List.length_cons]; omega
    · rw [List.length_cons] at hn
      rw [g3.2.2.1 _ _ (by omega)]
      by_cases z : n = fs.length
      · subst z
        rw [W_193 a2]
        unfold mvx
        rw [n1 _ _ (by omega)]
      · rw [c2.2.2.1 _ _ (by omega)]
        exact a4 n (by omega)
    · by_cases z : k < lb
      · rw [g3.2.2.1 _ _ (by omega), c2.2.2.1 _ _ (by omega)]
        exact a5 k z
      · rw [g4 k (by omega) (by omega), mvs_of (h := h) (fun j => by rw [c2.2.2.1 _ _ (by omega), n1 _ _ (by omega)]), c2.2.2.1 _ _ (by omega), c2.2.2.1 _ _ (by omega), n1 _ _ (by omega), n1 _ _ (by omega)]
end SF
