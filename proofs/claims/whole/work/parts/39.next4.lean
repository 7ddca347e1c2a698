theorem WordIs_of {h h' : pH} {K V : Int32} {id : Nat} (e5 : rd h' 138 5 = rd h 138 5) (e8 : rd h' 138 8 = rd h 138 8) (q : WordIs h K V id) : WordIs h' K V id := by
  unfold WordIs at q ⊢
  rw [e5, e8]
  exact q
theorem next_52 {N p M : Nat} {h : pH} (ht : tOk h) (hn : nmsOk h M) (hM : M < 1600) (hN : 3200 ≤ N) (hp : p ≤ tl h) (e4 : rd h 138 4 = Int32.ofNat p) : ∃ h', fX12_next_52 N 138 h = some h' ∧ NxR h h' M p := by
  have hs := ht.1
  have hl3 := ht.2.2
  have s1 := hs.wr 138 6 (Int32.ofNat p)
  have s2 := s1.wr 138 7 0
  have s3 := s2.wr 138 8 0
  have c3 : Chg (Fl [6, 7, 8]) h (wr (wr (wr h 138 6 (Int32.ofNat p)) 138 7 0) 138 8 0) := ((Chg.wr h _ _ _ ⟨rfl, by simp⟩).trans (Chg.wr _ _ _ _ ⟨rfl, by simp⟩)).trans (Chg.wr _ _ _ _ ⟨rfl, by simp⟩)
  have f6 : rd (wr (wr (wr h 138 6 (Int32.ofNat p)) 138 7 0) 138 8 0) 138 6 = Int32.ofNat p := by rw [rd_wr_ne _ _ (by decide), rd_wr_ne _ _ (by decide)]; exact w_138_6 hs _
  have f7 : rd (wr (wr (wr h 138 6 (Int32.ofNat p)) 138 7 0) 138 8 0) 138 7 = Int32.ofNat 0 := by rw [rd_wr_ne _ _ (by decide)]; exact w_138_7 s1 _
  have f8 : rd (wr (wr (wr h 138 6 (Int32.ofNat p)) 138 7 0) 138 8 0) 138 8 = 0 := w_138_8 s2 _
  unfold fX12_next_52
  rw [g_138_4 hs, Option.bind_some, e4, p_138_6 hs, Option.bind_some, p_138_7 s1, Option.bind_some, p_138_8 s2, Option.bind_some]
  obtain ⟨t3, l3⟩ := tOk_chg c3 (Fl_ne (Or.inr (by decide))) ht
  have x3 := tx_chg c3 (fun i => Fl_ne (Or.inl (by decide)))
  obtain ⟨n3, nf3⟩ := nms_chg c3 (fun _ _ => Fl_ne (Or.inl (by decide))) (fun _ _ => Fl_ne (Or.inl (by decide))) (Fl_ne (Or.inr (by decide))) hn
  have f4 : rd (wr (wr (wr h 138 6 (Int32.ofNat p)) 138 7 0) 138 8 0) 138 4 = Int32.ofNat p := by rw [c3.2.2.1 _ _ (Fl_ne (Or.inr (by decide)))]; exact e4
  have nr3 : ∀ k, k < M → nmR (wr (wr (wr h 138 6 (Int32.ofNat p)) 138 7 0) 138 8 0) k = nmR h k := fun k hk => nmR_chg c3 (fun i => Fl_ne (Or.inl (by decide))) (nf3 k hk).1 (nf3 k hk).2
  generalize wr (wr (wr h 138 6 (Int32.ofNat p)) 138 7 0) 138 8 0 = g at *
  rw [g_138_4 s3, Option.bind_some, f4, e12_byteAt t3 (by omega), Option.bind_some]
  dsimp only
  rw [g_138_4 s3, Option.bind_some, f4, i_add1, e12_byteAt t3 (by omega), Option.bind_some]
  dsimp only
  rw [g_138_4 s3, Option.bind_some, f4, g_138_3 s3, Option.bind_some, t3.2.1, l3]
  by_cases hpl : p = tl h
  · rw [if_pos (by rw [hpl]), p_138_5 s3, Option.bind_some]
    have s4 := s3.wr 138 5 0
    rw [next_452 (P := p) (n := 0) s4 (by rw [rd_wr_ne _ _ (by decide)]; exact f6) (by rw [rd_wr_ne _ _ (by decide)]; exact f7)]
    have c4 : Chg (Fl [4, 5]) g (wr (wr g 138 5 0) 138 4 (Int32.ofNat (p + 0))) := (Chg.wr g _ _ _ ⟨rfl, by simp⟩).trans (Chg.wr _ _ _ _ ⟨rfl, by simp⟩)
    obtain ⟨n4, nf4⟩ := nms_chg c4 (fun _ _ => Fl_ne (Or.inl (by decide))) (fun _ _ => Fl_ne (Or.inl (by decide))) (Fl_ne (Or.inr (by decide))) n3
    refine ⟨_, rfl, 0, M, 0, 0, 0, (c3.mono (fun a k z => NxA_fl (by decide) z)).trans (c4.mono (fun a k z => NxA_fl (by decide) z)), w_138_4 s4 _, by rw [c4.2.2.1 _ _ (Fl_ne (Or.inr (by decide)))]; exact f6, by rw [c4.2.2.1 _ _ (Fl_ne (Or.inr (by decide)))]; exact f7, by omega, Or.inl ⟨hpl, rfl, rfl, rfl⟩, Or.inl ⟨rfl, ?_⟩, n4, Or.inl rfl, fun k hk => ⟨(nf4 k hk).1.trans (nf3 k hk).1, (nf4 k hk).2.trans (nf3 k hk).2⟩, fun z => absurd z (by decide), fun _ => rfl⟩
    rw [rd_wr_ne _ _ (by decide)]; exact w_138_5 s3 _
  · have hpl2 : p < tl h := by omega
    rw [if_neg (fun q => hpl ((iEq (by omega) (by omega)).mp q)), if_neg (show ¬ tl h ≤ p by omega), x3, e12_isLetter, Option.bind_some]
    dsimp only
    have hd2 : (if tl h ≤ p + 1 then (0 : Int32) else tx h (p + 1)) = byt2 (tx h) (tl h) p := rfl
    rw [hd2]
    by_cases hlt : isLt (tx h p)
    · rw [if_neg (fun z => let1.mp z hlt)]
      obtain ⟨n, hrun⟩ := run_ex alN (tx h) (tl h) (tl h - p) p (by omega)
      obtain ⟨N1, hN1⟩ : ∃ N1, N = N1 + n + 1 := ⟨N - (n + 1), by have := hrun.1; omega⟩
      obtain ⟨g2, r1, c5, r3⟩ := next_letters (N := N) (P := p) (n := n) n N1 0 g (by omega) t3 f6 f7 (by rw [x3, l3]; exact hrun)
      rw [← hN1] at r1
      rw [r1]
      obtain ⟨t5, l5⟩ := tOk_chg c5 (Fl_ne (Or.inr (by decide))) t3
      have x5 := (tx_chg c5 (fun i => Fl_ne (Or.inl (by decide)))).trans x3
      rw [l3] at l5
      obtain ⟨n5, nf5⟩ := nms_chg c5 (fun _ _ => Fl_ne (Or.inl (by decide))) (fun _ _ => Fl_ne (Or.inl (by decide))) (Fl_ne (Or.inr (by decide))) n3
      have nr5 : ∀ k, k < M → nmR g2 k = nmR h k := fun k hk => (nmR_chg c5 (fun i => Fl_ne (Or.inl (by decide))) (nf5 k hk).1 (nf5 k hk).2).trans (nr3 k hk)
      obtain ⟨h', M', K, id, q1, q2, q3, q4, q5, q6, q7, q8, q9, q10, q11, q12⟩ := next_name (N := N) t5 n5 hM hN (by rw [l5]; exact hpl2) (by rw [x5]; exact hlt) (by rw [x5, l5]; exact hrun) (by rw [c5.2.2.1 _ _ (Fl_ne (Or.inr (by decide)))]; exact f6) r3
      rw [x5, l5] at q6
      rw [x5] at q11
      refine ⟨h', q1, n, M', K, 0, id, ((c3.mono (fun a k z => NxA_fl (by decide) z)).trans (c5.mono (fun a k z => NxA_fl (by decide) z))).trans q2, q3, q4, q5, hrun.1, q6, q7, q8, q9, fun k hk => ⟨(q10 k hk).1.trans ((nf5 k hk).1.trans (nf3 k hk).1), (q10 k hk).2.trans ((nf5 k hk).2.trans (nf3 k hk).2)⟩, fun z => ?_, q12⟩
      obtain ⟨z1, z2, z3⟩ := q11 z
      exact ⟨z1, z2, z3.imp (fun w => w) (fun w => ⟨w.1, fun q hq => by rw [← nr5 q hq]; exact w.2 q hq⟩)⟩
    · rw [if_pos (let1.mpr hlt), e12_isDigit, Option.bind_some]
      dsimp only
      by_cases hdg : isDg (tx h p)
      · rw [if_neg (fun z => dig1.mp z hdg)]
        obtain ⟨n, hrun⟩ := run_ex isDg (tx h) (tl h) (tl h - p) p (by omega)
        obtain ⟨N1, hN1⟩ : ∃ N1, N = N1 + n + 1 := ⟨N - (n + 1), by have := hrun.1; omega⟩
        obtain ⟨g2, r1, c5, r3⟩ := next_digits (N := N) (P := p) (n := n) n N1 0 g (by omega) t3 f6 f7 (by rw [x3, l3]; exact hrun)
        rw [← hN1] at r1
        rw [r1]
        obtain ⟨t5, l5⟩ := tOk_chg c5 (Fl_ne (Or.inr (by decide))) t3
        have x5 := (tx_chg c5 (fun i => Fl_ne (Or.inl (by decide)))).trans x3
        rw [l3] at l5
        obtain ⟨h', K, V, q1, q2, q3, q4, q5, q6⟩ := next_num (N := N) t5 hN (by rw [l5]; exact hpl2) (by rw [x5]; exact hlt) (by rw [x5]; exact hdg) (by rw [x5, l5]; exact hrun) (by rw [c5.2.2.1 _ _ (Fl_ne (Or.inr (by decide)))]; exact f6) r3 (by rw [c5.2.2.1 _ _ (Fl_ne (Or.inr (by decide)))]; exact f8)
        rw [x5, l5] at q4
        have c6 := (c3.mono (fun a k (z : Fl [6, 7, 8] a k) => (⟨z.1, by have := z.2; simp at this ⊢; omega⟩ : Fl [4, 5, 6, 7, 8] a k))).trans ((c5.mono (fun a k (z : Fl [7] a k) => (⟨z.1, by have := z.2; simp at this ⊢; omega⟩ : Fl [4, 5, 6, 7, 8] a k))).trans (q2.mono (fun a k (z : Fl [4, 5, 8] a k) => (⟨z.1, by have := z.2; simp at this ⊢; omega⟩ : Fl [4, 5, 6, 7, 8] a k))))
        obtain ⟨n6, nf6⟩ := nms_chg c6 (fun _ _ => Fl_ne (Or.inl (by decide))) (fun _ _ => Fl_ne (Or.inl (by decide))) (Fl_ne (Or.inr (by decide))) hn
        exact ⟨h', q1, n, M, K, V, 0, c6.mono (fun a k z => NxA_fl (by decide) z), q3, by rw [q2.2.2.1 _ _ (Fl_ne (Or.inr (by decide))), c5.2.2.1 _ _ (Fl_ne (Or.inr (by decide)))]; exact f6, by rw [q2.2.2.1 _ _ (Fl_ne (Or.inr (by decide)))]; exact r3, hrun.1, q4, q6, n6, Or.inl rfl, nf6, fun z => absurd z q5, fun _ => rfl⟩
      · rw [if_pos (dig1.mpr hdg)]
        have two : ∀ K : Int32, two2 (tx h p) (byt2 (tx h) (tl h) p) = K → K ≠ 24 → K = 128 ∨ K = 129 ∨ K = 130 ∨ K = 131 ∨ K = 132 → sgV K = tx h p + 256 → p + 2 ≤ tl h → ∃ h', fX12_next_396 N 138 (tx h p) g = some h' ∧ NxR h h' M p := by
          intro K hK hK24 hK5 hsg hb
          obtain ⟨h', q1, q2, q3, q4, q5, q6⟩ := next_sign2 (N := N) (tx h p) s3 f6
          have c6 := (c3.mono (fun a k (z : Fl [6, 7, 8] a k) => (⟨z.1, by have := z.2; simp at this ⊢; omega⟩ : Fl [4, 5, 6, 7, 8] a k))).trans (q2.mono (fun a k (z : Fl [4, 5, 7, 8] a k) => (⟨z.1, by have := z.2; simp at this ⊢; omega⟩ : Fl [4, 5, 6, 7, 8] a k)))
          obtain ⟨n6, nf6⟩ := nms_chg c6 (fun _ _ => Fl_ne (Or.inl (by decide))) (fun _ _ => Fl_ne (Or.inl (by decide))) (Fl_ne (Or.inr (by decide))) hn
          refine ⟨h', q1, 2, M, K, 0, 0, c6.mono (fun a k z => NxA_fl (by decide) z), q3, by rw [q2.2.2.1 _ _ (Fl_ne (Or.inr (by decide)))]; exact f6, q4, hb, Or.inr (Or.inr (Or.inr ⟨hpl2, hlt, hdg, rfl, Or.inl ⟨by rw [hK]; exact hK24, hK.symm, rfl⟩⟩)), Or.inr (Or.inr (Or.inr (Or.inr (Or.inr ⟨Or.inr hK5, q5, by rw [q6, hsg]⟩)))), n6, Or.inl rfl, nf6, fun z => ?_, fun _ => rfl⟩
          exfalso
          rcases hK5 with k | k | k | k | k <;> rw [k] at z <;> revert z <;> decide
        have one : two2 (tx h p) (byt2 (tx h) (tl h) p) = 24 → ∃ h', fX12_next_400 N 138 (tx h p) g = some h' ∧ NxR h h' M p := by
          intro hK
          obtain ⟨h', q1, q2, q3, q4, q5, q6⟩ := next_sign1 (N := N) (tx h p) s3 f6
          have c6 := (c3.mono (fun a k (z : Fl [6, 7, 8] a k) => (⟨z.1, by have := z.2; simp at this ⊢; omega⟩ : Fl [4, 5, 6, 7, 8] a k))).trans (q2.mono (fun a k (z : Fl [4, 5, 7, 8] a k) => (⟨z.1, by have := z.2; simp at this ⊢; omega⟩ : Fl [4, 5, 6, 7, 8] a k)))
          obtain ⟨n6, nf6⟩ := nms_chg c6 (fun _ _ => Fl_ne (Or.inl (by decide))) (fun _ _ => Fl_ne (Or.inl (by decide))) (Fl_ne (Or.inr (by decide))) hn
          by_cases hc : isSgn (tx h p)
          · rw [if_pos hc] at q5
            refine ⟨h', q1, 1, M, tx h p, 0, 0, c6.mono (fun a k z => NxA_fl (by decide) z), q3, by rw [q2.2.2.1 _ _ (Fl_ne (Or.inr (by decide)))]; exact f6, q4, by omega, Or.inr (Or.inr (Or.inr ⟨hpl2, hlt, hdg, rfl, Or.inr (Or.inl ⟨hK, hc, rfl, rfl⟩)⟩)), Or.inr (Or.inr (Or.inr (Or.inr (Or.inr ⟨Or.inl hc, q5, ?_⟩)))), n6, Or.inl rfl, nf6, fun z => ?_, fun _ => rfl⟩
            · rw [q6]
              rcases hc with k | k | k | k | k | k | k | k | k | k | k | k | k | k | k | k | k | k <;> rw [k] <;> decide
            · exfalso
              rcases hc with k | k | k | k | k | k | k | k | k | k | k | k | k | k | k | k | k | k <;> rw [k] at z <;> revert z <;> decide
          · rw [if_neg hc] at q5
            exact ⟨h', q1, 1, M, 24, 0, 0, c6.mono (fun a k z => NxA_fl (by decide) z), q3, by rw [q2.2.2.1 _ _ (Fl_ne (Or.inr (by decide)))]; exact f6, q4, by omega, Or.inr (Or.inr (Or.inr ⟨hpl2, hlt, hdg, rfl, Or.inr (Or.inr ⟨hK, hc, rfl, rfl⟩)⟩)), Or.inr (Or.inr (Or.inr (Or.inr (Or.inl ⟨rfl, q5⟩)))), n6, Or.inl rfl, nf6, fun z => absurd z (by decide), fun _ => rfl⟩
        have hb2 : byt2 (tx h) (tl h) p ≠ 0 → p + 2 ≤ tl h := fun z => by
          unfold byt2 at z
          by_cases w : tl h ≤ p + 1
          · rw [if_pos w] at z; exact absurd rfl z
          · omega
        generalize hdd : byt2 (tx h) (tl h) p = d at *
        have l379 : d ≠ 61 ∨ (tx h p ≠ 61 ∧ tx h p ≠ 33 ∧ tx h p ≠ 60) → ∃ h', fX12_next_379 N 138 (tx h p) d g = some h' ∧ NxR h h' M p := by
          intro hno
          unfold fX12_next_379
          by_cases hcd : tx h p = d
          · rw [if_pos hcd]
            have hd61 : d ≠ 61 := hno.elim id (fun w z => w.1 (hcd.trans z))
            by_cases h38 : tx h p = 38
            · rw [if_pos h38]
              exact two 131 (by unfold two2; rw [if_neg hd61, if_pos hcd, if_pos h38]) (by decide) (by simp) (by rw [h38]; decide) (hb2 (by rw [← hcd, h38]; decide))
            · rw [if_neg h38]
              by_cases h124 : tx h p = 124
              · rw [if_pos h124]
                exact two 132 (by unfold two2; rw [if_neg hd61, if_pos hcd, if_neg h38, if_pos h124]) (by decide) (by simp) (by rw [h124]; decide) (hb2 (by rw [← hcd, h124]; decide))
              · rw [if_neg h124]
                exact one (by unfold two2; rw [if_neg hd61, if_pos hcd, if_neg h38, if_neg h124])
          · rw [if_neg hcd]
            refine one ?_
            unfold two2
            by_cases hd61 : d = 61
            · obtain ⟨w1, w2, w3⟩ := hno.resolve_left (fun z => z hd61)
              rw [if_pos hd61, if_neg w1, if_neg w2, if_neg w3]
            · rw [if_neg hd61, if_neg hcd]
        by_cases hd61 : d = 61
        · rw [if_pos hd61]
          by_cases h61 : tx h p = 61
          · rw [if_pos h61]
            exact two 128 (by unfold two2; rw [if_pos hd61, if_pos h61]) (by decide) (by simp) (by rw [h61]; decide) (hb2 (by rw [hd61]; decide))
          rw [if_neg h61]
          by_cases h33 : tx h p = 33
          · rw [if_pos h33]
            exact two 129 (by unfold two2; rw [if_pos hd61, if_neg h61, if_pos h33]) (by decide) (by simp) (by rw [h33]; decide) (hb2 (by rw [hd61]; decide))
          rw [if_neg h33]
          by_cases h60 : tx h p = 60
          · rw [if_pos h60]
            exact two 130 (by unfold two2; rw [if_pos hd61, if_neg h61, if_neg h33, if_pos h60]) (by decide) (by simp) (by rw [h60]; decide) (hb2 (by rw [hd61]; decide))
          rw [if_neg h60]
          exact l379 (Or.inr ⟨h61, h33, h60⟩)
        · rw [if_neg hd61]
          exact l379 (Or.inl hd61)
