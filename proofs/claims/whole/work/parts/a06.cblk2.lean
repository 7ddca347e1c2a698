/-! ===== THE CLASS' READER: a statement, a block ===== -/
theorem e7_tells {C : Cx} {N r t W c : Nat} {p o : Int32} {h : pH} (q : At7 C r t W c p o h) : fX7_tellsVariable N 46 h = some (if C.1.tells t = true then 1 else 0, h) := by
  have hn := q.1.2.1
  have ht := q.2.1
  unfold fX7_tellsVariable Tks.tells
  rw [if_pos (o_46 q.sg), g_46_9 q.sg, Option.bind_some, q.kind]
  by_cases h22 : C.1.K t = 22
  · rw [if_pos h22]
    obtain ⟨z, z1, z2, z3, z4⟩ := q.1.2.2.2.2.2.2
    have htl := q.lt h22 (by decide) (by decide)
    rw [g_46_8 q.sg, Option.bind_some, R_46_0 q.sg, Option.bind_some, g_8_3 q.sg, Option.bind_some, q.2.2.2.2.2.2.1, z1, i_add1, ifLe (by omega) (by omega), if_neg (by omega), Option.bind_some, R_8_0 q.sg, Option.bind_some, Option.bind_some, i_add1, L_9 q.sg (by omega), Option.bind_some, (q.1.2.2.2.2.2.1 (t + 1) (by omega)).1]
    by_cases h2 : C.1.K (t + 1) = 22
    · rw [if_pos h2, if_pos (by simp [h22, h2])]
    · rw [if_neg h2, if_neg (by simp [h22, h2])]
  · rw [if_neg h22, Option.bind_some]
    by_cases h2 : C.1.K t = 2
    · rw [if_pos h2, if_pos (by simp [h2])]
    · rw [if_neg h2, Option.bind_some]
      by_cases h3 : C.1.K t = 3
      · rw [if_pos h3, if_pos (by simp [h3])]
      · rw [if_neg h3, Option.bind_some]
        by_cases h4 : C.1.K t = 4
        · rw [if_pos h4, if_pos (by simp [h4])]
        · rw [if_neg h4, if_neg (by simp [h22, h2, h3, h4])]
theorem PS7.back {C : Cx} {q : Pr Tr} {r c : Nat} {o : Int32} {h0 h : pH} {res : Option pH} (a : PS7 C q r c o h res) (g : Chg (sA c) h0 h) : PS7 C q r c o h0 res := ⟨fun y u z => by
  obtain ⟨h', p', a1, a2, a3, a4, a5⟩ := a.1 y u z
  exact ⟨h', p', a1, a2, a3, a4, g.trans a5⟩, fun w z => by
  obtain ⟨h', a1, a4, a5⟩ := a.2 w z
  exact ⟨h', a1, a4, (g.mono (fun a k z => sA_e z)).trans a5⟩⟩
theorem statement_run {C : Cx} {N J j r t c : Nat} {p o : Int32} {h : pH} (hC : NmC C) (hN : 3200 < N) (hb : RB7 C N J r) (hJ : J + 2 ≤ j) (hJ1 : 1 ≤ J) (q : At7 C r t 0 c p o h) : PS7 C (C.1.stm r (C.1.blk r) t) r c o h (rcV (gX7_readWhile N j) 73 [.ref 46] h) := by
  obtain ⟨i, rfl⟩ : ∃ i, j = i + 1 := ⟨j - 1, by omega⟩
  have hn := q.1.2.1
  have ht := q.2.1
  have q1 := q.setP (Int32.ofNat (C.1.P t))
  rw [k_73]
  unfold fX7_readStatement
  rw [if_pos (o_46 q.sg), R_46_3 q.sg, Option.bind_some, R_46_0 q.sg, Option.bind_some, R_8_2 q.sg, Option.bind_some, g_46_8 q.sg, Option.bind_some, q.2.2.2.2.2.2.1, L_11 q.sg (by omega), Option.bind_some, (q.1.2.2.2.2.2.1 t ht).2.1, p_38_8 q.sg, Option.bind_some, g_46_9 q1.sg, Option.bind_some, q1.kind]
  refine PS7.back ?_ (chg_s8 (c := c) (k := 8) (x := Int32.ofNat (C.1.P t)) (Or.inl rfl))
  generalize wr h 38 8 (Int32.ofNat (C.1.P t)) = h1 at q1
  have hte := e7_tells (N := N) q1
  -- what neither key opens
  have e114 : PS7 C (if C.1.tells t = true then C.1.tellS r t else C.1.placeS r t) r c o h1 (fX7_readStatement_114 N (gX7_readWhile N i) 46 h1) := by
    unfold fX7_readStatement_114
    rw [hte, Option.bind_some]
    dsimp only
    by_cases hl : C.1.tells t = true
    · rw [if_pos hl, if_pos hl, if_neg (show ¬ (1 : Int32) = 0 by decide), bind_id]
      exact variable_run hC hN q1
    · rw [if_neg hl, if_neg hl, if_pos rfl, bind_id]
      exact gift_run hN q1
  unfold Tks.stm
  simp only [bind_id]
  have nt : ∀ k : Int32, C.1.K t = k → (k ≠ 2 ∧ k ≠ 3 ∧ k ≠ 4 ∧ k ≠ 22) → ¬ C.1.tells t = true := by
    intro k hk hh z
    unfold Tks.tells at z
    simp [hk, hh] at z
  by_cases h6 : C.1.K t = 6
  · rw [if_neg (nt 6 h6 (by decide)), if_pos h6, if_pos h6, guard46 q1.sg, Option.bind_some]
    exact if_run hN hb (by omega) hJ1 q1 h6
  rw [if_neg h6, if_neg h6]
  by_cases h7 : C.1.K t = 7
  · rw [if_pos h7, if_neg (nt 7 h7 (by decide)), if_neg (by rw [h7]; decide), if_neg (by rw [h7]; decide), if_neg (by rw [h7]; decide), if_neg (by rw [h7]; decide), if_neg (by rw [h7]; decide)]
    rw [if_neg (nt 7 h7 (by decide))] at e114
    exact e114
  rw [if_neg h7]
  by_cases h8 : C.1.K t = 8
  · rw [if_neg (nt 8 h8 (by decide)), if_pos h8, if_pos h8, guard46 q1.sg, Option.bind_some]
    exact while_run hN hb (by omega) hJ1 q1 h8
  rw [if_neg h8, if_neg h8]
  by_cases h9 : C.1.K t = 9
  · rw [if_pos h9, if_neg (nt 9 h9 (by decide)), if_neg (show ¬ C.1.K t = 11 by rw [h9]; decide), if_pos h9]
    exact return_run hN q1 h9
  rw [if_neg h9, if_neg h9]
  have wk : ∀ k : Nat, (k = 42 ∨ k = 43) → C.1.K t ≠ 0 → C.1.K t ≠ 24 → PS7 C (C.1.workS r k t) r c o h1 (fX7_readWork N 46 (Int32.ofNat k) h1) := by
    intro k hk k0 k24
    have := work_run hN (k := k) (by omega) q1 k0 k24
    unfold fX7_readWork
    rw [if_pos (o_46 q1.sg)]
    exact this
  by_cases h10 : C.1.K t = 10
  · rw [if_pos h10, if_neg (nt 10 h10 (by decide)), if_neg (show ¬ C.1.K t = 11 by rw [h10]; decide), if_pos h10]
    exact wk 42 (Or.inl rfl) (by rw [h10]; decide) (by rw [h10]; decide)
  rw [if_neg h10, if_neg h10]
  by_cases h11 : C.1.K t = 11
  · rw [if_neg (nt 11 h11 (by decide)), if_pos h11, if_pos h11, guard46 q1.sg, Option.bind_some]
    exact try_run hN hb (by omega) hJ1 q1 h11
  rw [if_neg h11, if_neg h11]
  by_cases h12 : C.1.K t = 12
  · rw [if_pos h12, if_neg (nt 12 h12 (by decide)), if_neg (by rw [h12]; decide)]
    rw [if_neg (nt 12 h12 (by decide))] at e114
    exact e114
  rw [if_neg h12]
  by_cases h13 : C.1.K t = 13
  · rw [if_pos h13, if_neg (nt 13 h13 (by decide)), if_pos h13]
    exact wk 43 (Or.inr rfl) (by rw [h13]; decide) (by rw [h13]; decide)
  rw [if_neg h13, if_neg h13]
  exact e114
theorem OkS.okB {n : Nat} {e : Tr} (h : OkS n e) : OkB (n + 1) e := by
  rcases h with ⟨p, y, w, rfl⟩ | ⟨p, y, w, x, rfl⟩ | ⟨p, rfl⟩ | ⟨p, k, x, rfl, hk⟩ | ⟨p, x, rfl, hk⟩ | ⟨p, x, y, rfl, hk⟩ | ⟨p, x, a, h, b, rfl, h2, h3, h4⟩ | ⟨p, x, a, rfl, h2⟩ | ⟨p, a, c, w, b, rfl, h2, h3⟩
  · exact Or.inr (Or.inl ⟨p, y, w, _, rfl, OkB.nl _⟩)
  · exact Or.inr (Or.inr (Or.inl ⟨p, y, w, x, _, rfl, OkB.nl _⟩))
  · exact Or.inr (Or.inr (Or.inr (Or.inl ⟨p, _, rfl, OkB.nl _⟩)))
  · exact Or.inr (Or.inr (Or.inr (Or.inr (Or.inl ⟨p, k, x, _, rfl, hk, OkB.nl _⟩))))
  · exact Or.inr (Or.inr (Or.inr (Or.inr (Or.inr (Or.inl ⟨p, x, _, rfl, hk, OkB.nl _⟩)))))
  · exact Or.inr (Or.inr (Or.inr (Or.inr (Or.inr (Or.inr (Or.inl ⟨p, x, y, _, rfl, hk, OkB.nl _⟩))))))
  · exact Or.inr (Or.inr (Or.inr (Or.inr (Or.inr (Or.inr (Or.inr (Or.inl ⟨p, x, a, h, b, _, rfl, h2, h3, h4, OkB.nl _⟩)))))))
  · exact Or.inr (Or.inr (Or.inr (Or.inr (Or.inr (Or.inr (Or.inr (Or.inr (Or.inl ⟨p, x, a, _, rfl, h2, OkB.nl _⟩))))))))
  · exact Or.inr (Or.inr (Or.inr (Or.inr (Or.inr (Or.inr (Or.inr (Or.inr (Or.inr ⟨p, a, c, w, b, _, rfl, h2, h3, OkB.nl _⟩))))))))
/-- the statements of a block, up to its } -/
theorem stms_run {C : Cx} {N J j r : Nat} {o : Int32} (hC : NmC C) (hN : 3200 < N) (hb : RB7 C N J r) (hJ : J + 2 ≤ j) (hJ1 : 1 ≤ J) : ∀ (f n g t c : Nat) (p : Int32) (h : pH), C.1.E < t + f → C.2.2 + 1 < t + n → g ≤ t → At7 C r t 0 c p o h → (∀ x t', C.1.stms r (C.1.blk r) f t = ok x t' → ∃ h' p' m u, fX7_readBlock_8 N (gX7_readWhile N j) n 46 (Int32.ofNat g) h = fX7_readBlock_8 N (gX7_readWhile N j) (m + 1) 46 (Int32.ofNat u) h' ∧ u ≤ t' ∧ At7 C r t' 0 (c + cb x) p' o h' ∧ CB (QC5 C h') x c o ∧ (∃ n, OkB n x) ∧ Chg (sA c) h h') ∧ (∀ w, C.1.stms r (C.1.blk r) f t = no w → ∃ v h', fX7_readBlock_8 N (gX7_readWhile N j) n 46 (Int32.ofNat g) h = some (v, h') ∧ Er7 C w 0 h' ∧ Chg (eA 0) h h')
  | 0, n, g, t, c, p, h, hf, hn, hg, q => by
    have hE := q.le_E
    have ht := q.2.1
    omega
  | f + 1, n, g, t, c, p, h, hf, hn, hg, q => by
    have hE := q.le_E
    have ht := q.2.1
    have hC3 := q.1.2.1
    obtain ⟨m, rfl⟩ : ∃ m, n = m + 1 := ⟨n - 1, by omega⟩
    have e0 : C.1.stms r (C.1.blk r) (f + 1) t = if C.1.K t = 125 then ok nl t else (C.1.stm r (C.1.blk r) t).bind fun a t' => (C.1.stms r (C.1.blk r) f t').bind fun b t'' => ok (bSeq a b) t'' := rfl
    rw [e0]
    by_cases h125 : C.1.K t = 125
    · rw [if_pos h125]
      refine ⟨fun x t' z => ?_, fun w z => (by cases z)⟩
      obtain ⟨rfl, rfl⟩ := ok_inj z
      exact ⟨h, p, m, g, rfl, hg, q, trivial, ⟨0, rfl⟩, Chg.refl _ _⟩
    · rw [if_neg h125]
      have pq := statement_run hC hN hb hJ hJ1 q
      have step : ∀ h1, rcV (gX7_readWhile N j) 73 [.ref 46] h = some h1 → fX7_readBlock_8 N (gX7_readWhile N j) (m + 1) 46 (Int32.ofNat g) h = fX7_readBlock_8 N (gX7_readWhile N j) m 46 (Int32.ofNat (g + 1)) h1 := by
        intro h1 e1
        rw [fX7_readBlock_8, show (3100 : Int32) = Int32.ofNat 3100 from rfl, ifLe (by decide) (by omega), if_neg (by omega), g_46_11 q.sg, Option.bind_some, q.2.2.2.2.2.2.2.2.2.1, if_pos rfl, g_46_9 q.sg, Option.bind_some, q.kind, if_neg h125, guard46 q.sg, Option.bind_some, e1, Option.bind_some, i_add1]
      rcases hq : C.1.stm r (C.1.blk r) t with ⟨a, t1⟩ | w
      · obtain ⟨h1, p1, e1, q1, x1, ⟨na, oka⟩, c1⟩ := pq.1 a t1 hq
        have hadv := Tks.stm_adv (Tks.blk_adv C.1 r) _ _ _ hq
        obtain ⟨IH1, IH2⟩ := stms_run hC hN hb hJ hJ1 f m (g + 1) t1 (c + cb a) p1 h1 (by omega) (by omega) (by omega) q1
        rw [Pr.bind_ok]
        refine ⟨fun x t' z => ?_, fun w z => ?_⟩
        · obtain ⟨b, t2, z1, z2⟩ := Pr.bind_eq_ok z
          obtain ⟨rfl, rfl⟩ := ok_inj z2
          obtain ⟨h2, p2, m2, u2, e2, hu2, q2, x2, ⟨nb, okb⟩, c2⟩ := IH1 b t2 z1
          refine ⟨h2, p2, m2, u2, by rw [step h1 e1, e2], hu2, by rw [oka.len b, ← Nat.add_assoc]; exact q2, oka.code (CB.same oka.okB x1 (fun y i y1 y2 i1 i2 => c2.2.2.1 _ _ (by unfold sA xA; omega))) x2, ⟨_, oka.seq okb⟩, c1.trans (c2.mono (fun a k z => sA_le (by omega) z))⟩
        · rcases hz : C.1.stms r (C.1.blk r) f t1 with ⟨b, t2⟩ | w'
          · rw [hz] at z; cases z
          · rw [hz] at z
            obtain rfl := Sum.inr.inj z
            obtain ⟨v, h2, e2, q2, c2⟩ := IH2 w' hz
            exact ⟨v, h2, by rw [step h1 e1, e2], q2, (c1.mono (fun a k z => sA_e z)).trans c2⟩
      · obtain ⟨h1, e1, q1, c1⟩ := pq.2 w hq
        rw [Pr.bind_no]
        refine ⟨fun x t' z => (by cases z), fun w z => ?_⟩
        obtain rfl := Sum.inr.inj z
        obtain ⟨m', rfl⟩ : ∃ m', m = m' + 1 := ⟨m - 1, by omega⟩
        obtain ⟨v, h2, e2, q2, c2⟩ := block_8 (N := N) (n := m') (v := Int32.ofNat (g + 1)) (rc := gX7_readWhile N j) q1
        exact ⟨v, h2, by rw [step h1 e1, e2], q2, c1.trans c2⟩
theorem block_run {C : Cx} {N : Nat} (hC : NmC C) (hN : 3200 < N) : ∀ r, RB7 C N (3 * r + 1) r
  | 0 => by
    intro j hj t c p o h q
    obtain ⟨i, rfl⟩ : ∃ i, j = i + 1 := ⟨j - 1, by omega⟩
    obtain ⟨h1, e1, q1, c1⟩ := e7_open_no (N := N) (k := 123) q (Or.inr rfl)
    obtain ⟨n, hn⟩ : ∃ n, N = n + 1 := ⟨N - 1, by omega⟩
    obtain ⟨v, h2, e2, q2, c2⟩ := block_8 (N := N) (n := n) (v := 0) (rc := gX7_readWhile N i) q1
    rw [← hn] at e2
    refine ⟨fun x t' z => (no_ok z).elim, fun w z => ?_⟩
    obtain rfl := Sum.inr.inj z
    refine ⟨v, h2, ?_, q2, (c1.mono (fun a k z => m7_e z)).trans c2⟩
    rw [k_72]
    unfold fX7_readBlock
    rw [if_pos (o_46 q.sg), e1, Option.bind_some]
    exact e2
  | r + 1 => by
    intro j hj t c p o h q
    obtain ⟨i, rfl⟩ : ∃ i, j = i + 1 := ⟨j - 1, by omega⟩
    obtain ⟨n, hn⟩ : ∃ n, N = n + 1 := ⟨N - 1, by omega⟩
    have hE := q.le_E
    have hC3 := q.1.2.1
    have hcap := q.cap
    rw [k_72]
    unfold fX7_readBlock
    rw [if_pos (o_46 q.sg)]
    have e0 : C.1.blk (r + 1) t = if C.1.K t ≠ 123 then no (C.1.P t) else (C.1.stms r (C.1.blk r) (C.1.E - t) (t + 1)).bind fun b t' => ok (b, C.1.P t') (t' + 1) := rfl
    rw [e0]
    by_cases hk : C.1.K t ≠ 123
    · rw [if_pos hk]
      obtain ⟨h1, e1, q1, c1⟩ := e7_open_no (N := N) (k := 123) q (Or.inl hk)
      obtain ⟨v, h2, e2, q2, c2⟩ := block_8 (N := N) (n := n) (v := 0) (rc := gX7_readWhile N i) q1
      rw [← hn] at e2
      refine ⟨fun x t' z => (no_ok z).elim, fun w z => ?_⟩
      obtain rfl := Sum.inr.inj z
      refine ⟨v, h2, ?_, q2, (c1.mono (fun a k z => m7_e z)).trans c2⟩
      rw [e1, Option.bind_some]
      exact e2
    · rw [if_neg hk]
      have hk := Decidable.not_not.mp hk
      have htl := q.lt hk (by decide) (by decide)
      have hm0 := C.1.mono t (by rw [hk]; decide)
      have hr := q.2.2.1
      obtain ⟨h1, e1, q1, c1⟩ := e7_open (N := N) q hk (by decide) (by decide)
      obtain ⟨s1, s2⟩ := stms_run (o := o) hC hN (block_run hC hN r) (show 3 * r + 1 + 2 ≤ i by omega) (by omega) (C.1.E - t) N 0 (t + 1) c p h1 (by omega) (by omega) (by omega) q1
      rw [e1, Option.bind_some]
      refine ⟨fun x t' z => ?_, fun w z => ?_⟩
      · obtain ⟨b, t2, z1, z2⟩ := Pr.bind_eq_ok z
        obtain ⟨rfl, rfl⟩ := ok_inj z2
        obtain ⟨h2, p2, m2, u2, e2, hu2, q2, x2, okb, c2⟩ := s1 b t2 z1
        have h125 := (Tks.stms_adv (Tks.blk_adv C.1 r) _ _ _ _ z1).2.2
        obtain ⟨h3, e3, q3, c3⟩ := e7_close (N := N) q2 (by omega) h125 (by decide) (by decide)
        have ht2 := q2.2.1
        have hm2 := C.1.mono t2 (by rw [h125]; decide)
        obtain ⟨nb, okb⟩ := okb
        refine ⟨h3, p2, ?_, q3, CB.same okb x2 (fun y i y1 y2 i1 i2 => c3.2.2.1 _ _ (by unfold m7; omega)), ⟨nb, okb⟩, ((c1.mono (fun a k z => m7_s z)).trans c2).trans (c3.mono (fun a k z => m7_s z)), ?_⟩
        · show fX7_readBlock_8 N (gX7_readWhile N i) N 46 (Int32.ofNat 0) h1 = _
          rw [e2, fX7_readBlock_8, show (3100 : Int32) = Int32.ofNat 3100 from rfl, ifLe (by decide) (by omega), if_neg (by omega), g_46_11 q2.sg, Option.bind_some, q2.2.2.2.2.2.2.2.2.2.1, if_pos rfl, g_46_9 q2.sg, Option.bind_some, q2.kind, if_pos h125]
          unfold fX7_readBlock_42
          rw [R_46_0 q2.sg, Option.bind_some, R_8_2 q2.sg, Option.bind_some, g_46_8 q2.sg, Option.bind_some, q2.2.2.2.2.2.2.1, L_11 q2.sg (by omega), Option.bind_some, e3, Option.bind_some, (q2.1.2.2.2.2.2.1 t2 ht2).2.1]
        · show c + cb b + 1 ≤ C.1.P (t2 + 1)
          have := q2.cap
          omega
      · rcases hz : C.1.stms r (C.1.blk r) (C.1.E - t) (t + 1) with ⟨b, t2⟩ | w'
        · rw [hz] at z; cases z
        · rw [hz] at z
          obtain rfl := Sum.inr.inj z
          obtain ⟨v, h2, e2, q2, c2⟩ := s2 w' hz
          exact ⟨v, h2, e2, q2, (c1.mono (fun a k z => m7_e z)).trans c2⟩
