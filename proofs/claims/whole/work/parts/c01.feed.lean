/-! ===== THE CALLS: feed, end, heap ===== -/
def byt (v : Int32) (m : Nat) : Int32 := (v >>> Int32.ofNat (24 - 8 * m)) &&& 255
theorem byt_cls (v s : Int32) (hs : s = 24 ∨ s = 16 ∨ s = 8 ∨ s = 0) : ((v.toUInt32 >>> (s.toUInt32 &&& Int32.toUInt32 31)).toInt32) &&& (255 : Int32) = (v >>> s) &&& 255 := by
  have key : ∀ (x : BitVec 32) (k : Nat), k ≤ 24 → (x >>> k) &&& 255#32 = (x.sshiftRight k) &&& 255#32 := fun x k hk => by
    refine BitVec.eq_of_getLsbD_eq (fun i hi => ?_)
    rw [BitVec.getLsbD_and, BitVec.getLsbD_and, BitVec.getLsbD_ushiftRight, BitVec.getLsbD_sshiftRight]
    by_cases h8 : i < 8
    · rw [if_pos (by omega), decide_eq_false (by omega)]
      rfl
    · have : (255#32).getLsbD i = false := by
        have hh : ∀ j : Fin 32, 8 ≤ j.val → (255#32).getLsbD j.val = false := by decide
        exact hh ⟨i, hi⟩ (by show 8 ≤ i; omega)
      rw [this, Bool.and_false, Bool.and_false]
  refine Int32.toBitVec_inj.mp ?_
  rcases hs with rfl | rfl | rfl | rfl
  · exact key v.toBitVec 24 (by omega)
  · exact key v.toBitVec 16 (by omega)
  · exact key v.toBitVec 8 (by omega)
  · exact key v.toBitVec 0 (by omega)
theorem byt_lt (v : Int32) (m : Nat) : ∃ b, b < 256 ∧ byt v m = Int32.ofNat b := by
  unfold byt
  generalize v >>> Int32.ofNat (24 - 8 * m) = x
  refine ⟨(x &&& 255).toBitVec.toNat, ?_, ?_⟩
  · have : (x &&& 255).toBitVec = x.toBitVec &&& 255#32 := rfl
    rw [this, BitVec.toNat_and]
    have : x.toBitVec.toNat &&& (255#32).toNat ≤ (255#32).toNat := Nat.and_le_right
    have e : (255#32).toNat = 255 := rfl
    omega
  · obtain ⟨U, hU⟩ := i_ex (x &&& 255)
    refine Int32.toBitVec_inj.mp ?_
    show _ = BitVec.ofNat 32 (x &&& 255).toBitVec.toNat
    rw [BitVec.ofNat_toNat, BitVec.setWidth_eq]
/-- the texts of both sides -/
def TpI (L : Nat) (h : pH) : Prop := rd h 6 8 = Int32.ofNat L ∧ rd h 138 1 = Int32.ofNat L ∧ L ≤ 3000 ∧ ∀ i, i < L → rd h 7 i = rd h 139 i ∧ ∃ b, b < 256 ∧ rd h 7 i = Int32.ofNat b
section FD
variable {N : Nat}
theorem pf_step {n L : Nat} {v s : Int32} {h : pH} (sg : Sg h) (h8 : rd h 6 8 = Int32.ofNat L) (hL : L < 3000) (hs : ¬ s < 0) : fX11_putFour_3 N (n + 1) 6 v s h = fX11_putFour_3 N n 6 v (s + (-8 : Int32)) (wr (wr h 7 L (((v.toUInt32 >>> (s.toUInt32 &&& Int32.toUInt32 31)).toInt32) &&& (255 : Int32))) 6 8 (Int32.ofNat (L + 1))) := by
  have s1 := sg.wr 7 L (((v.toUInt32 >>> (s.toUInt32 &&& Int32.toUInt32 31)).toInt32) &&& (255 : Int32))
  rw [fX11_putFour_3, if_neg hs, g_6_8 sg, Option.bind_some, h8, if_neg (show ¬ (3000 : Int32) ≤ Int32.ofNat L by rw [show (3000 : Int32) = Int32.ofNat 3000 from rfl, iLe (by omega) (by omega)]; omega), R_6_0 sg, Option.bind_some, Option.bind_some, T_7 sg hL, Option.bind_some, g_6_8 s1, Option.bind_some, rd_wr_ne _ _ (by omega), h8, i_add1, p_6_8 s1, Option.bind_some]
def pfA (L a k : Nat) : Prop := (a = 7 ∧ L ≤ k) ∨ (a = 6 ∧ k = 8)
theorem pf_ok {L : Nat} {v : Int32} {h : pH} (hN : 5 ≤ N) (sg : Sg h) (h8 : rd h 6 8 = Int32.ofNat L) (hL : L + 4 ≤ 3000) : ∃ h', fX11_putFour N 6 v h = some h' ∧ Sg h' ∧ rd h' 6 8 = Int32.ofNat (L + 4) ∧ (∀ m, m < 4 → rd h' 7 (L + m) = byt v m) ∧ Chg (pfA L) h h' := by
  obtain ⟨n, hn⟩ : ∃ n, N = n + 1 + 1 + 1 + 1 + 1 := ⟨N - 5, by omega⟩
  have b0 := byt_cls v 24 (by simp)
  have b1 := byt_cls v 16 (by simp)
  have b2 := byt_cls v 8 (by simp)
  have b3 := byt_cls v 0 (by simp)
  have st : ∀ (k : Nat) (x : Int32) (h : pH), Sg h → Sg (wr (wr h 7 k x) 6 8 (Int32.ofNat (k + 1))) := fun k x h z => (z.wr 7 k x).wr 6 8 _
  have s1 := st L (byt v 0) h sg
  have s2 := st (L + 1) (byt v 1) _ s1
  have s3 := st (L + 2) (byt v 2) _ s2
  have s4 := st (L + 3) (byt v 3) _ s3
  have e8 : ∀ (k : Nat) (x : Int32) (h : pH), Sg h → rd (wr (wr h 7 k x) 6 8 (Int32.ofNat (k + 1))) 6 8 = Int32.ofNat (k + 1) := fun k x h z => w_6_8 (z.wr 7 k x) _
  have e7 : ∀ (k : Nat) (x : Int32) (h : pH), Sg h → rd (wr (wr h 7 k x) 6 8 (Int32.ofNat (k + 1))) 7 k = x := fun k x h z => by
    rw [rd_wr_ne _ _ (by omega), W_7 z]
  have ce : ∀ (k : Nat) (x : Int32) (h : pH), Chg (fun a j => (a = 7 ∧ j = k) ∨ (a = 6 ∧ j = 8)) h (wr (wr h 7 k x) 6 8 (Int32.ofNat (k + 1))) := fun k x h => (Chg.wr h 7 k _ (by omega)).trans (Chg.wr _ 6 8 _ (by omega))
  refine ⟨_, ?_, s4, e8 (L + 3) (byt v 3) _ s3, fun m hm => ?_, ?_⟩
  · unfold fX11_putFour
    rw [if_pos (o_6 sg)]
    have e0 : fX11_putFour_3 N N 6 v 24 h = fX11_putFour_3 N (n + 1 + 1 + 1 + 1 + 1) 6 v 24 h := by rw [← hn]
    rw [e0, pf_step sg h8 (by omega) (by decide), b0]
    rw [show (24 : Int32) + (-8) = 16 from rfl]
    have p1 := pf_step (N := N) (n := n + 1 + 1 + 1) (v := v) (s := 16) s1 (e8 L (byt v 0) h sg) (by omega) (by decide)
    rw [b1] at p1
    have p2 := pf_step (N := N) (n := n + 1 + 1) (v := v) (s := 8) s2 (e8 (L + 1) (byt v 1) _ s1) (by omega) (by decide)
    rw [b2] at p2
    have p3 := pf_step (N := N) (n := n + 1) (v := v) (s := 0) s3 (e8 (L + 2) (byt v 2) _ s2) (by omega) (by decide)
    rw [b3] at p3
    exact (p1.trans (p2.trans p3)).trans (by rw [fX11_putFour_3, if_pos (by decide)]; rfl)
  · have hm : m = 0 ∨ m = 1 ∨ m = 2 ∨ m = 3 := by omega
    rcases hm with rfl | rfl | rfl | rfl
    · rw [(ce (L + 3) (byt v 3) _).2.2.1 _ _ (by omega), (ce (L + 2) (byt v 2) _).2.2.1 _ _ (by omega), (ce (L + 1) (byt v 1) _).2.2.1 _ _ (by omega)]
      exact e7 L (byt v 0) h sg
    · rw [(ce (L + 3) (byt v 3) _).2.2.1 _ _ (by omega), (ce (L + 2) (byt v 2) _).2.2.1 _ _ (by omega)]
      exact e7 (L + 1) (byt v 1) _ s1
    · rw [(ce (L + 3) (byt v 3) _).2.2.1 _ _ (by omega)]
      exact e7 (L + 2) (byt v 2) _ s2
    · exact e7 (L + 3) (byt v 3) _ s3
  · refine ((ce L (byt v 0) h).mono (fun a k z => by unfold pfA; omega)).trans (((ce (L + 1) (byt v 1) _).mono (fun a k z => by unfold pfA; omega)).trans (((ce (L + 2) (byt v 2) _).mono (fun a k z => by unfold pfA; omega)).trans ((ce (L + 3) (byt v 3) _).mono (fun a k z => by unfold pfA; omega))))
def fb (a b c d e : Int32) (j : Nat) : Int32 := byt (if 4 ≤ j then (if 8 ≤ j then (if 12 ≤ j then (if 16 ≤ j then e else d) else c) else b) else a) (j % 4)
theorem feed_cls {L : Nat} {a b c d e : Int32} {h : pH} (hN : 5 ≤ N) (sg : Sg h) (h8 : rd h 6 8 = Int32.ofNat L) (hL : L + 20 ≤ 3000) : ∃ h', fX11_feed N 6 a b c d e h = some (Int32.ofNat (L + 20), h') ∧ Sg h' ∧ rd h' 6 8 = Int32.ofNat (L + 20) ∧ (∀ j, j < 20 → rd h' 7 (L + j) = fb a b c d e j) ∧ Chg (pfA L) h h' := by
  obtain ⟨h1, a1, a2, a3, a4, a5⟩ := pf_ok (N := N) (v := a) hN sg h8 (by omega)
  obtain ⟨h2, b1, b2, b3, b4, b5⟩ := pf_ok (N := N) (v := b) hN a2 a3 (by omega)
  obtain ⟨h3, c1, c2, c3, c4, c5⟩ := pf_ok (N := N) (v := c) hN b2 b3 (by omega)
  obtain ⟨h4, d1, d2, d3, d4, d5⟩ := pf_ok (N := N) (v := d) hN c2 c3 (by omega)
  obtain ⟨h5, e1, e2, e3, e4, e5⟩ := pf_ok (N := N) (v := e) hN d2 d3 (by omega)
  refine ⟨h5, ?_, e2, e3, fun j hj => ?_, a5.trans ((b5.mono (fun a k z => by unfold pfA at z ⊢; omega)).trans ((c5.mono (fun a k z => by unfold pfA at z ⊢; omega)).trans ((d5.mono (fun a k z => by unfold pfA at z ⊢; omega)).trans (e5.mono (fun a k z => by unfold pfA at z ⊢; omega)))))⟩
  · unfold fX11_feed
    rw [if_pos (o_6 sg), g_6_8 sg, Option.bind_some, h8, if_pos (show Int32.ofNat L ≤ (2980 : Int32) by rw [show (2980 : Int32) = Int32.ofNat 2980 from rfl, iLe (by omega) (by omega)]; omega), a1, Option.bind_some, b1, Option.bind_some, c1, Option.bind_some, d1, Option.bind_some, e1, Option.bind_some, g_6_8 e2, Option.bind_some, e3]
  · unfold fb
    by_cases h16 : 16 ≤ j
    · rw [if_pos (by omega), if_pos (by omega), if_pos (by omega), if_pos h16]
      have := e4 (j % 4) (by omega)
      rw [show L + 4 + 4 + 4 + 4 + j % 4 = L + j by omega] at this
      exact this
    · by_cases h12 : 12 ≤ j
      · rw [if_pos (by omega), if_pos (by omega), if_pos h12, if_neg h16, e5.2.2.1 _ _ (by unfold pfA; omega)]
        have := d4 (j % 4) (by omega)
        rw [show L + 4 + 4 + 4 + j % 4 = L + j by omega] at this
        exact this
      · by_cases h8' : 8 ≤ j
        · rw [if_pos (by omega), if_pos h8', if_neg h12, e5.2.2.1 _ _ (by unfold pfA; omega), d5.2.2.1 _ _ (by unfold pfA; omega)]
          have := c4 (j % 4) (by omega)
          rw [show L + 4 + 4 + j % 4 = L + j by omega] at this
          exact this
        · by_cases h4' : 4 ≤ j
          · rw [if_pos h4', if_neg h8', e5.2.2.1 _ _ (by unfold pfA; omega), d5.2.2.1 _ _ (by unfold pfA; omega), c5.2.2.1 _ _ (by unfold pfA; omega)]
            have := b4 (j % 4) (by omega)
            rw [show L + 4 + j % 4 = L + j by omega] at this
            exact this
          · rw [if_neg h4', e5.2.2.1 _ _ (by unfold pfA; omega), d5.2.2.1 _ _ (by unfold pfA; omega), c5.2.2.1 _ _ (by unfold pfA; omega), b5.2.2.1 _ _ (by unfold pfA; omega)]
            have := a4 (j % 4) (by omega)
            rw [show L + j % 4 = L + j by omega] at this
            exact this
def qfA (L a k : Nat) : Prop := (a = 139 ∧ L ≤ k) ∨ (a = 138 ∧ k = 1)
theorem byt_k {k : Nat} (hk : k < 20) (v : Int32) : (v >>> (((24 : Int32) - ((8 : Int32) * (Int32.ofNat k - Int32.ofNat k / (4 : Int32) * (4 : Int32)))) &&& 31)) &&& (255 : Int32) = byt v (k % 4) := by
  have e : ∀ k : Fin 20, (((24 : Int32) - ((8 : Int32) * (Int32.ofNat k.val - Int32.ofNat k.val / (4 : Int32) * (4 : Int32)))) &&& 31) = Int32.ofNat (24 - 8 * (k.val % 4)) := by decide
  have := e ⟨k, hk⟩
  dsimp only at this
  unfold byt
  rw [this]
theorem feed_ref {L : Nat} {a b c d e : Int32} (hL : L + 20 ≤ 3000) : ∀ (r k f : Nat) (h : pH), k + r = 20 → r < f → Sg h → rd h 138 1 = Int32.ofNat (L + k) → ∃ h', fX12_feed_18 N f 138 a b c d e (Int32.ofNat k) h = some (Int32.ofNat (L + 20), h') ∧ Sg h' ∧ rd h' 138 1 = Int32.ofNat (L + 20) ∧ (∀ j, k ≤ j → j < 20 → rd h' 139 (L + j) = fb a b c d e j) ∧ Chg (qfA (L + k)) h h'
  | 0, k, f + 1, h, hk, hf, sg, h1 => by
    obtain rfl : k = 20 := by omega
    refine ⟨h, ?_, sg, h1, fun j j1 j2 => absurd j2 (by omega), Chg.refl _ _⟩
    rw [fX12_feed_18, if_pos (by decide), g_138_1 sg, Option.bind_some, h1]
  | r + 1, k, f + 1, h, hk, hf, sg, h1 => by
    have s1 := sg.wr 139 (L + k) (fb a b c d e k)
    have s2 := s1.wr 138 1 (Int32.ofNat (L + k + 1))
    have c2 : Chg (qfA (L + k)) h (wr (wr h 139 (L + k) (fb a b c d e k)) 138 1 (Int32.ofNat (L + k + 1))) := (Chg.wr h 139 _ _ (by unfold qfA; omega)).trans (Chg.wr _ 138 1 _ (by unfold qfA; omega))
    obtain ⟨h', a1, a2, a3, a4, a5⟩ := feed_ref hL r (k + 1) f _ (by omega) (by omega) s2 (w_138_1 s1 _)
    refine ⟨h', ?_, a2, a3, fun j j1 j2 => ?_, c2.trans (a5.mono (fun a k z => by unfold qfA at z ⊢; omega))⟩
    · rw [← a1]
      have e71 : ∀ v : Int32, byt v (k % 4) = fb a b c d e k → fX12_feed_71 N (fX12_feed_18 N f) 138 a b c d e (Int32.ofNat k) v h = fX12_feed_18 N f 138 a b c d e (Int32.ofNat (k + 1)) (wr (wr h 139 (L + k) (fb a b c d e k)) 138 1 (Int32.ofNat (L + k + 1))) := fun v hv => by
        unfold fX12_feed_71
        rw [R_138_0 sg, Option.bind_some, g_138_1 sg, Option.bind_some, h1, byt_k (by omega), hv, T_139 sg (by omega), Option.bind_some, g_138_1 s1, Option.bind_some, rd_wr_ne _ _ (by omega), h1, i_add1, p_138_1 s1, Option.bind_some, i_add1]
      rw [fX12_feed_18, if_neg (show ¬ (20 : Int32) ≤ Int32.ofNat k by rw [show (20 : Int32) = Int32.ofNat 20 from rfl, iLe (by omega) (by omega)]; omega)]
      by_cases h4 : 4 ≤ k
      · rw [if_pos (show (4 : Int32) ≤ Int32.ofNat k by rw [show (4 : Int32) = Int32.ofNat 4 from rfl, iLe (by omega) (by omega)]; omega)]
        by_cases h8 : 8 ≤ k
        · rw [if_pos (show (8 : Int32) ≤ Int32.ofNat k by rw [show (8 : Int32) = Int32.ofNat 8 from rfl, iLe (by omega) (by omega)]; omega)]
          by_cases h12 : 12 ≤ k
          · rw [if_pos (show (12 : Int32) ≤ Int32.ofNat k by rw [show (12 : Int32) = Int32.ofNat 12 from rfl, iLe (by omega) (by omega)]; omega)]
            by_cases h16 : 16 ≤ k
            · rw [if_pos (show (16 : Int32) ≤ Int32.ofNat k by rw [show (16 : Int32) = Int32.ofNat 16 from rfl, iLe (by omega) (by omega)]; omega)]
              exact e71 e (by unfold fb; rw [if_pos h4, if_pos h8, if_pos h12, if_pos h16])
            · rw [if_neg (show ¬ (16 : Int32) ≤ Int32.ofNat k by rw [show (16 : Int32) = Int32.ofNat 16 from rfl, iLe (by omega) (by omega)]; omega)]
              exact e71 d (by unfold fb; rw [if_pos h4, if_pos h8, if_pos h12, if_neg h16])
          · rw [if_neg (show ¬ (12 : Int32) ≤ Int32.ofNat k by rw [show (12 : Int32) = Int32.ofNat 12 from rfl, iLe (by omega) (by omega)]; omega)]
            exact e71 c (by unfold fb; rw [if_pos h4, if_pos h8, if_neg h12])
        · rw [if_neg (show ¬ (8 : Int32) ≤ Int32.ofNat k by rw [show (8 : Int32) = Int32.ofNat 8 from rfl, iLe (by omega) (by omega)]; omega)]
          exact e71 b (by unfold fb; rw [if_pos h4, if_neg h8])
      · rw [if_neg (show ¬ (4 : Int32) ≤ Int32.ofNat k by rw [show (4 : Int32) = Int32.ofNat 4 from rfl, iLe (by omega) (by omega)]; omega)]
        exact e71 a (by unfold fb; rw [if_neg h4])
    · by_cases z : j = k
      · subst z
        rw [a5.2.2.1 _ _ (by unfold qfA; omega), rd_wr_ne _ _ (by omega), W_139 sg]
      · exact a4 j (by omega) j2
/-- what the texts change -/
def tpA (a k : Nat) : Prop := a = 7 ∨ a = 139 ∨ (a = 6 ∧ (k = 8 ∨ k = 9)) ∨ (a = 138 ∧ (k = 1 ∨ k = 71))
theorem feed_both {L : Nat} {a b c d e : Int32} {h : pH} (hN : 30 ≤ N) (sg : Sg h) (t : TpI L h) : ∃ r h1 h2 L', fX11_feed N 6 a b c d e h = some (r, h1) ∧ fX12_feed N 138 a b c d e h1 = some (r, h2) ∧ TpI L' h2 ∧ Chg (fun a k => tpA a k ∧ (a = 7 ∨ a = 139 ∨ k = 8 ∨ k = 1)) h h2 := by
  obtain ⟨t1, t2, t3, t4⟩ := t
  by_cases hL : L + 20 ≤ 3000
  · obtain ⟨h1, a1, a2, a3, a4, a5⟩ := feed_cls (N := N) (a := a) (b := b) (c := c) (d := d) (e := e) (by omega) sg t1 hL
    have e1 : rd h1 138 1 = Int32.ofNat L := by rw [a5.2.2.1 _ _ (by unfold pfA; omega)]; exact t2
    obtain ⟨h2, b1, b2, b3, b4, b5⟩ := feed_ref (N := N) (a := a) (b := b) (c := c) (d := d) (e := e) hL 20 0 N h1 (by omega) (by omega) a2 e1
    have hc : Chg (fun a k => tpA a k ∧ (a = 7 ∨ a = 139 ∨ k = 8 ∨ k = 1)) h h2 := (a5.mono (fun a k z => by unfold pfA at z; unfold tpA; omega)).trans (b5.mono (fun a k z => by unfold qfA at z; unfold tpA; omega))
    refine ⟨Int32.ofNat (L + 20), h1, h2, L + 20, a1, ?_, ⟨?_, b3, hL, fun i hi => ?_⟩, ?_⟩
    · unfold fX12_feed
      rw [if_pos (o_138 a2), g_138_1 a2, Option.bind_some, e1, show (20 : Int32) = Int32.ofNat 20 from rfl, ← Int32.ofNat_add, if_pos (show Int32.ofNat (L + 20) ≤ (3000 : Int32) by rw [show (3000 : Int32) = Int32.ofNat 3000 from rfl, iLe (by omega) (by omega)]; omega)]
      exact b1
    · rw [b5.2.2.1 _ _ (by unfold qfA; omega)]; exact a3
    · by_cases hi2 : i < L
      · rw [b5.2.2.1 _ _ (by unfold qfA; omega), b5.2.2.1 _ _ (by unfold qfA; omega), a5.2.2.1 _ _ (by unfold pfA; omega), a5.2.2.1 _ _ (by unfold pfA; omega)]
        exact t4 i hi2
      · have x1 := a4 (i - L) (by omega)
        have x2 := b4 (i - L) (by omega) (by omega)
        rw [show L + (i - L) = i by omega] at x1 x2
        rw [b5.2.2.1 7 i (by unfold qfA; omega), x1, x2]
        exact ⟨rfl, byt_lt _ _⟩
    · exact hc
  · refine ⟨-1, h, h, L, ?_, ?_, ⟨t1, t2, t3, t4⟩, Chg.refl _ _⟩
    · unfold fX11_feed
      rw [if_pos (o_6 sg), g_6_8 sg, Option.bind_some, t1, if_neg (show ¬ Int32.ofNat L ≤ (2980 : Int32) by rw [show (2980 : Int32) = Int32.ofNat 2980 from rfl, iLe (by omega) (by omega)]; omega)]
    · unfold fX12_feed
      rw [if_pos (o_138 sg), g_138_1 sg, Option.bind_some, t2, show (20 : Int32) = Int32.ofNat 20 from rfl, ← Int32.ofNat_add, if_neg (show ¬ Int32.ofNat (L + 20) ≤ (3000 : Int32) by rw [show (3000 : Int32) = Int32.ofNat 3000 from rfl, iLe (by omega) (by omega)]; omega)]
end FD
