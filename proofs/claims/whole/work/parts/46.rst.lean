/-! ===== THE WORDS OF A TEXT, AND THE REFERENCE AS THEIR READER ===== -/
theorem two2_24 (c d : Int32) : two2 c d = 24 ∨ two2 c d = 128 ∨ two2 c d = 129 ∨ two2 c d = 130 ∨ two2 c d = 131 ∨ two2 c d = 132 := by
  unfold two2
  repeat' split
  all_goals simp
theorem Tk_zero {s : Nat → Int32} {L P n : Nat} {K V : Int32} (h : Tk s L P n K V) (hK : K = 0) : P = L := by
  rcases h with ⟨a0, a1, a2, a3⟩ | ⟨a0, a1, a2, a3, a4⟩ | ⟨a0, a1, a2, a3, a4⟩ | ⟨a0, a1, a2, a3, a4⟩
  · exact a0
  · exfalso
    rw [hK] at a3
    by_cases z : keyS (wl s P n) = 0
    · rw [if_pos z] at a3; exact absurd a3 (by decide)
    · rw [if_neg z, show (0 : Int32) = Int32.ofNat 0 from rfl] at a3
      have := (iEq (by decide) (by have := keyS_le (wl s P n); omega)).mp a3
      omega
  · rcases a4 with ⟨c1, c2, c3⟩ | ⟨c1, c2, c3⟩ <;> rw [hK] at c2 <;> exact absurd c2 (by decide)
  · rcases a4 with ⟨c1, c2, c3⟩ | ⟨c1, c2, c3, c4⟩ | ⟨c1, c2, c3, c4⟩
    · exfalso
      rw [hK] at c2
      rcases two2_24 (s P) (byt2 s L P) with z | z | z | z | z | z <;> rw [z] at c2 <;> exact absurd c2 (by decide)
    · rw [← c3, hK] at c2; exact absurd c2 (by decide)
    · rw [hK] at c3; exact absurd c3 (by decide)
theorem Tk_end {s : Nat → Int32} {L P n : Nat} {K V : Int32} (h : Tk s L P n K V) (hP : P = L) : K = 0 := by
  rcases h with ⟨a0, a1, a2, a3⟩ | ⟨a0, a1⟩ | ⟨a0, a1⟩ | ⟨a0, a1⟩
  · exact a2
  · omega
  · omega
  · omega
theorem tk_end (T : Txt) {t : Nat} (h : tkK T t = 0) : tkK T (t + 1) = 0 := by
  have h1 := Tk_zero (tk_is T t) h
  have h2 := tkP_le_E T t
  have h3 := (tkP_le T t).2
  have h4 := tkE_le_P T t
  have h5 := (tkP_le T (t + 1)).1
  exact Tk_end (tk_is T (t + 1)) (by omega)
theorem tk_ends (T : Txt) {t : Nat} (h : tkK T t = 0) : ∀ d, tkK T (t + d) = 0
  | 0 => h
  | d + 1 => tk_end T (tk_ends T h d)
theorem tk_mono (T : Txt) (t : Nat) (h : tkK T t ≠ 0) : tkP T t < tkP T (t + 1) := by
  have h1 := tk_pos T h
  have h4 := tkE_le_P T t
  omega
theorem tk_ge (T : Txt) : ∀ t, tkK T t ≠ 0 → t ≤ tkP T t
  | 0, _ => Nat.zero_le _
  | t + 1, h => by
    have h1 : tkK T t ≠ 0 := fun z => h (tk_end T z)
    have h2 := tk_ge T t h1
    have h3 := tk_mono T t h1
    omega
theorem tk_end0 (T : Txt) (t : Nat) (h : T.2 ≤ t) : tkK T t = 0 := by
  by_cases z : tkK T t = 0
  · exact z
  · have h1 := tk_ge T t z
    have h2 := tk_pos T z
    omega
theorem Tk_two {s : Nat → Int32} {L P n : Nat} {K V : Int32} (h : Tk s L P n K V) (hK : K = 131 ∨ K = 132) : n = 2 := by
  rcases h with ⟨a0, a1, a2, a3⟩ | ⟨a0, a1, a2, a3, a4⟩ | ⟨a0, a1, a2, a3, a4⟩ | ⟨a0, a1, a2, a3, a4⟩
  · exfalso
    rcases hK with z | z <;> rw [z] at a2 <;> exact absurd a2 (by decide)
  · exfalso
    by_cases y : keyS (wl s P n) = 0
    · rw [if_pos y] at a3
      rcases hK with z | z <;> rw [z] at a3 <;> exact absurd a3 (by decide)
    · rw [if_neg y] at a3
      have hle := keyS_le (wl s P n)
      rcases hK with z | z
      · rw [z, show (131 : Int32) = Int32.ofNat 131 from rfl] at a3
        have := (iEq (by decide) (by omega)).mp a3
        omega
      · rw [z, show (132 : Int32) = Int32.ofNat 132 from rfl] at a3
        have := (iEq (by decide) (by omega)).mp a3
        omega
  · exfalso
    rcases a4 with ⟨c1, c2, c3⟩ | ⟨c1, c2, c3⟩ <;> rcases hK with z | z <;> rw [z] at c2 <;> exact absurd c2 (by decide)
  · rcases a4 with ⟨c1, c2, c3⟩ | ⟨c1, c2, c3, c4⟩ | ⟨c1, c2, c3, c4⟩
    · exact c3
    · exfalso
      rw [← c3] at c2
      rcases hK with z | z <;> rw [z] at c2 <;> exact absurd c2 (by decide)
    · exfalso
      rcases hK with z | z <;> rw [z] at c3 <;> exact absurd c3 (by decide)
theorem tk_two (T : Txt) (t : Nat) (h : tkK T t = 131 ∨ tkK T t = 132) : tkP T t + 2 ≤ tkP T (t + 1) := by
  have h1 := Tk_two (tk_is T t) h
  have h2 := tkE_eq T t
  have h4 := tkE_le_P T t
  omega
/-- a number's bits -/
def i2n (x : Int32) : Nat := x.toBitVec.toNat
theorem n2i (x : Int32) : Int32.ofNat (i2n x) = x := by
  apply Int32.toBitVec_inj.mp
  unfold i2n
  rw [Int32.toBitVec_ofNat']
  apply BitVec.eq_of_toNat_eq
  rw [BitVec.toNat_ofNat]
  exact Nat.mod_eq_of_lt x.toBitVec.isLt
/-- the words of the text T -/
noncomputable def tkS (T : Txt) : Tks := ⟨(tkK T, fun t => i2n (tkV T t), tkP T, T.2), tk_end0 T, tk_mono T, tk_two T⟩
def wcode (K : Int32) : Int32 := if K = 0 then 0 else if K = 22 then 2 else if K = 23 then 3 else if K = 24 then 1 else if K < 22 ∧ 0 < K then 5 else 4
theorem sk_code {K : Int32} (h : isSK K) : wcode K = 4 := by
  unfold isSK isSgn at h
  rcases h with (h | h | h | h | h | h | h | h | h | h | h | h | h | h | h | h | h | h) | h | h | h | h | h <;> rw [h] <;> decide
theorem key_code {k : Nat} (h1 : 1 ≤ k) (h2 : k ≤ 21) : wcode (Int32.ofNat k) = 5 := by
  have : ∀ k, k < 22 → 1 ≤ k → wcode (Int32.ofNat k) = 5 := by decide
  exact this k (by omega) h1
theorem WordIs.code {h : pH} {K V : Int32} {id : Nat} (q : WordIs h K V id) : rd h 138 5 = wcode K := by
  rcases q with ⟨a, b⟩ | ⟨k, k1, k2, a, b, c⟩ | ⟨a, b, c⟩ | ⟨a, b, c⟩ | ⟨a, b⟩ | ⟨a, b, c⟩
  · rw [a, b]; decide
  · rw [a, b, key_code k1 k2]
  · rw [a, b]; decide
  · rw [a, b]; decide
  · rw [a, b]; decide
  · rw [b, sk_code a]
theorem WordIs.sign {h : pH} {K V : Int32} {id : Nat} (q : WordIs h K V id) (hc : wcode K = 4) : rd h 138 8 = sgV K ∧ isSK K := by
  rcases q with ⟨a, b⟩ | ⟨k, k1, k2, a, b, c⟩ | ⟨a, b, c⟩ | ⟨a, b, c⟩ | ⟨a, b⟩ | ⟨a, b, c⟩
  · rw [a] at hc; exact absurd hc (by decide)
  · rw [a, key_code k1 k2] at hc; exact absurd hc (by decide)
  · rw [a] at hc; exact absurd hc (by decide)
  · rw [a] at hc; exact absurd hc (by decide)
  · rw [a] at hc; exact absurd hc (by decide)
  · exact ⟨c, a⟩
theorem WordIs.key {h : pH} {K V : Int32} {id : Nat} (q : WordIs h K V id) (hc : wcode K = 5) : rd h 138 8 = K := by
  rcases q with ⟨a, b⟩ | ⟨k, k1, k2, a, b, c⟩ | ⟨a, b, c⟩ | ⟨a, b, c⟩ | ⟨a, b⟩ | ⟨a, b, c⟩
  · rw [a] at hc; exact absurd hc (by decide)
  · rw [c, a]
  · rw [a] at hc; exact absurd hc (by decide)
  · rw [a] at hc; exact absurd hc (by decide)
  · rw [a] at hc; exact absurd hc (by decide)
  · rw [sk_code a] at hc; exact absurd hc (by decide)
theorem WordIs.name {h : pH} {K V : Int32} {id : Nat} (q : WordIs h K V id) (hc : K = 22) : rd h 138 8 = Int32.ofNat id := by
  rcases q with ⟨a, b⟩ | ⟨k, k1, k2, a, b, c⟩ | ⟨a, b, c⟩ | ⟨a, b, c⟩ | ⟨a, b⟩ | ⟨a, b, c⟩
  · rw [hc] at a; exact absurd a (by decide)
  · rw [hc, show (22 : Int32) = Int32.ofNat 22 from rfl] at a
    have := (iEq (by decide) (by omega)).mp a
    omega
  · exact c
  · rw [hc] at a; exact absurd a (by decide)
  · rw [hc] at a; exact absurd a (by decide)
  · rw [hc] at a; have := sk_code a; exact absurd this (by decide)
theorem WordIs.num {h : pH} {K V : Int32} {id : Nat} (q : WordIs h K V id) (hc : K = 23) : rd h 138 8 = V := by
  rcases q with ⟨a, b⟩ | ⟨k, k1, k2, a, b, c⟩ | ⟨a, b, c⟩ | ⟨a, b, c⟩ | ⟨a, b⟩ | ⟨a, b, c⟩
  · rw [hc] at a; exact absurd a (by decide)
  · rw [hc, show (23 : Int32) = Int32.ofNat 23 from rfl] at a
    have := (iEq (by decide) (by omega)).mp a
    omega
  · rw [hc] at a; exact absurd a (by decide)
  · exact c
  · rw [hc] at a; exact absurd a (by decide)
  · rw [hc] at a; have := sk_code a; exact absurd this (by decide)
/-- how many names there are -/
def nmM (h : pH) : Nat := (rd h 138 11).toNatClampNeg
theorem nmM_of {h : pH} {M : Nat} (q : nmsOk h M) : nmM h = M := by unfold nmM; rw [q.2.1, i_cl (by have := q.2.2.1; omega)]
/-- no two names are one -/
def nmInj (h : pH) : Prop := ∀ i j, i < nmM h → j < nmM h → nmR h i = nmR h j → i = j
/-- names stay, and more come -/
def NmLe (h h' : pH) : Prop := nmM h ≤ nmM h' ∧ ∀ k, k < nmM h → nmR h' k = nmR h k
theorem NmLe.refl (h : pH) : NmLe h h := ⟨Nat.le_refl _, fun _ _ => rfl⟩
theorem NmLe.trans {h h1 h2 : pH} (a : NmLe h h1) (b : NmLe h1 h2) : NmLe h h2 := ⟨Nat.le_trans a.1 b.1, fun k hk => (b.2 k (Nat.lt_of_lt_of_le hk a.1)).trans (a.2 k hk)⟩
/-- the reference stands at token t, nothing is wrong -/
def RP (T : Txt) (t : Nat) (h : pH) : Prop := tOk h ∧ tx h = T.1 ∧ tl h = T.2 ∧ nmsOk h (nmM h) ∧ nmInj h ∧ (2 * nmM h ≤ tkE T t + 17 ∧ ((wcode (tkK T t) = 4 ∨ wcode (tkK T t) = 3) → 2 * nmM h ≤ tkE T t + 16)) ∧ (∃ id, WordIs h (tkK T t) (tkV T t) id ∧ (tkK T t = 22 → id < nmM h ∧ nmR h id = tkW T t)) ∧ rd h 138 4 = Int32.ofNat (tkE T t) ∧ rd h 138 6 = Int32.ofNat (tkP T t) ∧ rd h 138 7 = Int32.ofNat (tkN T (tkP T t)) ∧ rd h 138 9 = -1
/-- it went wrong at the place w -/
def RE (w : Nat) (h : pH) : Prop := Sg h ∧ w ≤ 3000 ∧ rd h 138 9 = Int32.ofNat w ∧ rd h 138 5 = 0
/-- what next() may change -/
def NxB : Nat → Nat → Prop := fun a k => (a = 138 ∧ k ∈ [4, 5, 6, 7, 8, 11]) ∨ a = 141 ∨ a = 142
theorem NxB_of {M a k : Nat} (h : NxA M a k) : NxB a k := h.imp (fun z => z) (fun z => z.1)
theorem NxB_ne {a k : Nat} (h1 : a ≠ 138 ∨ k ∉ [4, 5, 6, 7, 8, 11]) (h2 : a ≠ 141) (h3 : a ≠ 142) : ¬ NxB a k := fun q => q.elim (fun z => h1.elim (fun w => w z.1) (fun w => w z.2)) (fun z => z.elim h2 h3)
theorem Tk_letter {s : Nat → Int32} {L P n : Nat} {K V : Int32} (h : Tk s L P n K V) (hK : K = 22) : P < L ∧ isLt (s P) := by
  rcases h with ⟨a0, a1, a2, a3⟩ | ⟨a0, a1, a2, a3, a4⟩ | ⟨a0, a1, a2, a3, a4⟩ | ⟨a0, a1, a2, a3, a4⟩
  · rw [hK] at a2; exact absurd a2 (by decide)
  · exact ⟨a0, a1⟩
  · rcases a4 with ⟨c1, c2, c3⟩ | ⟨c1, c2, c3⟩ <;> rw [hK] at c2 <;> exact absurd c2 (by decide)
  · exfalso
    rcases a4 with ⟨c1, c2, c3⟩ | ⟨c1, c2, c3, c4⟩ | ⟨c1, c2, c3, c4⟩
    · rw [hK] at c2
      rcases two2_24 (s P) (byt2 s L P) with z | z | z | z | z | z <;> rw [z] at c2 <;> exact absurd c2 (by decide)
    · rw [← c3, hK] at c2; exact absurd c2 (by decide)
    · rw [hK] at c3; exact absurd c3 (by decide)
theorem Tk_run {s : Nat → Int32} {L P n : Nat} {K V : Int32} (h : Tk s L P n K V) (h0 : K ≠ 0) (h24 : K ≠ 24) (hc : ¬ (wcode K = 4 ∨ wcode K = 3)) : RunOf alN s L P n := by
  rcases h with ⟨a0, a1, a2, a3⟩ | ⟨a0, a1, a2, a3, a4⟩ | ⟨a0, a1, a2, a3, a4⟩ | ⟨a0, a1, a2, a3, a4⟩
  · exact absurd a2 h0
  · exact a2
  · exfalso
    rcases a4 with ⟨c1, c2, c3⟩ | ⟨c1, c2, c3⟩
    · exact hc (Or.inr (by rw [c2]; decide))
    · exact h24 c2
  · exfalso
    rcases a4 with ⟨c1, c2, c3⟩ | ⟨c1, c2, c3, c4⟩ | ⟨c1, c2, c3, c4⟩
    · refine hc (Or.inl ?_)
      rw [c2]
      rcases two2_24 (s P) (byt2 s L P) with z | z | z | z | z | z
      · exact absurd z c1
      all_goals rw [z]; decide
    · exact hc (Or.inl (sk_code (Or.inl (c3 ▸ c2))))
    · exact h24 c3
/-- the next token -/
theorem e12_nextRP {N t : Nat} {T : Txt} {h : pH} (hr : RP T t h) (hN : 3200 ≤ N) (h0 : tkK T t ≠ 0) (h24 : tkK T t ≠ 24) : ∃ h', fX12_next N 138 h = some h' ∧ RP T (t + 1) h' ∧ Chg NxB h h' ∧ NmLe h h' := by
  obtain ⟨ht, hx, hl, hn, hi, ⟨hb1, hb2⟩, ⟨id0, hw, hwn⟩, e4, e6, e7, e9⟩ := hr
  have hE := (tkP_le T t).2
  have hL := ht.2.2
  obtain ⟨h', P, r1, r2, n, M', K, V, id, q1, q2, q3, q4, q5, q6, q7, q8, q9, q10, q11, q12⟩ := e12_next (N := N) (p := tkE T t) ht hn (by omega) hN (by omega) e4
  rw [hx, hl] at r2 q6
  rw [hl] at q5
  rw [hx] at q11
  have hP : P = tkP T (t + 1) := r2.uniq (tk_skip T t)
  subst hP
  obtain ⟨u1, u2, u3⟩ := q6.uniq (tk_is T (t + 1))
  subst u1 u2 u3
  have x' : tx h' = T.1 := (tx_chg q1 (NxA_140 _)).trans hx
  obtain ⟨t', l'⟩ := tOk_chg q1 (fun z => z.elim (fun z => absurd z.2 (by decide)) (fun z => z.1.elim (fun z => absurd z (by decide)) (fun z => absurd z (by decide)))) ht
  have m' := nmM_of q8
  have keep : ∀ k, k < nmM h → nmR h' k = nmR h k := fun k hk => nmR_chg q1 (NxA_140 _) (q10 k hk).1 (q10 k hk).2
  have le : nmM h ≤ M' := by rcases q9 with z | z <;> omega
  have hEt : tkE T (t + 1) = tkP T (t + 1) + tkN T (tkP T (t + 1)) := tkE_eq T (t + 1)
  have hPE := tkE_le_P T t
  have hPE1 := tkP_le_E T (t + 1)
  have cnt : 2 * M' ≤ tkE T (t + 1) + 17 ∧ ((wcode (tkK T (t + 1)) = 4 ∨ wcode (tkK T (t + 1)) = 3) → 2 * M' ≤ tkE T (t + 1) + 16) := by
    by_cases hM : M' = nmM h
    · refine ⟨by omega, fun z => ?_⟩
      have := tk_pos T (t := t + 1) (fun w => by rw [w] at z; exact absurd z (by decide))
      omega
    · have hM1 : M' = nmM h + 1 := q9.resolve_left hM
      have hK : tkK T (t + 1) = 22 := by
        by_cases z : tkK T (t + 1) = 22
        · exact z
        · exact absurd (q12 z) hM
      have hp := tk_pos T (t := t + 1) (by rw [hK]; decide)
      refine ⟨?_, fun z => by rw [hK] at z; exact absurd z (by decide)⟩
      by_cases hs4 : wcode (tkK T t) = 4 ∨ wcode (tkK T t) = 3
      · have := hb2 hs4
        omega
      · have hrun := Tk_run (tk_is T t) h0 h24 hs4
        obtain ⟨b1, b2⟩ := Tk_letter (tk_is T (t + 1)) hK
        have hne : tkE T t ≠ tkP T (t + 1) := by
          intro e
          rw [← e, tkE_eq] at b1 b2
          rcases hrun.2.2 with z | z
          · omega
          · exact z (Or.inl b2)
        omega
  have hid : tkK T (t + 1) = 22 → id < M' ∧ nmR h' id = tkW T (t + 1) := fun z => ⟨(q11 z).1, (q11 z).2.1⟩
  have inj : nmInj h' := by
    intro i j i1 j1 e
    rw [m'] at i1 j1
    by_cases hM : M' = nmM h
    · rw [keep i (by omega), keep j (by omega)] at e
      exact hi i j (by omega) (by omega) e
    · have hM1 : M' = nmM h + 1 := q9.resolve_left hM
      have hK : tkK T (t + 1) = 22 := by
        by_cases z : tkK T (t + 1) = 22
        · exact z
        · exact absurd (q12 z) hM
      obtain ⟨c1, c2, c3⟩ := q11 hK
      obtain ⟨c4, c5⟩ := c3.resolve_left hM
      by_cases hi1 : i < nmM h
      · by_cases hj1 : j < nmM h
        · rw [keep i hi1, keep j hj1] at e
          exact hi i j hi1 hj1 e
        · have hj2 : j = id := by omega
          rw [keep i hi1, hj2, c2] at e
          exact absurd e (c5 i hi1)
      · have hi2 : i = id := by omega
        by_cases hj1 : j < nmM h
        · rw [keep j hj1, hi2, c2] at e
          exact absurd e.symm (c5 j hj1)
        · omega
  refine ⟨h', r1, ⟨t', x', l'.trans hl, by rw [m']; exact q8, inj, by rw [m']; exact cnt, ⟨id, q7, by rw [m']; exact hid⟩, by rw [q2, hEt], q3, q4, ?_⟩, q1.mono (fun a k z => NxB_of z), by rw [m']; exact le, keep⟩
  rw [q1.2.2.1 138 9 (fun z => NxB_ne (Or.inr (by decide)) (by decide) (by decide) (NxB_of z)), e9]
