/-! ===== THE REFERENCE AS A READER: at token t, or gone wrong ===== -/
def wcode (K : Int32) : Int32 := if K = 0 then 0 else if K = 22 then 2 else if K = 23 then 3 else if K = 24 then 1 else if K < 22 ∧ 0 < K then 5 else 4
theorem sk_code {K : Int32} (h : isSK K) : wcode K = 4 := by
  unfold isSK isSgn at h
  rcases h with (h | h | h | h | h | h | h | h | h | h | h | h | h | h | h | h | h | h) | h | h | h | h | h <;> rw [h] <;> decide
theorem key_code {k : Nat} (h1 : 1 ≤ k) (h2 : k ≤ 21) : wcode (Int32.ofNat k) = 5 := by
  have : ∀ k, k < 22 → 1 ≤ k → wcode (Int32.ofNat k) = 5 := by decide
  exact this k (by omega) h1
theorem WordIs.code {h : pH} {K V : Int32} {id : Nat} (q : WordIs h K V id) : rd h 138 5 = wcode K := by
  rcases q with ⟨a, b⟩ | ⟨k, k1, k2, a, b, c⟩ | ⟨a, b, c⟩ | ⟨a, b, c⟩ | ⟨a, b⟩ | ⟨a, b, c⟩
  · rw [a, b]; decide
  · rw [a, b, key_code k1 k2]
  · rw [a, b]; decide
  · rw [a, b]; decide
  · rw [a, b]; decide
  · rw [b, sk_code a]
theorem WordIs.sign {h : pH} {K V : Int32} {id : Nat} (q : WordIs h K V id) (hc : wcode K = 4) : rd h 138 8 = sgV K ∧ isSK K := by
  rcases q with ⟨a, b⟩ | ⟨k, k1, k2, a, b, c⟩ | ⟨a, b, c⟩ | ⟨a, b, c⟩ | ⟨a, b⟩ | ⟨a, b, c⟩
  · rw [a] at hc; exact absurd hc (by decide)
  · rw [a, key_code k1 k2] at hc; exact absurd hc (by decide)
  · rw [a] at hc; exact absurd hc (by decide)
  · rw [a] at hc; exact absurd hc (by decide)
  · rw [a] at hc; exact absurd hc (by decide)
  · exact ⟨c, a⟩
theorem WordIs.key {h : pH} {K V : Int32} {id : Nat} (q : WordIs h K V id) (hc : wcode K = 5) : rd h 138 8 = K := by
  rcases q with ⟨a, b⟩ | ⟨k, k1, k2, a, b, c⟩ | ⟨a, b, c⟩ | ⟨a, b, c⟩ | ⟨a, b⟩ | ⟨a, b, c⟩
  · rw [a] at hc; exact absurd hc (by decide)
  · rw [c, a]
  · rw [a] at hc; exact absurd hc (by decide)
  · rw [a] at hc; exact absurd hc (by decide)
  · rw [a] at hc; exact absurd hc (by decide)
  · rw [sk_code a] at hc; exact absurd hc (by decide)
theorem WordIs.name {h : pH} {K V : Int32} {id : Nat} (q : WordIs h K V id) (hc : K = 22) : rd h 138 8 = Int32.ofNat id := by
  rcases q with ⟨a, b⟩ | ⟨k, k1, k2, a, b, c⟩ | ⟨a, b, c⟩ | ⟨a, b, c⟩ | ⟨a, b⟩ | ⟨a, b, c⟩
  · rw [hc] at a; exact absurd a (by decide)
  · rw [hc, show (22 : Int32) = Int32.ofNat 22 from rfl] at a
    have := (iEq (by decide) (by omega)).mp a
    omega
  · exact c
  · rw [hc] at a; exact absurd a (by decide)
  · rw [hc] at a; exact absurd a (by decide)
  · rw [hc] at a; have := sk_code a; exact absurd this (by decide)
theorem WordIs.num {h : pH} {K V : Int32} {id : Nat} (q : WordIs h K V id) (hc : K = 23) : rd h 138 8 = V := by
  rcases q with ⟨a, b⟩ | ⟨k, k1, k2, a, b, c⟩ | ⟨a, b, c⟩ | ⟨a, b, c⟩ | ⟨a, b⟩ | ⟨a, b, c⟩
  · rw [hc] at a; exact absurd a (by decide)
  · rw [hc, show (23 : Int32) = Int32.ofNat 23 from rfl] at a
    have := (iEq (by decide) (by omega)).mp a
    omega
  · rw [hc] at a; exact absurd a (by decide)
  · exact c
  · rw [hc] at a; exact absurd a (by decide)
  · rw [hc] at a; have := sk_code a; exact absurd this (by decide)
/-- how many names there are -/
def nmM (h : pH) : Nat := (rd h 138 11).toNatClampNeg
theorem nmM_of {h : pH} {M : Nat} (q : nmsOk h M) : nmM h = M := by unfold nmM; rw [q.2.1, i_cl (by have := q.2.2.1; omega)]
/-- no two names are one -/
def nmInj (h : pH) : Prop := ∀ i j, i < nmM h → j < nmM h → nmR h i = nmR h j → i = j
/-- names stay, and more come -/
def NmLe (h h' : pH) : Prop := nmM h ≤ nmM h' ∧ ∀ k, k < nmM h → nmR h' k = nmR h k
theorem NmLe.refl (h : pH) : NmLe h h := ⟨Nat.le_refl _, fun _ _ => rfl⟩
theorem NmLe.trans {h h1 h2 : pH} (a : NmLe h h1) (b : NmLe h1 h2) : NmLe h h2 := ⟨Nat.le_trans a.1 b.1, fun k hk => (b.2 k (Nat.lt_of_lt_of_le hk a.1)).trans (a.2 k hk)⟩
/-- the reference stands at token t, nothing is wrong -/
def RP (T : Txt) (t : Nat) (h : pH) : Prop := tOk h ∧ tx h = T.1 ∧ tl h = T.2 ∧ nmsOk h (nmM h) ∧ nmInj h ∧ (2 * nmM h ≤ tkE T t + 17 ∧ (wcode (tkK T t) = 4 → 2 * nmM h ≤ tkE T t + 16)) ∧ (∃ id, WordIs h (tkK T t) (tkV T t) id ∧ (tkK T t = 22 → id < nmM h ∧ nmR h id = tkW T t)) ∧ rd h 138 4 = Int32.ofNat (tkE T t) ∧ rd h 138 6 = Int32.ofNat (tkP T t) ∧ rd h 138 7 = Int32.ofNat (tkN T (tkP T t)) ∧ rd h 138 9 = -1
/-- it went wrong at the place w -/
def RE (w : Nat) (h : pH) : Prop := Sg h ∧ w ≤ 3000 ∧ rd h 138 9 = Int32.ofNat w ∧ rd h 138 5 = 0
/-- what next() may change -/
def NxB : Nat → Nat → Prop := fun a k => (a = 138 ∧ k ∈ [4, 5, 6, 7, 8, 11]) ∨ a = 141 ∨ a = 142
theorem NxB_of {M a k : Nat} (h : NxA M a k) : NxB a k := h.imp (fun z => z) (fun z => z.1)
theorem NxB_140 (i : Nat) : ¬ NxB 140 i := fun q => q.elim (fun z => absurd z.1 (by decide)) (fun z => z.elim (fun z => absurd z (by decide)) (fun z => absurd z (by decide)))
theorem NxB_ne {a k : Nat} (h1 : a ≠ 138 ∨ k ∉ [4, 5, 6, 7, 8, 11]) (h2 : a ≠ 141) (h3 : a ≠ 142) : ¬ NxB a k := fun q => q.elim (fun z => h1.elim (fun w => w z.1) (fun w => w z.2)) (fun z => z.elim h2 h3)
theorem Tk_code {s : Nat → Int32} {L P n : Nat} {K V : Int32} (h : Tk s L P n K V) (hc : wcode K ≠ 4) : K = 0 ∨ K = 24 ∨ alN (s P) := by
  rcases h with ⟨a0, a1, a2, a3⟩ | ⟨a0, a1, a2, a3, a4⟩ | ⟨a0, a1, a2, a3, a4⟩ | ⟨a0, a1, a2, a3, a4⟩
  · exact Or.inl a2
  · exact Or.inr (Or.inr (Or.inl a1))
  · exact Or.inr (Or.inr (Or.inr a2))
  · rcases a4 with ⟨c1, c2, c3⟩ | ⟨c1, c2, c3, c4⟩ | ⟨c1, c2, c3, c4⟩
    · exfalso
      refine hc (sk_code (Or.inr ?_))
      rw [c2]
      rw [c2] at hc
      unfold two2 at c1 ⊢
      revert c1
      repeat' split
      all_goals first | (intro _; simp; done) | (intro z; exact absurd rfl z)
    · exact absurd (sk_code (Or.inl (c3 ▸ c2))) hc
    · exact Or.inr (Or.inl c3)
/-- the next token -/
theorem e12_nextRP {N t : Nat} {T : Txt} {h : pH} (hr : RP T t h) (hN : 3200 ≤ N) (h0 : tkK T t ≠ 0) (h24 : tkK T t ≠ 24) : ∃ h', fX12_next N 138 h = some h' ∧ RP T (t + 1) h' ∧ Chg NxB h h' ∧ NmLe h h' := by
  obtain ⟨ht, hx, hl, hn, hi, ⟨hb1, hb2⟩, ⟨id0, hw, hwn⟩, e4, e6, e7, e9⟩ := hr
  have hE := (tkP_le T t).2
  have hL := ht.2.2
  obtain ⟨h', P, r1, r2, n, M', K, V, id, q1, q2, q3, q4, q5, q6, q7, q8, q9, q10, q11, q12⟩ := e12_next (N := N) (p := tkE T t) ht hn (by omega) hN (by omega) e4
  rw [hx, hl] at r2 q6
  rw [hl] at q5
  rw [hx] at q11
  have hP : P = tkP T (t + 1) := r2.uniq (tk_skip T t)
  subst hP
  obtain ⟨u1, u2, u3⟩ := q6.uniq (tk_is T (t + 1))
  subst u1 u2 u3
  have x' : tx h' = T.1 := (tx_chg q1 (NxA_140 _)).trans hx
  obtain ⟨t', l'⟩ := tOk_chg q1 (fun z => z.elim (fun z => absurd z.2 (by decide)) (fun z => z.1.elim (fun z => absurd z (by decide)) (fun z => absurd z (by decide)))) ht
  have m' := nmM_of q8
  have keep : ∀ k, k < nmM h → nmR h' k = nmR h k := fun k hk => nmR_chg q1 (NxA_140 _) (q10 k hk).1 (q10 k hk).2
  have le : nmM h ≤ M' := by rcases q9 with z | z <;> omega
  have hEt : tkE T (t + 1) = tkP T (t + 1) + tkN T (tkP T (t + 1)) := tkE_eq T (t + 1)
  have hPE := tkE_le_P T t
  -- the count of names
  have cnt : 2 * M' ≤ tkE T (t + 1) + 17 ∧ (wcode (tkK T (t + 1)) = 4 → 2 * M' ≤ tkE T (t + 1) + 16) := by
    by_cases hM : M' = nmM h
    · rw [hM]
      by_cases hs4 : wcode (tkK T t) = 4
      · have := hb2 hs4
        omega
      · refine ⟨by omega, fun z => ?_⟩
        have := tk_pos T (t := t + 1) (fun w => by rw [w] at z; exact absurd z (by decide))
        omega
    · have hM1 : M' = nmM h + 1 := q9.resolve_left hM
      have hK : tkK T (t + 1) = 22 := by
        by_cases z : tkK T (t + 1) = 22
        · exact z
        · exact absurd (q12 z) hM
      have hp := tk_pos T (t := t + 1) (by rw [hK]; decide)
      refine ⟨?_, fun z => by rw [hK] at z; exact absurd z (by decide)⟩
      by_cases hs4 : wcode (tkK T t) = 4
      · have := hb2 hs4
        omega
      · have hal : alN (T.1 (tkP T t)) := ((Tk_code (tk_is T t) hs4).resolve_left h0).resolve_left h24
        have hne : tkE T t ≠ tkP T (t + 1) := by
          intro e
          have a1 : alN (T.1 (tkP T (t + 1))) := by
            rcases tk_is T (t + 1) with ⟨a0, a1, a2, a3⟩ | ⟨a0, a1, a2, a3, a4⟩ | ⟨a0, a1, a2, a3, a4⟩ | ⟨a0, a1, a2, a3, a4⟩
            · omega
            · exact Or.inl a1
            · rcases a4 with ⟨c1, c2, c3⟩ | ⟨c1, c2, c3⟩ <;> rw [hK] at c2 <;> exact absurd c2 (by decide)
            · rcases a4 with ⟨c1, c2, c3⟩ | ⟨c1, c2, c3, c4⟩ | ⟨c1, c2, c3, c4⟩
              · exfalso
                rw [hK] at c2
                unfold two2 at c2
                revert c2
                repeat' split
                all_goals decide
              · rw [hK] at c3
                rw [← c3] at c2
                exact absurd c2 (by decide)
              · rw [hK] at c3; exact absurd c3 (by decide)
          rw [← e, tkE_eq] at a1
          rcases tk_is T t with ⟨a0, b1, a2, a3⟩ | ⟨a0, b1, a2, a3, a4⟩ | ⟨a0, b1, a2, a3, a4⟩ | ⟨a0, b1, a2, a3, a4⟩
          · exact h0 a2
          · rcases a2.2.2 with z | z
            · have := hp.1
              rw [← e, tkE_eq] at this
              omega
            · exact z a1
          · rcases a3.2.2 with z | z
            · have := hp.1
              rw [← e, tkE_eq] at this
              omega
            · -- a name right behind a number begins with a letter
              have a5 : isLt (T.1 (tkP T (t + 1))) := by
                rcases tk_is T (t + 1) with ⟨d0, d1, d2, d3⟩ | ⟨d0, d1, d2, d3, d4⟩ | ⟨d0, d1, d2, d3, d4⟩ | ⟨d0, d1, d2, d3, d4⟩
                · omega
                · exact d1
                · rcases d4 with ⟨c1, c2, c3⟩ | ⟨c1, c2, c3⟩ <;> rw [hK] at c2 <;> exact absurd c2 (by decide)
                · exfalso
                  rcases d4 with ⟨c1, c2, c3⟩ | ⟨c1, c2, c3, c4⟩ | ⟨c1, c2, c3, c4⟩
                  · rw [hK] at c2
                    unfold two2 at c2
                    revert c2
                    repeat' split
                    all_goals decide
                  · rw [hK] at c3
                    rw [← c3] at c2
                    exact absurd c2 (by decide)
                  · rw [hK] at c3; exact absurd c3 (by decide)
              sorry
          · exact hal.elim b1 a2
        omega
  sorry
