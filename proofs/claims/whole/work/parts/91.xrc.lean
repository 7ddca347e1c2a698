/-! ===== THE READER OF EXPRESSIONS: its calls, its answers ===== -/
theorem rcV_map {f : Option pH} : ((f.map (fun q => ((none : Option Value), q))).bind fun q => match q.1 with
  | none => some q.2
  | _ => none) = f := by cases f <;> rfl
theorem k_92 (N j : Nat) (x : Int32) (h : pH) : rcV (gX7_readSign N (j + 1)) 92 [.ref 46, .int x] h = fX7_readSign N (gX7_readSign N j) 46 x h := by
  rw [rcV, gX7_readSign]
  dsimp only
  rw [if_pos rfl]
  exact rcV_map
theorem k_84 (N j : Nat) (h : pH) : rcV (gX7_readSign N (j + 1)) 84 [.ref 46] h = fX7_readNew N (gX7_readSign N j) 46 h := by
  rw [rcV, gX7_readSign]
  dsimp only
  rw [if_neg (by decide), if_pos rfl]
  exact rcV_map
theorem k_82 (N j : Nat) (h : pH) : rcV (gX7_readSign N (j + 1)) 82 [.ref 46] h = fX7_readNamed N (gX7_readSign N j) 46 h := by
  rw [rcV, gX7_readSign]
  dsimp only
  rw [if_neg (by decide), if_neg (by decide), if_pos rfl]
  exact rcV_map
theorem k_75 (N j : Nat) (h : pH) : rcV (gX7_readSign N (j + 1)) 75 [.ref 46] h = fX7_readBracketed N (gX7_readSign N j) 46 h := by
  rw [rcV, gX7_readSign]
  dsimp only
  rw [if_neg (by decide), if_neg (by decide), if_neg (by decide), if_pos rfl]
  exact rcV_map
theorem k_79 (N j : Nat) (h : pH) : rcV (gX7_readSign N (j + 1)) 79 [.ref 46] h = fX7_readFirst N (gX7_readSign N j) 46 h := by
  rw [rcV, gX7_readSign]
  dsimp only
  rw [if_neg (by decide), if_neg (by decide), if_neg (by decide), if_neg (by decide), if_pos rfl]
  exact rcV_map
theorem k_85 (N j : Nat) (h : pH) : rcV (gX7_readSign N (j + 1)) 85 [.ref 46] h = fX7_readIndex N (gX7_readSign N j) 46 h := by
  rw [rcV, gX7_readSign]
  dsimp only
  rw [if_neg (by decide), if_neg (by decide), if_neg (by decide), if_neg (by decide), if_neg (by decide), if_pos rfl]
  exact rcV_map
theorem k_83 (N j : Nat) (h : pH) : rcI (gX7_readSign N (j + 1)) 83 [.ref 46] h = fX7_readArguments N (gX7_readSign N j) 46 h := by
  rw [rcI, gX7_readSign]
  dsimp only
  rw [if_neg (by decide), if_neg (by decide), if_neg (by decide), if_neg (by decide), if_neg (by decide), if_neg (by decide), if_pos rfl]
  exact rcI_map
theorem k_87 (N j : Nat) (h : pH) : rcV (gX7_readSign N (j + 1)) 87 [.ref 46] h = fX7_readBehind N (gX7_readSign N j) 46 h := by
  rw [rcV, gX7_readSign]
  dsimp only
  rw [if_neg (by decide), if_neg (by decide), if_neg (by decide), if_neg (by decide), if_neg (by decide), if_neg (by decide), if_neg (by decide), if_pos rfl]
  exact rcV_map
theorem k_77 (N j : Nat) (h : pH) : rcV (gX7_readSign N (j + 1)) 77 [.ref 46] h = fX7_readOne N (gX7_readSign N j) 46 h := by
  rw [rcV, gX7_readSign]
  dsimp only
  rw [if_neg (by decide), if_neg (by decide), if_neg (by decide), if_neg (by decide), if_neg (by decide), if_neg (by decide), if_neg (by decide), if_neg (by decide), if_pos rfl]
  exact rcV_map
theorem k_76 (N j : Nat) (h : pH) : rcV (gX7_readSign N (j + 1)) 76 [.ref 46] h = fX7_readExpression N (gX7_readSign N j) 46 h := by
  rw [rcV, gX7_readSign]
  dsimp only
  rw [if_neg (by decide), if_neg (by decide), if_neg (by decide), if_neg (by decide), if_neg (by decide), if_neg (by decide), if_neg (by decide), if_neg (by decide), if_neg (by decide), if_pos rfl]
  exact rcV_map
theorem e7_levelOf (N : Nat) (k : Int32) (h : pH) : fX7_levelOf N k h = some (Int32.ofNat (lvl k), h) := by
  by_cases h21 : k = 21
  · subst h21; rfl
  by_cases h37 : k = 37
  · subst h37; rfl
  by_cases h42 : k = 42
  · subst h42; rfl
  by_cases h43 : k = 43
  · subst h43; rfl
  by_cases h45 : k = 45
  · subst h45; rfl
  by_cases h47 : k = 47
  · subst h47; rfl
  by_cases h60 : k = 60
  · subst h60; rfl
  by_cases h128 : k = 128
  · subst h128; rfl
  by_cases h129 : k = 129
  · subst h129; rfl
  by_cases h130 : k = 130
  · subst h130; rfl
  by_cases h131 : k = 131
  · subst h131; rfl
  by_cases h132 : k = 132
  · subst h132; rfl
  unfold fX7_levelOf lvl
  simp only [h21, h37, h42, h43, h45, h47, h60, h128, h129, h130, h131, h132, if_false, or_self, if_neg, not_false_iff]
  rfl
theorem e7_opOf (N : Nat) (k : Int32) (h : pH) : fX7_opOf N k h = some (Int32.ofNat (opc k), h) := by
  by_cases h42 : k = 42
  · subst h42; rfl
  by_cases h43 : k = 43
  · subst h43; rfl
  by_cases h45 : k = 45
  · subst h45; rfl
  by_cases h47 : k = 47
  · subst h47; rfl
  by_cases h60 : k = 60
  · subst h60; rfl
  by_cases h128 : k = 128
  · subst h128; rfl
  by_cases h129 : k = 129
  · subst h129; rfl
  by_cases h130 : k = 130
  · subst h130; rfl
  by_cases h131 : k = 131
  · subst h131; rfl
  by_cases h132 : k = 132
  · subst h132; rfl
  unfold fX7_opOf opc
  simp only [h42, h43, h45, h47, h60, h128, h129, h130, h131, h132, if_false, or_self, if_neg, not_false_iff]
  rfl
theorem e7_least (N l : Nat) (hl : l ≤ 6) (h : pH) : fX7_leastReleased N (Int32.ofNat l) h = some (Int32.ofNat (Tks.least l), h) := by
  have : ∀ l, l ≤ 6 → fX7_leastReleased N (Int32.ofNat l) h = some (Int32.ofNat (Tks.least l), h) := by
    intro l hl
    rcases l with _ | _ | _ | _ | _ | _ | _ | l
    · rfl
    · rfl
    · rfl
    · rfl
    · rfl
    · rfl
    · rfl
    · omega
  exact this l hl
theorem e7_isBehind (N : Nat) (k : Int32) (h : pH) : fX7_isBehindFirst N k h = some (if k = 46 ∨ k = 91 ∨ k = 20 then 1 else 0, h) := by
  unfold fX7_isBehindFirst
  by_cases h1 : k = 46
  · rw [if_pos h1, if_pos (Or.inl h1)]
  · by_cases h2 : k = 91
    · rw [if_neg h1, if_pos h2, if_pos (Or.inr (Or.inl h2))]
    · by_cases h3 : k = 20
      · rw [if_neg h1, if_neg h2, if_pos h3, if_pos (Or.inr (Or.inr h3))]
      · rw [if_neg h1, if_neg h2, if_neg h3, if_neg (fun z => z.elim h1 (fun z => z.elim h2 h3))]
theorem least_le (l : Nat) (h : l ≤ 6) : Tks.least l ≤ 7 := by
  unfold Tks.least
  split
  · omega
  · omega
theorem guard46 {h : pH} (hs : Sg h) : (if isO h 46 7 = true then some () else none) = some () := if_pos (o_46 hs)
/-- what a reading of a tree comes to -/
def PX (C : Cx) (q : Pr Tr) (r W c : Nat) (p o : Int32) (h : pH) (res : Option pH) : Prop := (∀ x t', q = ok x t' → ∃ h', res = some h' ∧ At7 C r t' W (c + cl x) p o h' ∧ CE (QC C p o h') x c ∧ Chg (xA W c) h h') ∧ (∀ w, q = no w → ∃ h', res = some h' ∧ Er7 C w W h' ∧ Chg (eA W) h h')
theorem PX.mk_ok {C : Cx} {r W c t' : Nat} {p o : Int32} {h h' : pH} {x : Tr} {res : Option pH} (e : res = some h') (a : At7 C r t' W (c + cl x) p o h') (b : CE (QC C p o h') x c) (g : Chg (xA W c) h h') : PX C (ok x t') r W c p o h res := ⟨fun y u z => by
  obtain ⟨rfl, rfl⟩ := ok_inj z
  exact ⟨h', e, a, b, g⟩, fun w z => by cases z⟩
theorem PX.mk_no {C : Cx} {r W c w : Nat} {p o : Int32} {h h' : pH} {res : Option pH} (e : res = some h') (a : Er7 C w W h') (g : Chg (eA W) h h') : PX C (no w) r W c p o h res := ⟨fun y u z => (by cases z), fun w' z => by
  obtain rfl := Sum.inr.inj z
  exact ⟨h', e, a, g⟩⟩
/-- a method that reads a tree, with at least J calls left -/
def RX (C : Cx) (N J mn : Nat) (sub : Nat → Pr Tr) (r wb : Nat) : Prop := ∀ j, J ≤ j → ∀ t W c p o h, At7 C r t W c p o h → W ≤ wb → PX C (sub t) r W c p o h (rcV (gX7_readSign N j) mn [.ref 46] h)
/-- it does nothing more where all has gone wrong -/
def EX (C : Cx) (N J mn : Nat) : Prop := ∀ j, J ≤ j → ∀ w W h, Er7 C w W h → ∃ h', rcV (gX7_readSign N j) mn [.ref 46] h = some h' ∧ Er7 C w W h' ∧ Chg (eA W) h h'
theorem At7.f7 {r t W c : Nat} {p o : Int32} {C : Cx} {h : pH} (q : At7 C r t W c p o h) : rd h 46 7 = Int32.ofNat W := q.2.2.2.2.2.1
theorem Er7.f7 {w W : Nat} {C : Cx} {h : pH} (q : Er7 C w W h) : rd h 46 7 = Int32.ofNat W := q.2.2.2.2.2.2.1
theorem Er7.first {C : Cx} {N : Nat} : EX C N 1 79 := by
  intro j hj w W h q
  obtain ⟨i, rfl⟩ : ∃ i, j = i + 1 := ⟨j - 1, by omega⟩
  refine ⟨h, ?_, q, Chg.refl _ _⟩
  rw [k_79]
  unfold fX7_readFirst
  rw [if_pos (o_46 q.sg), g_46_9 q.sg, Option.bind_some, q.kind]
  unfold fX7_readFirst_214
  rw [q.fail, Option.bind_some]
  rfl
theorem one_102 {C : Cx} {N w W B : Nat} {h : pH} {rc : Nat → List Value → pH → Option (Option Value × pH)} (hN : 400 < N) (hB : B ≤ W) (q : Er7 C w W h) : ∃ h' W', fX7_readOne_102 N rc 46 (Int32.ofNat B) h = some h' ∧ B ≤ W' ∧ W' ≤ W ∧ Er7 C w W' h' ∧ Chg (eA B) h h' := by
  have q1 := q.nest (x := rd h 46 10 - (rd h 46 7 - Int32.ofNat B))
  obtain ⟨h', W', e, b1, b2, b3, q2, c2⟩ := Er7.release (N := N) (ls := 7) hN (by omega) hB q1
  refine ⟨h', W', ?_, b1, b2, q2, (Chg.wr h _ _ _ (Or.inl ⟨rfl, by omega⟩)).trans c2⟩
  unfold fX7_readOne_102
  rw [g_46_10 q.sg, Option.bind_some, g_46_7 q.sg, Option.bind_some, p_46_10 q.sg, Option.bind_some]
  show (fX7_release N 46 (Int32.ofNat B) (Int32.ofNat 7) _).bind _ = _
  rw [e, Option.bind_some]
theorem one_75 {C : Cx} {N n w W B : Nat} {v : Int32} {h : pH} {rc : Nat → List Value → pH → Option (Option Value × pH)} (hN : 400 < N) (hB : B ≤ W) (q : Er7 C w W h) : ∃ h' W', fX7_readOne_75 N rc (n + 1) 46 (Int32.ofNat B) v h = some h' ∧ B ≤ W' ∧ W' ≤ W ∧ Er7 C w W' h' ∧ Chg (eA B) h h' := by
  obtain ⟨h', W', e, z⟩ := one_102 (rc := rc) hN hB q
  refine ⟨h', W', ?_, z⟩
  rw [fX7_readOne_75]
  split
  · exact e
  · rw [g_46_9 q.sg, Option.bind_some, q.kind, e7_isBehind, Option.bind_some]
    dsimp only
    rw [if_pos (show (if (24 : Int32) = 46 ∨ (24 : Int32) = 91 ∨ (24 : Int32) = 20 then (1 : Int32) else 0) = 0 by decide)]
    exact e
theorem one_69 {C : Cx} {N j w W B : Nat} {h : pH} (hN : 400 < N) (hB : B ≤ W) (q : Er7 C w W h) : ∃ h' W', fX7_readOne_69 N (gX7_readSign N (j + 1)) 46 (Int32.ofNat B) h = some h' ∧ B ≤ W' ∧ W' ≤ W ∧ Er7 C w W' h' ∧ Chg (eA B) h h' := by
  obtain ⟨h1, e1, q1, c1⟩ := Er7.first (N := N) (j + 1) (by omega) w W h q
  obtain ⟨n, rfl⟩ : ∃ n, N = n + 1 := ⟨N - 1, by omega⟩
  obtain ⟨h', W', e, b1, b2, b3, b4⟩ := one_75 (n := n) (v := 0) (rc := gX7_readSign (n + 1) (j + 1)) hN hB q1
  refine ⟨h', W', ?_, b1, b2, b3, (c1.mono (fun a k z => eA_le hB z)).trans b4⟩
  unfold fX7_readOne_69
  rw [guard46 q.sg, Option.bind_some, e1, Option.bind_some]
  exact e
theorem one_7 {C : Cx} {N n j w W B : Nat} {v : Int32} {h : pH} (hN : 400 < N) (hB : B ≤ W) (q : Er7 C w W h) : ∃ h' W', fX7_readOne_7 N (gX7_readSign N (j + 1)) (n + 1) 46 (Int32.ofNat B) v h = some h' ∧ B ≤ W' ∧ W' ≤ W ∧ Er7 C w W' h' ∧ Chg (eA B) h h' := by
  obtain ⟨h', W', e, z⟩ := one_69 (j := j) hN hB q
  refine ⟨h', W', ?_, z⟩
  rw [fX7_readOne_7]
  split
  · exact e
  · rw [g_46_9 q.sg, Option.bind_some, q.kind, if_neg (by decide), Option.bind_some, if_neg (by decide)]
    exact e
theorem Er7.one {C : Cx} {N : Nat} (hN : 400 < N) : EX C N 2 77 := by
  intro j hj w W h q
  obtain ⟨i, rfl⟩ : ∃ i, j = i + 2 := ⟨j - 2, by omega⟩
  obtain ⟨n, rfl⟩ : ∃ n, N = n + 1 := ⟨N - 1, by omega⟩
  obtain ⟨h', W', e, b1, b2, b3, b4⟩ := one_7 (n := n) (j := i) (v := 0) hN (Nat.le_refl W) q
  obtain rfl : W' = W := by omega
  refine ⟨h', ?_, b3, b4⟩
  rw [k_77]
  unfold fX7_readOne
  rw [if_pos (o_46 q.sg), g_46_7 q.sg, Option.bind_some, q.f7]
  exact e
theorem fits_0 {N : Nat} {v : Int32} {h : pH} (hs : Sg h) : fX7_fits N 46 v 0 h = some (0, h) := by
  unfold fX7_fits
  rw [if_pos (o_46 hs), if_pos rfl]
  rfl
theorem expr_72 {C : Cx} {N w W B : Nat} {h : pH} {rc : Nat → List Value → pH → Option (Option Value × pH)} (hN : 400 < N) (hB : B ≤ W) (q : Er7 C w W h) : ∃ h', fX7_readExpression_72 N rc 46 (Int32.ofNat B) h = some h' ∧ Er7 C w B h' ∧ Chg (eA B) h h' := by
  obtain ⟨h', W', e, b1, b2, b3, q2, c2⟩ := Er7.release (N := N) (ls := 0) hN (by omega) hB q
  obtain rfl := b3 rfl
  refine ⟨h', ?_, q2, c2⟩
  unfold fX7_readExpression_72
  show (fX7_release N 46 (Int32.ofNat W') (Int32.ofNat 0) _).bind _ = _
  rw [e, Option.bind_some]
/-- behind a wrong place: all that waits is done, no further sign fits -/
theorem expr_err {C : Cx} {N n w W B : Nat} {v : Int32} {h : pH} {rc : Nat → List Value → pH → Option (Option Value × pH)} (hN : 400 < N) (hB : B ≤ W) (q : Er7 C w W h) : ∃ h', ((getI h 46 7 9).bind fun t7 => (fX7_levelOf N t7 h).bind fun q8 => (fX7_leastReleased N q8.1 q8.2).bind fun q9 => (fX7_release N 46 (Int32.ofNat B) q9.1 q9.2).bind fun h10 => fX7_readExpression_28 N rc (n + 1) 46 (Int32.ofNat B) q8.1 v h10) = some h' ∧ Er7 C w B h' ∧ Chg (eA B) h h' := by
  obtain ⟨h1, W', e, b1, b2, b3, q2, c2⟩ := Er7.release (N := N) (ls := 0) hN (by omega) hB q
  obtain rfl := b3 rfl
  obtain ⟨h2, e2, q3, c3⟩ := expr_72 (rc := rc) hN (Nat.le_refl _) q2
  refine ⟨h2, ?_, q3, c2.trans c3⟩
  rw [g_46_9 q.sg, Option.bind_some, q.kind, e7_levelOf, Option.bind_some]
  dsimp only
  rw [show Int32.ofNat (lvl 24) = Int32.ofNat 0 from rfl, e7_least N 0 (by omega), Option.bind_some]
  dsimp only
  rw [show Int32.ofNat (Tks.least 0) = Int32.ofNat 0 from rfl, e, Option.bind_some, fX7_readExpression_28]
  split
  · exact e2
  · rw [show Int32.ofNat 0 = (0 : Int32) from rfl, fits_0 q2.sg, Option.bind_some]
    dsimp only
    rw [if_pos rfl]
    exact e2
theorem Er7.expr {C : Cx} {N : Nat} (hN : 400 < N) : EX C N 3 76 := by
  intro j hj w W h q
  obtain ⟨i, rfl⟩ : ∃ i, j = i + 1 := ⟨j - 1, by omega⟩
  obtain ⟨n, hn⟩ : ∃ n, N = n + 1 := ⟨N - 1, by omega⟩
  obtain ⟨h1, e1, q1, c1⟩ := Er7.one hN i (by omega) w W h q
  obtain ⟨h2, e2, q2, c2⟩ := expr_err (rc := gX7_readSign N i) (n := n) (v := 0) hN (Nat.le_refl W) q1
  refine ⟨h2, ?_, q2, c1.trans c2⟩
  rw [k_76]
  unfold fX7_readExpression
  rw [if_pos (o_46 q.sg), g_46_7 q.sg, Option.bind_some, guard46 q.sg, Option.bind_some, e1, Option.bind_some, q.f7]
  rw [← hn] at e2
  exact e2
