/-! ===== SCRIPTS OF AT MOST SIX INTS ===== -/
def h0R : pH := h0A.drop 2
def fs0 : List Value := match h0B with
  | .inl (_, fs) :: _ => fs.drop 2
  | _ => []
def B0 : pH := h0B.drop 2
theorem h0_G : h0 = hG (Int32.ofNat 0) 1000 0 (fun _ => 0) (h0R ++ h0B) := rfl
set_option maxRecDepth 100000 in
theorem hG_app (t hs rd : Int32) (f : Nat → Int32) : hG t hs rd f (h0R ++ h0B) = hQ (hG t hs rd f h0R) (Int32.ofNat 0) (fun _ => 0) fs0 B0 := rfl
theorem hG_len (t hs rd : Int32) (f : Nat → Int32) : (hG t hs rd f h0R).length = 132 := by
  show h0R.length + 1 + 1 = 132
  decide +kernel
theorem fs0_len : fs0.length = 107 := by decide +kernel
theorem ldS_ok {X : pX} (h6 : X.1 = 6) {i : Int32} (hi : ¬ (i < 0 ∨ 6 ≤ i.toNatClampNeg)) : ldS X i = some (X.2 i.toNatClampNeg) := by
  unfold ldS
  rw [h6, if_neg hi]
theorem pN_eq : pN = 99998 + 1 + 1 := by decide
theorem law_n (X : pX) (N : Nat) {n m : Nat} (h : n = m) : fL_law_18 X N n = fL_law_18 X N m := by rw [h]
theorem n199 : 199 ≤ 105980 := by decide
theorem nSlots : 1707826 ≤ 8784308 := by decide
theorem six_end {X : pX} (h6 : X.1 = 6) (n nc ns : Nat) (h : pH) : fL_law_348 X pN (fL_law_18 X pN (n + 1)) 6 138 0 nc ns h = some (1, h, nc, ns) := by
  unfold fL_law_348
  rw [fL_law_18, h6, if_pos (by decide)]
theorem o0 : isO h0 6 11 = true := by decide +kernel
theorem o1 : isO h0 138 12 = true := by decide +kernel
theorem o2 : isO h0 128 5 = true := by decide +kernel
theorem g0 : getR h0 6 11 7 = some 128 := by decide +kernel
theorem g1 : getI h0 128 5 13 = some (-1) := by decide +kernel
theorem g2 : getI h0 128 5 19 = some 0 := by decide +kernel
theorem g3 : getI h0 138 12 69 = some 0 := by decide +kernel
theorem g4 : getI h0 6 11 8 = some 0 := by decide +kernel
theorem g5 : getI h0 138 12 1 = some 0 := by decide +kernel
theorem g6 : getI h0 6 11 10 = some 0 := by decide +kernel
theorem g7 : getI h0 138 12 56 = some 0 := by decide +kernel
theorem g8 : getI h0 128 5 14 = some 0 := by decide +kernel
theorem i64_0 : (0 : Int64) = (0 : Int32).toInt64 := by decide
theorem i64_10 : (10 : Int64) = (10 : Int32).toInt64 := by decide
theorem i64_10000 : (10000 : Int64) = (10000 : Int32).toInt64 := by decide
theorem i64_5 : (5 : Int64) = (5 : Int32).toInt64 := by decide
theorem c_end (n : Int32) : ∃ r a b, fX11_end pN 6 n h0 = some (r, a) ∧ fX12_end pN 138 n a = some (r, b) := by
  have hA := hG_len
  by_cases h1 : n < 0
  · refine ⟨-1, h0, h0, ?_, ?_⟩
    · unfold fX11_end
      rw [if_pos o0, if_pos h1]
    · unfold fX12_end
      rw [if_pos o1, g5, Option.bind_some, i64_0, isIn_eq, Option.bind_some, if_pos (Or.inl h1), if_pos rfl]
  · by_cases h2 : n ≤ 0
    · refine ⟨n, hG n 1000 0 (fun _ => 0) (h0R ++ h0B), hQ (hG n 1000 0 (fun _ => 0) h0R) n (fun _ => 0) fs0 B0, ?_, ?_⟩
      · unfold fX11_end
        rw [if_pos o0, if_neg h1, g4, Option.bind_some, if_pos h2, h0_G]
        rfl
      · unfold fX12_end
        rw [hG_app, if_pos (hQ_o (hA _ _ _ _) _ _ _ _), hQ_t (hA _ _ _ _), Option.bind_some, i64_0, show Int32.ofNat 0 = 0 from rfl, isIn_eq, Option.bind_some, if_neg (show ¬ (n < 0 ∨ 0 < n) from fun q => q.elim h1 (fun q => by
          rw [Int32.lt_iff_toInt_lt] at q
          rw [Int32.le_iff_toInt_le] at h2
          omega))]
        dsimp only
        rw [if_neg (by decide)]
        rw [hQ_p (hA _ _ _ _), Option.bind_some]
    · refine ⟨-1, h0, h0, ?_, ?_⟩
      · unfold fX11_end
        rw [if_pos o0, if_neg h1, g4, Option.bind_some, if_neg h2]
      · unfold fX12_end
        rw [if_pos o1, g5, Option.bind_some, i64_0, isIn_eq, Option.bind_some, if_pos (Or.inr (by
          rw [Int32.lt_iff_toInt_lt]
          rw [Int32.le_iff_toInt_le] at h2
          omega)), if_pos rfl]
theorem hQ_put {A : pH} (hA : A.length = 132) (t : Int32) (g : Nat → Int32) (fs : List Value) (B : pH) (k : Nat) (hk : k < fs.length + 2) (x : Int32) : ∃ h', putI (hQ A t g fs B) 138 12 k x = some h' := by
  unfold putI putV
  rw [hQ_0 hA]
  refine ⟨pPut (hQ A t g fs B) 138 (.inl (12, (Value.ref 139 :: Value.int t :: fs).set k (.int x))), ?_⟩
  show (if 12 = 12 ∧ k < (Value.ref 139 :: Value.int t :: fs).length then some (pPut (hQ A t g fs B) 138 (.inl (12, (Value.ref 139 :: Value.int t :: fs).set k (.int x)))) else none) = _
  rw [if_pos ⟨rfl, by simp; omega⟩]
theorem c_heap (n : Int32) : ∃ r a b, fX11_heap pN 6 n h0 = some (r, a) ∧ fX12_heap pN 138 n a = some (r, b) := by
  have hA := hG_len
  by_cases h1 : n < 10
  · refine ⟨-1, h0, h0, ?_, ?_⟩
    · unfold fX11_heap
      rw [if_pos o0, if_pos h1]
    · unfold fX12_heap
      rw [if_pos o1, i64_10, i64_10000, isIn_eq, Option.bind_some, if_pos (Or.inl h1), if_pos rfl]
  · by_cases h2 : n ≤ 10000
    · obtain ⟨h', e'⟩ := hQ_put (hA (Int32.ofNat 0) n 0 (fun _ => 0)) (Int32.ofNat 0) (fun _ => 0) fs0 B0 71 (by rw [fs0_len]; decide) n
      refine ⟨1, hG (Int32.ofNat 0) n 0 (fun _ => 0) (h0R ++ h0B), h', ?_, ?_⟩
      · unfold fX11_heap
        rw [if_pos o0, if_neg h1, if_pos h2, h0_G]
        rfl
      · unfold fX12_heap
        rw [hG_app, if_pos (hQ_o (hA _ _ _ _) _ _ _ _), i64_10, i64_10000, isIn_eq, Option.bind_some, if_neg (show ¬ (n < 10 ∨ 10000 < n) from fun q => q.elim h1 (fun q => by
          rw [Int32.lt_iff_toInt_lt] at q
          rw [Int32.le_iff_toInt_le] at h2
          omega))]
        dsimp only
        rw [if_neg (by decide)]
        rw [e', Option.bind_some]
    · refine ⟨-1, h0, h0, ?_, ?_⟩
      · unfold fX11_heap
        rw [if_pos o0, if_neg h1, if_neg h2]
      · unfold fX12_heap
        rw [if_pos o1, i64_10, i64_10000, isIn_eq, Option.bind_some, if_pos (Or.inr (by
          rw [Int32.lt_iff_toInt_lt]
          rw [Int32.le_iff_toInt_le] at h2
          omega)), if_pos rfl]
theorem c_step (n : Int32) : fX11_step pN 6 n h0 = some (-1, h0, 0, 0) ∧ fX12_step pN 138 n h0 = some (-1, h0) := by
  constructor
  · unfold fX11_step
    rw [if_pos o0]
    by_cases h1 : n < 0
    · rw [if_pos h1]
    · rw [if_neg h1]
      by_cases h2 : n ≤ 20000
      · rw [if_pos h2, g0, Option.bind_some]
        have : fX5_run pN 128 n h0 = some (-1, h0, 0, 0) := by
          unfold fX5_run
          rw [if_pos o2]
          rw [show fX5_run_2 pN pN = fX5_run_2 pN (99998 + 1 + 1) from by rw [show ∀ a b : Nat, a = b → fX5_run_2 pN a = fX5_run_2 pN b from fun a b h => by rw [h]]; exact pN_eq]
          rw [fX5_run_2, g1]
          by_cases h3 : n ≤ 0
          · rw [if_pos h3]; rfl
          · rw [if_neg h3]; rfl
        rw [this]
        rfl
      · rw [if_neg h2]
  · unfold fX12_step
    rw [if_pos o1, g3, Option.bind_some, if_pos rfl]
theorem c_out (n : Int32) : fX11_output pN 6 n h0 = some (0, h0) ∧ fX12_output pN 138 n h0 = some (0, h0) := by
  constructor
  · unfold fX11_output
    rw [if_pos o0, g0, Option.bind_some]
    have : fX5_printedAt pN 128 n h0 = some (0, h0) := by
      unfold fX5_printedAt
      rw [if_pos o2]
      by_cases h1 : n < 0
      · rw [if_pos h1]
      · rw [if_neg h1, g2, Option.bind_some, if_pos (by
          rw [Int32.lt_iff_toInt_lt] at h1
          rw [Int32.le_iff_toInt_le]
          omega)]
    rw [this]
    rfl
  · unfold fX12_output
    rw [if_pos o1, g3, Option.bind_some, if_pos rfl]
theorem c_res : fX11_result pN 6 h0 = some (0, h0) ∧ fX12_result pN 138 h0 = some (0, h0) := by
  constructor
  · unfold fX11_result
    rw [if_pos o0, g0, Option.bind_some, g8, Option.bind_some]
  · unfold fX12_result
    rw [if_pos o1, g3, Option.bind_some, if_pos rfl]
theorem c_start : fX11_start pN 6 h0 = some (0, h0, 0, 0) ∧ fX12_start pN 138 h0 = some (0, h0) := by
  constructor
  · unfold fX11_start
    rw [if_pos o0, g6, Option.bind_some, if_pos rfl]
  · unfold fX12_start
    rw [if_pos o1, g7, Option.bind_some, if_pos rfl]
def cnt0 (k : Int32) : Option (Int32 × Int32) := (fX11_count pN 6 k h0).bind fun q => (fX12_count pN 138 k q.2).map fun r => (q.1, r.1)
theorem cnt0_eq : cnt0 0 = some (0, 0) ∧ cnt0 1 = some (0, 0) ∧ cnt0 2 = some (0, 0) ∧ cnt0 3 = some (0, 0) ∧ cnt0 4 = some (0, 0) ∧ cnt0 5 = some (0, 0) ∧ cnt0 6 = some (0, 0) ∧ cnt0 7 = some (0, 0) := by decide +kernel
theorem c_count (n : Int32) : ∃ r a b, fX11_count pN 6 n h0 = some (r, a) ∧ fX12_count pN 138 n a = some (r, b) := by
  obtain ⟨e0, e1, e2, e3, e4, e5, e6, e7⟩ := cnt0_eq
  have go : ∀ k : Int32, cnt0 k = some (0, 0) → ∃ r a b, fX11_count pN 6 k h0 = some (r, a) ∧ fX12_count pN 138 k a = some (r, b) := fun k h => by
    obtain ⟨a, b, h1, h2⟩ := two_some h
    exact ⟨0, a, b, h1, h2⟩
  by_cases n0 : n = 0
  · subst n0; exact go _ e0
  by_cases n1 : n = 1
  · subst n1; exact go _ e1
  by_cases n2 : n = 2
  · subst n2; exact go _ e2
  by_cases n3 : n = 3
  · subst n3; exact go _ e3
  by_cases n4 : n = 4
  · subst n4; exact go _ e4
  by_cases n5 : n = 5
  · subst n5; exact go _ e5
  by_cases n6 : n = 6
  · subst n6; exact go _ e6
  by_cases n7 : n = 7
  · subst n7; exact go _ e7
  refine ⟨-1, h0, h0, ?_, ?_⟩
  · unfold fX11_count
    rw [if_pos o0, if_neg n0, if_neg n1, if_neg n2, if_neg n3, if_neg n4, if_neg n5, if_neg n6, if_neg n7]
  · unfold fX12_count
    have hn : n < 0 ∨ 5 < n := by
      rw [Int32.lt_iff_toInt_lt, Int32.lt_iff_toInt_lt]
      have z0 : n.toInt ≠ 0 := fun q => n0 (Int32.toInt_inj.mp q)
      have z1 : n.toInt ≠ 1 := fun q => n1 (Int32.toInt_inj.mp q)
      have z2 : n.toInt ≠ 2 := fun q => n2 (Int32.toInt_inj.mp q)
      have z3 : n.toInt ≠ 3 := fun q => n3 (Int32.toInt_inj.mp q)
      have z4 : n.toInt ≠ 4 := fun q => n4 (Int32.toInt_inj.mp q)
      have z5 : n.toInt ≠ 5 := fun q => n5 (Int32.toInt_inj.mp q)
      show n.toInt < 0 ∨ (5 : Int) < n.toInt
      omega
    rw [if_pos o1, if_neg n6, if_neg n7, i64_0, i64_5, isIn_eq, Option.bind_some, if_pos hn, if_pos rfl]
def six (q : Int32 × pH × Nat × Nat) : Prop := q.1 = 1 ∧ q.2.2.1 ≤ 105980 ∧ q.2.2.2 ≤ 8784308
theorem s_gen {X : pX} (h6 : X.1 = 6) {f : Option (Int32 × pH)} {g : pH → Option (Int32 × pH)} {r : Int32} {a b : pH} (e1 : f = some (r, a)) (e2 : g a = some (r, b)) : ∃ q, (f.bind fun q1 => (g q1.2).bind fun q2 => if q1.1 = q2.1 then fL_law_348 X pN (fL_law_18 X pN (99998 + 1)) 6 138 0 199 1707826 q2.2 else some (0, q2.2, 199, 1707826)) = some q ∧ six q := by
  subst e1
  rw [Option.bind_some]
  dsimp only
  rw [e2, Option.bind_some, if_pos rfl]
  exact ⟨_, six_end h6 99998 199 1707826 b, rfl, n199, nSlots⟩
theorem s_gen2 {X : pX} (h6 : X.1 = 6) {f : Option (Int32 × pH × Nat × Nat)} {g : pH → Option (Int32 × pH)} {r : Int32} {a b : pH} (e1 : f = some (r, a, 0, 0)) (e2 : g a = some (r, b)) : ∃ q, (f.bind fun q1 => (g q1.2.1).bind fun q2 => if q1.1 = q2.1 then fL_law_348 X pN (fL_law_18 X pN (99998 + 1)) 6 138 0 (199 + q1.2.2.1) (1707826 + q1.2.2.2) q2.2 else some (0, q2.2, (199 + q1.2.2.1), (1707826 + q1.2.2.2))) = some q ∧ six q := by
  subst e1
  rw [Option.bind_some]
  dsimp only
  rw [e2, Option.bind_some, if_pos rfl]
  exact ⟨_, six_end h6 99998 199 1707826 b, rfl, n199, nSlots⟩
theorem s_feed (x1 x2 x3 x4 x5 : Int32) : ∃ r a b, fX11_feed pN 6 x1 x2 x3 x4 x5 h0 = some (r, a) ∧ fX12_feed pN 138 x1 x2 x3 x4 x5 a = some (r, b) := by
  obtain ⟨g, e1⟩ := feed_ok (N := pN) (T := 0) (a := x1) (b := x2) (c := x3) (d := x4) (e := x5) (hs := 1000) (rd := 0) (f := fun _ => 0) (R := h0R ++ h0B) (by decide) (by decide)
  obtain ⟨g', e2⟩ := feedR_ok (hG_len (Int32.ofNat (0 + 20)) 1000 0 g) (N := pN) (T := 0) (a := x1) (b := x2) (c := x3) (d := x4) (e := x5) (g := fun _ => 0) (fs := fs0) (B := B0) (by decide) (by decide)
  exact ⟨_, _, _, by rw [h0_G]; exact e1, by rw [hG_app]; exact e2⟩
theorem s_prog : ∃ r a b, fX11_program pN 6 h0 = some (r, a) ∧ fX12_program pN 138 a = some (r, b) := by
  obtain ⟨a, b, e1, e2⟩ := two_some (f := fX11_program pN 6 h0) (g := fun h => fX12_program pN 138 h) prg0_eq
  exact ⟨_, a, b, e1, e2⟩
theorem s_input (x1 x2 x3 : Int32) : ∃ r a b, fX11_input pN 6 x1 x2 x3 h0 = some (r, a) ∧ fX12_input pN 138 x1 x2 x3 a = some (r, b) := by
  have := congrFun (congrFun (congrFun input0 x1) x2) x3
  obtain ⟨a, b, e1, e2⟩ := two_some (f := fX11_input pN 6 x1 x2 x3 h0) (g := fun h => fX12_input pN 138 x1 x2 x3 h) this
  exact ⟨_, a, b, e1, e2⟩
theorem six_body {X : pX} (h6 : X.1 = 6) : ∃ q, fL_law_18 X pN (99998 + 1 + 1) 6 138 0 199 1707826 h0 = some q ∧ six q := by
  rw [fL_law_18, if_neg (by rw [h6]; decide)]
  have a0 : ldS X 0 = some (X.2 (0 : Int32).toNatClampNeg) := ldS_ok h6 (by decide)
  have a1 : ldS X (0 + 1) = some (X.2 ((0 : Int32) + 1).toNatClampNeg) := ldS_ok h6 (by decide)
  have a2 : ldS X (0 + 2) = some (X.2 ((0 : Int32) + 2).toNatClampNeg) := ldS_ok h6 (by decide)
  have a3 : ldS X (0 + 3) = some (X.2 ((0 : Int32) + 3).toNatClampNeg) := ldS_ok h6 (by decide)
  have a4 : ldS X (0 + 4) = some (X.2 ((0 : Int32) + 4).toNatClampNeg) := ldS_ok h6 (by decide)
  have a5 : ldS X (0 + 5) = some (X.2 ((0 : Int32) + 5).toNatClampNeg) := ldS_ok h6 (by decide)
  rw [a0, a1, a2, a3, a4, a5]
  generalize X.2 (0 : Int32).toNatClampNeg = x0
  generalize X.2 ((0 : Int32) + 1).toNatClampNeg = x1
  generalize X.2 ((0 : Int32) + 2).toNatClampNeg = x2
  generalize X.2 ((0 : Int32) + 3).toNatClampNeg = x3
  generalize X.2 ((0 : Int32) + 4).toNatClampNeg = x4
  generalize X.2 ((0 : Int32) + 5).toNatClampNeg = x5
  simp only [Option.bind_some]
  generalize x0 &&& (15 : Int32) = w
  by_cases w0 : w = 0
  · rw [if_pos w0]
    obtain ⟨r, a, b, e1, e2⟩ := s_feed x1 x2 x3 x4 x5
    exact s_gen h6 (g := fun h => fX12_feed pN 138 x1 x2 x3 x4 x5 h) e1 e2
  rw [if_neg w0]
  by_cases w1 : w = 1
  · rw [if_pos w1]
    obtain ⟨r, a, b, e1, e2⟩ := c_end x1
    exact s_gen h6 (g := fun h => fX12_end pN 138 x1 h) e1 e2
  rw [if_neg w1]
  by_cases w2 : w = 2
  · rw [if_pos w2]
    obtain ⟨r, a, b, e1, e2⟩ := s_prog
    exact s_gen h6 (g := fun h => fX12_program pN 138 h) e1 e2
  rw [if_neg w2]
  by_cases w3 : w = 3
  · rw [if_pos w3]
    obtain ⟨r, a, b, e1, e2⟩ := c_heap x1
    exact s_gen h6 (g := fun h => fX12_heap pN 138 x1 h) e1 e2
  rw [if_neg w3]
  by_cases w4 : w = 4
  · rw [if_pos w4]
    obtain ⟨r, a, b, e1, e2⟩ := s_input x1 x2 x3
    exact s_gen h6 (g := fun h => fX12_input pN 138 x1 x2 x3 h) e1 e2
  rw [if_neg w4]
  by_cases w5 : w = 5
  · rw [if_pos w5]
    exact s_gen2 h6 (g := fun h => fX12_start pN 138 h) c_start.1 c_start.2
  rw [if_neg w5]
  by_cases w6 : w = 6
  · rw [if_pos w6]
    exact s_gen2 h6 (g := fun h => fX12_step pN 138 x1 h) (c_step x1).1 (c_step x1).2
  rw [if_neg w6]
  by_cases w7 : w = 7
  · rw [if_pos w7]
    exact s_gen h6 (g := fun h => fX12_result pN 138 h) c_res.1 c_res.2
  rw [if_neg w7]
  by_cases w8 : w = 8
  · rw [if_pos w8]
    exact s_gen h6 (g := fun h => fX12_output pN 138 x1 h) (c_out x1).1 (c_out x1).2
  rw [if_neg w8]
  by_cases w9 : w = 9
  · rw [if_pos w9]
    obtain ⟨r, a, b, e1, e2⟩ := c_count x1
    exact s_gen h6 (g := fun h => fX12_count pN 138 x1 h) e1 e2
  rw [if_neg w9]
  exact ⟨_, six_end h6 99998 199 1707826 h0, rfl, n199, nSlots⟩
theorem pure6 (X : pX) (hX : X.1 ≤ 6) : ∃ N q, fL_law X N [] = some q ∧ q.1 = 1 ∧ q.2.2.1 ≤ 105980 ∧ q.2.2.2 ≤ 8784308 := by
  refine ⟨pN, ?_⟩
  rw [law_eq, law_n X pN pN_eq]
  by_cases h6 : X.1 = 6
  · exact six_body h6
  · rw [fL_law_18, if_pos (by
      have : X.1 = 0 ∨ X.1 = 1 ∨ X.1 = 2 ∨ X.1 = 3 ∨ X.1 = 4 ∨ X.1 = 5 := by omega
      rcases this with h | h | h | h | h | h <;> rw [h] <;> decide)]
    exact ⟨_, rfl, rfl, n199, nSlots⟩
