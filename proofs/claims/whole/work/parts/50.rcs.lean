/-! ===== ONE LEVEL OF THE CALLS AMONG THEM ===== -/
theorem rcI_map {f : Option (Int32 × pH)} : ((f.map (fun q => ((some (.int q.1) : Option Value), q.2))).bind fun q => match q.1 with
  | some (.int v) => some (v, q.2)
  | _ => none) = f := by cases f <;> rfl
theorem gs_261 (N j : Nat) (h : pH) : gX12_sum N (j + 1) 261 [.ref 138] h = (fX12_sum N (gX12_sum N j) 138 h).map (fun q => (some (.int q.1), q.2)) := by
  rw [gX12_sum]
  dsimp only
  rw [if_pos rfl]
theorem rc_261 (N j : Nat) (h : pH) : rcI (gX12_sum N (j + 1)) 261 [.ref 138] h = fX12_sum N (gX12_sum N j) 138 h := by
  rw [rcI, gs_261]
  exact rcI_map
theorem gs_265 (N j : Nat) (h : pH) : gX12_sum N (j + 1) 265 [.ref 138] h = (fX12_first N (gX12_sum N j) 138 h).map (fun q => (some (.int q.1), q.2)) := by
  rw [gX12_sum]
  dsimp only
  rw [if_neg (by decide), if_pos rfl]
theorem rc_265 (N j : Nat) (h : pH) : rcI (gX12_sum N (j + 1)) 265 [.ref 138] h = fX12_first N (gX12_sum N j) 138 h := by
  rw [rcI, gs_265]
  exact rcI_map
theorem gs_264 (N j : Nat) (h : pH) : gX12_sum N (j + 1) 264 [.ref 138] h = (fX12_chain N (gX12_sum N j) 138 h).map (fun q => (some (.int q.1), q.2)) := by
  rw [gX12_sum]
  dsimp only
  rw [if_neg (by decide), if_neg (by decide), if_neg (by decide), if_pos rfl]
theorem rc_264 (N j : Nat) (h : pH) : rcI (gX12_sum N (j + 1)) 264 [.ref 138] h = fX12_chain N (gX12_sum N j) 138 h := by
  rw [rcI, gs_264]
  exact rcI_map
theorem gs_263 (N j : Nat) (h : pH) : gX12_sum N (j + 1) 263 [.ref 138] h = (fX12_single N (gX12_sum N j) 138 h).map (fun q => (some (.int q.1), q.2)) := by
  rw [gX12_sum]
  dsimp only
  rw [if_neg (by decide), if_neg (by decide), if_neg (by decide), if_neg (by decide), if_pos rfl]
theorem rc_263 (N j : Nat) (h : pH) : rcI (gX12_sum N (j + 1)) 263 [.ref 138] h = fX12_single N (gX12_sum N j) 138 h := by
  rw [rcI, gs_263]
  exact rcI_map
theorem gs_262 (N j : Nat) (h : pH) : gX12_sum N (j + 1) 262 [.ref 138] h = (fX12_product N (gX12_sum N j) 138 h).map (fun q => (some (.int q.1), q.2)) := by
  rw [gX12_sum]
  dsimp only
  rw [if_neg (by decide), if_neg (by decide), if_neg (by decide), if_neg (by decide), if_neg (by decide), if_pos rfl]
theorem rc_262 (N j : Nat) (h : pH) : rcI (gX12_sum N (j + 1)) 262 [.ref 138] h = fX12_product N (gX12_sum N j) 138 h := by
  rw [rcI, gs_262]
  exact rcI_map
theorem gs_260 (N j : Nat) (h : pH) : gX12_sum N (j + 1) 260 [.ref 138] h = (fX12_related N (gX12_sum N j) 138 h).map (fun q => (some (.int q.1), q.2)) := by
  rw [gX12_sum]
  dsimp only
  rw [if_neg (by decide), if_neg (by decide), if_neg (by decide), if_neg (by decide), if_neg (by decide), if_neg (by decide), if_neg (by decide), if_pos rfl]
theorem rc_260 (N j : Nat) (h : pH) : rcI (gX12_sum N (j + 1)) 260 [.ref 138] h = fX12_related N (gX12_sum N j) 138 h := by
  rw [rcI, gs_260]
  exact rcI_map
theorem gs_259 (N j : Nat) (h : pH) : gX12_sum N (j + 1) 259 [.ref 138] h = (fX12_equal N (gX12_sum N j) 138 h).map (fun q => (some (.int q.1), q.2)) := by
  rw [gX12_sum]
  dsimp only
  rw [if_neg (by decide), if_neg (by decide), if_neg (by decide), if_neg (by decide), if_neg (by decide), if_neg (by decide), if_neg (by decide), if_neg (by decide), if_pos rfl]
theorem rc_259 (N j : Nat) (h : pH) : rcI (gX12_sum N (j + 1)) 259 [.ref 138] h = fX12_equal N (gX12_sum N j) 138 h := by
  rw [rcI, gs_259]
  exact rcI_map
theorem gs_258 (N j : Nat) (h : pH) : gX12_sum N (j + 1) 258 [.ref 138] h = (fX12_both N (gX12_sum N j) 138 h).map (fun q => (some (.int q.1), q.2)) := by
  rw [gX12_sum]
  dsimp only
  rw [if_neg (by decide), if_neg (by decide), if_neg (by decide), if_neg (by decide), if_neg (by decide), if_neg (by decide), if_neg (by decide), if_neg (by decide), if_neg (by decide), if_pos rfl]
theorem rc_258 (N j : Nat) (h : pH) : rcI (gX12_sum N (j + 1)) 258 [.ref 138] h = fX12_both N (gX12_sum N j) 138 h := by
  rw [rcI, gs_258]
  exact rcI_map
theorem gs_257 (N j : Nat) (h : pH) : gX12_sum N (j + 1) 257 [.ref 138] h = (fX12_expression N (gX12_sum N j) 138 h).map (fun q => (some (.int q.1), q.2)) := by
  rw [gX12_sum]
  dsimp only
  rw [if_neg (by decide), if_neg (by decide), if_neg (by decide), if_neg (by decide), if_neg (by decide), if_neg (by decide), if_neg (by decide), if_neg (by decide), if_neg (by decide), if_neg (by decide), if_pos rfl]
theorem rc_257 (N j : Nat) (h : pH) : rcI (gX12_sum N (j + 1)) 257 [.ref 138] h = fX12_expression N (gX12_sum N j) 138 h := by
  rw [rcI, gs_257]
  exact rcI_map
theorem gs_268 (N j : Nat) (x : Int32) (h : pH) : gX12_sum N (j + 1) 268 [.ref 138, .int x] h = (fX12_signed N (gX12_sum N j) 138 x h).map (fun q => (some (.int q.1), q.2)) := by
  rw [gX12_sum]
  dsimp only
  rw [if_neg (by decide), if_neg (by decide), if_neg (by decide), if_neg (by decide), if_neg (by decide), if_neg (by decide), if_pos rfl]
theorem rc_268 (N j : Nat) (x : Int32) (h : pH) : rcI (gX12_sum N (j + 1)) 268 [.ref 138, .int x] h = fX12_signed N (gX12_sum N j) 138 x h := by
  rw [rcI, gs_268]
  exact rcI_map
theorem gs_267 (N j : Nat) (k x y : Int32) (h : pH) : gX12_sum N (j + 1) 267 [.ref 138, .int k, .int x, .int y] h = (fX12_called N (gX12_sum N j) 138 k x y h).map (fun q => (some (.int q.1), q.2)) := by
  rw [gX12_sum]
  dsimp only
  rw [if_neg (by decide), if_neg (by decide), if_pos rfl]
theorem rc_267 (N j : Nat) (k x y : Int32) (h : pH) : rcI (gX12_sum N (j + 1)) 267 [.ref 138, .int k, .int x, .int y] h = fX12_called N (gX12_sum N j) 138 k x y h := by
  rw [rcI, gs_267]
  exact rcI_map
