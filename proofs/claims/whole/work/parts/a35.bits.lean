/-! ===== BITS ===== -/
def bt (x : Int32) (i : Nat) : Bool := x.toBitVec.getLsbD i
def mk1 (j : Nat) : Int32 := (1 : Int32) <<< (Int32.ofNat j)
theorem i_sh5 : ∀ i, i < 1000 → Int32.ofNat i >>> ((5 : Int32) &&& 31) = Int32.ofNat (i / 32) := by decide +kernel
theorem i_m31 : ∀ i, i < 1000 → (1 : Int32) <<< ((Int32.ofNat i &&& (31 : Int32)) &&& 31) = mk1 (i % 32) := by decide +kernel
theorem mk1_bt : ∀ j, j < 32 → ∀ i, i < 32 → bt (mk1 j) i = decide (i = j) := by decide +kernel
theorem mk1x_bt : ∀ j, j < 32 → ∀ i, i < 32 → bt (mk1 j ^^^ (-1 : Int32)) i = !decide (i = j) := by decide +kernel
theorem bt_or (x y : Int32) (i : Nat) : bt (x ||| y) i = (bt x i || bt y i) := by
  unfold bt
  rw [Int32.toBitVec_or, BitVec.getLsbD_or]
theorem bt_and (x y : Int32) (i : Nat) : bt (x &&& y) i = (bt x i && bt y i) := by
  unfold bt
  rw [Int32.toBitVec_and, BitVec.getLsbD_and]
theorem bt_test (x : Int32) {j : Nat} (hj : j < 32) : (x &&& mk1 j = 0) ↔ bt x j = false := by
  constructor
  · intro h
    have h1 := bt_and x (mk1 j) j
    rw [mk1_bt j hj j hj, decide_eq_true rfl, Bool.and_true, h] at h1
    rw [← h1]
    unfold bt
    exact BitVec.getLsbD_zero
  · intro h
    apply Int32.toBitVec_inj.mp
    apply BitVec.eq_of_getLsbD_eq
    intro i hi
    have h1 := bt_and x (mk1 j) i
    rw [mk1_bt j hj i hi] at h1
    have h2 : (x &&& mk1 j).toBitVec.getLsbD i = bt (x &&& mk1 j) i := rfl
    rw [h2, h1]
    have h3 : (0 : Int32).toBitVec.getLsbD i = false := BitVec.getLsbD_zero
    rw [h3]
    by_cases z : i = j
    · rw [z, h]; rfl
    · rw [decide_eq_false z, Bool.and_false]
