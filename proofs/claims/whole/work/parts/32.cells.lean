/-! ===== THE CELLS: what each object holds, row by row ===== -/
def mF (r : Nat) : List (Option Nat) := [some 18, some 26, some 39, some 127, some 130, some (r + 1), none, some 134, some 135, some 136, some 137, none, none, none, none, none, none, none, some 138, none]
def hF2 (b : Bool) : List (Option Nat) := if b then [some 131, some 132, none, none] else [some 132, some 131, none, none]
/-- the shape that the heap keeps: all cells of the constructors; the pile may have moved, the two rows of cells may have changed places -/
def Sg (h : pH) : Prop := (∀ a, 6 ≤ a → a < 205 → a ≠ 128 → a ≠ 129 → sh h a = sh h0 a) ∧ (∃ r n, sh h 128 = some (20, 20, mF r) ∧ sh h r = some (6, n, []) ∧ (r = 132 ∨ 205 ≤ r) ∧ 2000 ≤ n ∧ n ≤ 400000) ∧ (∃ b, sh h 129 = some (12, 4, hF2 b))
theorem Sg.of {h h' : pH} (hs : Sg h) (he : ∀ b, sh h' b = sh h b) : Sg h' := by
  obtain ⟨h1, ⟨r, n, h2, h3, h4⟩, b, h5⟩ := hs
  exact ⟨fun a q1 q2 q3 q4 => (he a).trans (h1 a q1 q2 q3 q4), ⟨r, n, (he _).trans h2, (he _).trans h3, h4⟩, b, (he _).trans h5⟩
theorem Sg.wr {h : pH} (hs : Sg h) (a k : Nat) (x : Int32) : Sg (wr h a k x) := hs.of (sh_wr h a k x)
theorem Sg.wrJ {h : pH} (hs : Sg h) (a k : Nat) (x : Int64) : Sg (wrJ h a k x) := hs.of (sh_wrJ h a k x)
theorem Sg_wr (h : pH) (a k : Nat) (x : Int32) : Sg (wr h a k x) = Sg h := propext ⟨fun q => q.of (fun b => (sh_wr h a k x b).symm), fun q => q.wr a k x⟩
theorem Sg_wrJ (h : pH) (a k : Nat) (x : Int64) : Sg (wrJ h a k x) = Sg h := propext ⟨fun q => q.of (fun b => (sh_wrJ h a k x b).symm), fun q => q.wrJ a k x⟩
theorem Sg_h0 : Sg h0 := ⟨fun _ _ _ _ _ => rfl, ⟨132, 2000, by decide +kernel, by decide +kernel, Or.inl rfl, by decide, by decide⟩, true, by decide +kernel⟩
def pileR (h : pH) : Nat := match sh h 128 with
  | some (_, _, l) => (match l[5]? with
      | some (some r) => r - 1
      | _ => 0)
  | none => 0
def pileN (h : pH) : Nat := match sh h (pileR h) with
  | some (_, n, _) => n
  | none => 0
theorem Sg.pile {h : pH} (hs : Sg h) : sh h 128 = some (20, 20, mF (pileR h)) ∧ sh h (pileR h) = some (6, pileN h, []) ∧ (pileR h = 132 ∨ 205 ≤ pileR h) ∧ 2000 ≤ pileN h ∧ pileN h ≤ 400000 := by
  obtain ⟨h1, ⟨r, n, h2, h3, h4, h5⟩, b, h6⟩ := hs
  have e1 : pileR h = r := by unfold pileR; rw [h2]; rfl
  have e2 : pileN h = n := by unfold pileN; rw [e1, h3]
  rw [e1, e2]
  exact ⟨h2, h3, h4, h5⟩
theorem pileR_wr (h : pH) (a k : Nat) (x : Int32) : pileR (wr h a k x) = pileR h := by unfold pileR; rw [sh_wr]
theorem pileR_wrJ (h : pH) (a k : Nat) (x : Int64) : pileR (wrJ h a k x) = pileR h := by unfold pileR; rw [sh_wrJ]
theorem pileN_wr (h : pH) (a k : Nat) (x : Int32) : pileN (wr h a k x) = pileN h := by unfold pileN; rw [sh_wr, pileR_wr]
theorem pileN_wrJ (h : pH) (a k : Nat) (x : Int64) : pileN (wrJ h a k x) = pileN h := by unfold pileN; rw [sh_wrJ, pileR_wrJ]
def S6 : List (Option Nat) := [some 8, some 9, some 18, some 47, some 51, some 52, some 127, some 129, none, none, none]
theorem sh0_6 : sh h0 6 = some (4 * 11, 11, S6) := by decide +kernel
theorem sh_6 {h : pH} (hs : Sg h) : sh h 6 = some (4 * 11, 11, S6) := (hs.1 6 (by decide) (by decide) (by decide) (by decide)).trans sh0_6
theorem o_6 {h : pH} (hs : Sg h) : isO h 6 11 = true := isO_sh (by decide) (sh_6 hs)
theorem R_6_0 {h : pH} (hs : Sg h) : getR h 6 11 0 = some 7 := getR_sh (sh_6 hs) rfl
theorem R_6_1 {h : pH} (hs : Sg h) : getR h 6 11 1 = some 8 := getR_sh (sh_6 hs) rfl
theorem R_6_2 {h : pH} (hs : Sg h) : getR h 6 11 2 = some 17 := getR_sh (sh_6 hs) rfl
theorem R_6_3 {h : pH} (hs : Sg h) : getR h 6 11 3 = some 46 := getR_sh (sh_6 hs) rfl
theorem R_6_4 {h : pH} (hs : Sg h) : getR h 6 11 4 = some 50 := getR_sh (sh_6 hs) rfl
theorem R_6_5 {h : pH} (hs : Sg h) : getR h 6 11 5 = some 51 := getR_sh (sh_6 hs) rfl
theorem R_6_6 {h : pH} (hs : Sg h) : getR h 6 11 6 = some 126 := getR_sh (sh_6 hs) rfl
theorem R_6_7 {h : pH} (hs : Sg h) : getR h 6 11 7 = some 128 := getR_sh (sh_6 hs) rfl
theorem g_6_8 {h : pH} (hs : Sg h) : getI h 6 11 8 = some (rd h 6 8) := getI_sh (sh_6 hs) rfl
theorem p_6_8 {h : pH} (hs : Sg h) (x : Int32) : putI h 6 11 8 x = some (wr h 6 8 x) := putI_sh x (sh_6 hs) rfl
theorem z_6_8 {h : pH} (hs : Sg h) {x : Int32} (hx : x = 0 ∨ x = 1) : putZ h 6 11 8 x = some (wr h 6 8 x) := putZ_sh hx (sh_6 hs) rfl
theorem w_6_8 {h : pH} (hs : Sg h) (x : Int32) : rd (wr h 6 8 x) 6 8 = x := rd_wr_eq x (by rw [sh_6 hs]; rfl)
theorem g_6_9 {h : pH} (hs : Sg h) : getI h 6 11 9 = some (rd h 6 9) := getI_sh (sh_6 hs) rfl
theorem p_6_9 {h : pH} (hs : Sg h) (x : Int32) : putI h 6 11 9 x = some (wr h 6 9 x) := putI_sh x (sh_6 hs) rfl
theorem z_6_9 {h : pH} (hs : Sg h) {x : Int32} (hx : x = 0 ∨ x = 1) : putZ h 6 11 9 x = some (wr h 6 9 x) := putZ_sh hx (sh_6 hs) rfl
theorem w_6_9 {h : pH} (hs : Sg h) (x : Int32) : rd (wr h 6 9 x) 6 9 = x := rd_wr_eq x (by rw [sh_6 hs]; rfl)
theorem g_6_10 {h : pH} (hs : Sg h) : getI h 6 11 10 = some (rd h 6 10) := getI_sh (sh_6 hs) rfl
theorem p_6_10 {h : pH} (hs : Sg h) (x : Int32) : putI h 6 11 10 x = some (wr h 6 10 x) := putI_sh x (sh_6 hs) rfl
theorem z_6_10 {h : pH} (hs : Sg h) {x : Int32} (hx : x = 0 ∨ x = 1) : putZ h 6 11 10 x = some (wr h 6 10 x) := putZ_sh hx (sh_6 hs) rfl
theorem w_6_10 {h : pH} (hs : Sg h) (x : Int32) : rd (wr h 6 10 x) 6 10 = x := rd_wr_eq x (by rw [sh_6 hs]; rfl)
theorem sh_7 {h : pH} (hs : Sg h) : sh h 7 = some (1, 3000, []) := (hs.1 7 (by decide) (by decide) (by decide) (by decide)).trans (by decide +kernel)
theorem n_7 {h : pH} (hs : Sg h) : lenA h 7 = some (Int32.ofNat 3000) := lenA_sh (sh_7 hs) (by decide) (by decide)
theorem L_7 {h : pH} (hs : Sg h) {i : Nat} (hi : i < 3000) : ldI h 7 (Int32.ofNat i) = some (rd h 7 i) := ldI_sh (sh_7 hs) hi (by decide)
theorem T_7 {h : pH} (hs : Sg h) {i : Nat} (hi : i < 3000) (x : Int32) : stI h 7 (Int32.ofNat i) x = some (wr h 7 i x) := stI_sh x (sh_7 hs) hi (by decide)
theorem W_7 {h : pH} (hs : Sg h) (i : Nat) (x : Int32) : rd (wr h 7 i x) 7 i = x := rd_wr_eq x (by rw [sh_7 hs]; rfl)
def S8 : List (Option Nat) := [some 10, some 11, some 12, none, some 13, none, some 14, some 15, some 16, some 17, none]
theorem sh0_8 : sh h0 8 = some (4 * 10, 11, S8) := by decide +kernel
theorem sh_8 {h : pH} (hs : Sg h) : sh h 8 = some (4 * 10, 11, S8) := (hs.1 8 (by decide) (by decide) (by decide) (by decide)).trans sh0_8
theorem o_8 {h : pH} (hs : Sg h) : isO h 8 10 = true := isO_sh (by decide) (sh_8 hs)
theorem R_8_0 {h : pH} (hs : Sg h) : getR h 8 10 0 = some 9 := getR_sh (sh_8 hs) rfl
theorem R_8_1 {h : pH} (hs : Sg h) : getR h 8 10 1 = some 10 := getR_sh (sh_8 hs) rfl
theorem R_8_2 {h : pH} (hs : Sg h) : getR h 8 10 2 = some 11 := getR_sh (sh_8 hs) rfl
theorem g_8_3 {h : pH} (hs : Sg h) : getI h 8 10 3 = some (rd h 8 3) := getI_sh (sh_8 hs) rfl
theorem p_8_3 {h : pH} (hs : Sg h) (x : Int32) : putI h 8 10 3 x = some (wr h 8 3 x) := putI_sh x (sh_8 hs) rfl
theorem z_8_3 {h : pH} (hs : Sg h) {x : Int32} (hx : x = 0 ∨ x = 1) : putZ h 8 10 3 x = some (wr h 8 3 x) := putZ_sh hx (sh_8 hs) rfl
theorem w_8_3 {h : pH} (hs : Sg h) (x : Int32) : rd (wr h 8 3 x) 8 3 = x := rd_wr_eq x (by rw [sh_8 hs]; rfl)
theorem R_8_4 {h : pH} (hs : Sg h) : getR h 8 10 4 = some 12 := getR_sh (sh_8 hs) rfl
theorem g_8_5 {h : pH} (hs : Sg h) : getI h 8 10 5 = some (rd h 8 5) := getI_sh (sh_8 hs) rfl
theorem p_8_5 {h : pH} (hs : Sg h) (x : Int32) : putI h 8 10 5 x = some (wr h 8 5 x) := putI_sh x (sh_8 hs) rfl
theorem z_8_5 {h : pH} (hs : Sg h) {x : Int32} (hx : x = 0 ∨ x = 1) : putZ h 8 10 5 x = some (wr h 8 5 x) := putZ_sh hx (sh_8 hs) rfl
theorem w_8_5 {h : pH} (hs : Sg h) (x : Int32) : rd (wr h 8 5 x) 8 5 = x := rd_wr_eq x (by rw [sh_8 hs]; rfl)
theorem R_8_6 {h : pH} (hs : Sg h) : getR h 8 10 6 = some 13 := getR_sh (sh_8 hs) rfl
theorem R_8_7 {h : pH} (hs : Sg h) : getR h 8 10 7 = some 14 := getR_sh (sh_8 hs) rfl
theorem R_8_8 {h : pH} (hs : Sg h) : getR h 8 10 8 = some 15 := getR_sh (sh_8 hs) rfl
theorem R_8_9 {h : pH} (hs : Sg h) : getR h 8 10 9 = some 16 := getR_sh (sh_8 hs) rfl
theorem g_8_10 {h : pH} (hs : Sg h) : getI h 8 10 10 = some (rd h 8 10) := getI_sh (sh_8 hs) rfl
theorem p_8_10 {h : pH} (hs : Sg h) (x : Int32) : putI h 8 10 10 x = some (wr h 8 10 x) := putI_sh x (sh_8 hs) rfl
theorem z_8_10 {h : pH} (hs : Sg h) {x : Int32} (hx : x = 0 ∨ x = 1) : putZ h 8 10 10 x = some (wr h 8 10 x) := putZ_sh hx (sh_8 hs) rfl
theorem w_8_10 {h : pH} (hs : Sg h) (x : Int32) : rd (wr h 8 10 x) 8 10 = x := rd_wr_eq x (by rw [sh_8 hs]; rfl)
theorem sh_9 {h : pH} (hs : Sg h) : sh h 9 = some (1, 3100, []) := (hs.1 9 (by decide) (by decide) (by decide) (by decide)).trans (by decide +kernel)
theorem n_9 {h : pH} (hs : Sg h) : lenA h 9 = some (Int32.ofNat 3100) := lenA_sh (sh_9 hs) (by decide) (by decide)
theorem L_9 {h : pH} (hs : Sg h) {i : Nat} (hi : i < 3100) : ldI h 9 (Int32.ofNat i) = some (rd h 9 i) := ldI_sh (sh_9 hs) hi (by decide)
theorem T_9 {h : pH} (hs : Sg h) {i : Nat} (hi : i < 3100) (x : Int32) : stI h 9 (Int32.ofNat i) x = some (wr h 9 i x) := stI_sh x (sh_9 hs) hi (by decide)
theorem W_9 {h : pH} (hs : Sg h) (i : Nat) (x : Int32) : rd (wr h 9 i x) 9 i = x := rd_wr_eq x (by rw [sh_9 hs]; rfl)
theorem sh_10 {h : pH} (hs : Sg h) : sh h 10 = some (1, 3100, []) := (hs.1 10 (by decide) (by decide) (by decide) (by decide)).trans (by decide +kernel)
theorem n_10 {h : pH} (hs : Sg h) : lenA h 10 = some (Int32.ofNat 3100) := lenA_sh (sh_10 hs) (by decide) (by decide)
theorem L_10 {h : pH} (hs : Sg h) {i : Nat} (hi : i < 3100) : ldI h 10 (Int32.ofNat i) = some (rd h 10 i) := ldI_sh (sh_10 hs) hi (by decide)
theorem T_10 {h : pH} (hs : Sg h) {i : Nat} (hi : i < 3100) (x : Int32) : stI h 10 (Int32.ofNat i) x = some (wr h 10 i x) := stI_sh x (sh_10 hs) hi (by decide)
theorem W_10 {h : pH} (hs : Sg h) (i : Nat) (x : Int32) : rd (wr h 10 i x) 10 i = x := rd_wr_eq x (by rw [sh_10 hs]; rfl)
theorem sh_11 {h : pH} (hs : Sg h) : sh h 11 = some (1, 3100, []) := (hs.1 11 (by decide) (by decide) (by decide) (by decide)).trans (by decide +kernel)
theorem n_11 {h : pH} (hs : Sg h) : lenA h 11 = some (Int32.ofNat 3100) := lenA_sh (sh_11 hs) (by decide) (by decide)
theorem L_11 {h : pH} (hs : Sg h) {i : Nat} (hi : i < 3100) : ldI h 11 (Int32.ofNat i) = some (rd h 11 i) := ldI_sh (sh_11 hs) hi (by decide)
theorem T_11 {h : pH} (hs : Sg h) {i : Nat} (hi : i < 3100) (x : Int32) : stI h 11 (Int32.ofNat i) x = some (wr h 11 i x) := stI_sh x (sh_11 hs) hi (by decide)
theorem W_11 {h : pH} (hs : Sg h) (i : Nat) (x : Int32) : rd (wr h 11 i x) 11 i = x := rd_wr_eq x (by rw [sh_11 hs]; rfl)
theorem sh_12 {h : pH} (hs : Sg h) : sh h 12 = some (1, 3246, []) := (hs.1 12 (by decide) (by decide) (by decide) (by decide)).trans (by decide +kernel)
theorem n_12 {h : pH} (hs : Sg h) : lenA h 12 = some (Int32.ofNat 3246) := lenA_sh (sh_12 hs) (by decide) (by decide)
theorem L_12 {h : pH} (hs : Sg h) {i : Nat} (hi : i < 3246) : ldI h 12 (Int32.ofNat i) = some (rd h 12 i) := ldI_sh (sh_12 hs) hi (by decide)
theorem T_12 {h : pH} (hs : Sg h) {i : Nat} (hi : i < 3246) (x : Int32) : stI h 12 (Int32.ofNat i) x = some (wr h 12 i x) := stI_sh x (sh_12 hs) hi (by decide)
theorem W_12 {h : pH} (hs : Sg h) (i : Nat) (x : Int32) : rd (wr h 12 i x) 12 i = x := rd_wr_eq x (by rw [sh_12 hs]; rfl)
theorem sh_13 {h : pH} (hs : Sg h) : sh h 13 = some (1, 3100, []) := (hs.1 13 (by decide) (by decide) (by decide) (by decide)).trans (by decide +kernel)
theorem n_13 {h : pH} (hs : Sg h) : lenA h 13 = some (Int32.ofNat 3100) := lenA_sh (sh_13 hs) (by decide) (by decide)
theorem L_13 {h : pH} (hs : Sg h) {i : Nat} (hi : i < 3100) : ldI h 13 (Int32.ofNat i) = some (rd h 13 i) := ldI_sh (sh_13 hs) hi (by decide)
theorem T_13 {h : pH} (hs : Sg h) {i : Nat} (hi : i < 3100) (x : Int32) : stI h 13 (Int32.ofNat i) x = some (wr h 13 i x) := stI_sh x (sh_13 hs) hi (by decide)
theorem W_13 {h : pH} (hs : Sg h) (i : Nat) (x : Int32) : rd (wr h 13 i x) 13 i = x := rd_wr_eq x (by rw [sh_13 hs]; rfl)
theorem sh_14 {h : pH} (hs : Sg h) : sh h 14 = some (1, 3100, []) := (hs.1 14 (by decide) (by decide) (by decide) (by decide)).trans (by decide +kernel)
theorem n_14 {h : pH} (hs : Sg h) : lenA h 14 = some (Int32.ofNat 3100) := lenA_sh (sh_14 hs) (by decide) (by decide)
theorem L_14 {h : pH} (hs : Sg h) {i : Nat} (hi : i < 3100) : ldI h 14 (Int32.ofNat i) = some (rd h 14 i) := ldI_sh (sh_14 hs) hi (by decide)
theorem T_14 {h : pH} (hs : Sg h) {i : Nat} (hi : i < 3100) (x : Int32) : stI h 14 (Int32.ofNat i) x = some (wr h 14 i x) := stI_sh x (sh_14 hs) hi (by decide)
theorem W_14 {h : pH} (hs : Sg h) (i : Nat) (x : Int32) : rd (wr h 14 i x) 14 i = x := rd_wr_eq x (by rw [sh_14 hs]; rfl)
theorem sh_15 {h : pH} (hs : Sg h) : sh h 15 = some (1, 3100, []) := (hs.1 15 (by decide) (by decide) (by decide) (by decide)).trans (by decide +kernel)
theorem n_15 {h : pH} (hs : Sg h) : lenA h 15 = some (Int32.ofNat 3100) := lenA_sh (sh_15 hs) (by decide) (by decide)
theorem L_15 {h : pH} (hs : Sg h) {i : Nat} (hi : i < 3100) : ldI h 15 (Int32.ofNat i) = some (rd h 15 i) := ldI_sh (sh_15 hs) hi (by decide)
theorem T_15 {h : pH} (hs : Sg h) {i : Nat} (hi : i < 3100) (x : Int32) : stI h 15 (Int32.ofNat i) x = some (wr h 15 i x) := stI_sh x (sh_15 hs) hi (by decide)
theorem W_15 {h : pH} (hs : Sg h) (i : Nat) (x : Int32) : rd (wr h 15 i x) 15 i = x := rd_wr_eq x (by rw [sh_15 hs]; rfl)
theorem sh_16 {h : pH} (hs : Sg h) : sh h 16 = some (1, 256, []) := (hs.1 16 (by decide) (by decide) (by decide) (by decide)).trans (by decide +kernel)
theorem n_16 {h : pH} (hs : Sg h) : lenA h 16 = some (Int32.ofNat 256) := lenA_sh (sh_16 hs) (by decide) (by decide)
theorem L_16 {h : pH} (hs : Sg h) {i : Nat} (hi : i < 256) : ldI h 16 (Int32.ofNat i) = some (rd h 16 i) := ldI_sh (sh_16 hs) hi (by decide)
theorem T_16 {h : pH} (hs : Sg h) {i : Nat} (hi : i < 256) (x : Int32) : stI h 16 (Int32.ofNat i) x = some (wr h 16 i x) := stI_sh x (sh_16 hs) hi (by decide)
theorem W_16 {h : pH} (hs : Sg h) (i : Nat) (x : Int32) : rd (wr h 16 i x) 16 i = x := rd_wr_eq x (by rw [sh_16 hs]; rfl)
def S17 : List (Option Nat) := [some 19, some 20, some 21, some 22, some 23, some 24, some 25, none]
theorem sh0_17 : sh h0 17 = some (4 * 1, 8, S17) := by decide +kernel
theorem sh_17 {h : pH} (hs : Sg h) : sh h 17 = some (4 * 1, 8, S17) := (hs.1 17 (by decide) (by decide) (by decide) (by decide)).trans sh0_17
theorem o_17 {h : pH} (hs : Sg h) : isO h 17 1 = true := isO_sh (by decide) (sh_17 hs)
theorem R_17_0 {h : pH} (hs : Sg h) : getR h 17 1 0 = some 18 := getR_sh (sh_17 hs) rfl
theorem R_17_1 {h : pH} (hs : Sg h) : getR h 17 1 1 = some 19 := getR_sh (sh_17 hs) rfl
theorem R_17_2 {h : pH} (hs : Sg h) : getR h 17 1 2 = some 20 := getR_sh (sh_17 hs) rfl
theorem R_17_3 {h : pH} (hs : Sg h) : getR h 17 1 3 = some 21 := getR_sh (sh_17 hs) rfl
theorem R_17_4 {h : pH} (hs : Sg h) : getR h 17 1 4 = some 22 := getR_sh (sh_17 hs) rfl
theorem R_17_5 {h : pH} (hs : Sg h) : getR h 17 1 5 = some 23 := getR_sh (sh_17 hs) rfl
theorem R_17_6 {h : pH} (hs : Sg h) : getR h 17 1 6 = some 24 := getR_sh (sh_17 hs) rfl
theorem g_17_7 {h : pH} (hs : Sg h) : getI h 17 1 7 = some (rd h 17 7) := getI_sh (sh_17 hs) rfl
theorem p_17_7 {h : pH} (hs : Sg h) (x : Int32) : putI h 17 1 7 x = some (wr h 17 7 x) := putI_sh x (sh_17 hs) rfl
theorem z_17_7 {h : pH} (hs : Sg h) {x : Int32} (hx : x = 0 ∨ x = 1) : putZ h 17 1 7 x = some (wr h 17 7 x) := putZ_sh hx (sh_17 hs) rfl
theorem w_17_7 {h : pH} (hs : Sg h) (x : Int32) : rd (wr h 17 7 x) 17 7 = x := rd_wr_eq x (by rw [sh_17 hs]; rfl)
theorem sh_18 {h : pH} (hs : Sg h) : sh h 18 = some (1, 400, []) := (hs.1 18 (by decide) (by decide) (by decide) (by decide)).trans (by decide +kernel)
theorem n_18 {h : pH} (hs : Sg h) : lenA h 18 = some (Int32.ofNat 400) := lenA_sh (sh_18 hs) (by decide) (by decide)
theorem L_18 {h : pH} (hs : Sg h) {i : Nat} (hi : i < 400) : ldI h 18 (Int32.ofNat i) = some (rd h 18 i) := ldI_sh (sh_18 hs) hi (by decide)
theorem T_18 {h : pH} (hs : Sg h) {i : Nat} (hi : i < 400) (x : Int32) : stI h 18 (Int32.ofNat i) x = some (wr h 18 i x) := stI_sh x (sh_18 hs) hi (by decide)
theorem W_18 {h : pH} (hs : Sg h) (i : Nat) (x : Int32) : rd (wr h 18 i x) 18 i = x := rd_wr_eq x (by rw [sh_18 hs]; rfl)
theorem sh_19 {h : pH} (hs : Sg h) : sh h 19 = some (1, 400, []) := (hs.1 19 (by decide) (by decide) (by decide) (by decide)).trans (by decide +kernel)
theorem n_19 {h : pH} (hs : Sg h) : lenA h 19 = some (Int32.ofNat 400) := lenA_sh (sh_19 hs) (by decide) (by decide)
theorem L_19 {h : pH} (hs : Sg h) {i : Nat} (hi : i < 400) : ldI h 19 (Int32.ofNat i) = some (rd h 19 i) := ldI_sh (sh_19 hs) hi (by decide)
theorem T_19 {h : pH} (hs : Sg h) {i : Nat} (hi : i < 400) (x : Int32) : stI h 19 (Int32.ofNat i) x = some (wr h 19 i x) := stI_sh x (sh_19 hs) hi (by decide)
theorem W_19 {h : pH} (hs : Sg h) (i : Nat) (x : Int32) : rd (wr h 19 i x) 19 i = x := rd_wr_eq x (by rw [sh_19 hs]; rfl)
theorem sh_20 {h : pH} (hs : Sg h) : sh h 20 = some (1, 400, []) := (hs.1 20 (by decide) (by decide) (by decide) (by decide)).trans (by decide +kernel)
theorem n_20 {h : pH} (hs : Sg h) : lenA h 20 = some (Int32.ofNat 400) := lenA_sh (sh_20 hs) (by decide) (by decide)
theorem L_20 {h : pH} (hs : Sg h) {i : Nat} (hi : i < 400) : ldI h 20 (Int32.ofNat i) = some (rd h 20 i) := ldI_sh (sh_20 hs) hi (by decide)
theorem T_20 {h : pH} (hs : Sg h) {i : Nat} (hi : i < 400) (x : Int32) : stI h 20 (Int32.ofNat i) x = some (wr h 20 i x) := stI_sh x (sh_20 hs) hi (by decide)
theorem W_20 {h : pH} (hs : Sg h) (i : Nat) (x : Int32) : rd (wr h 20 i x) 20 i = x := rd_wr_eq x (by rw [sh_20 hs]; rfl)
theorem sh_21 {h : pH} (hs : Sg h) : sh h 21 = some (1, 400, []) := (hs.1 21 (by decide) (by decide) (by decide) (by decide)).trans (by decide +kernel)
theorem n_21 {h : pH} (hs : Sg h) : lenA h 21 = some (Int32.ofNat 400) := lenA_sh (sh_21 hs) (by decide) (by decide)
theorem L_21 {h : pH} (hs : Sg h) {i : Nat} (hi : i < 400) : ldI h 21 (Int32.ofNat i) = some (rd h 21 i) := ldI_sh (sh_21 hs) hi (by decide)
theorem T_21 {h : pH} (hs : Sg h) {i : Nat} (hi : i < 400) (x : Int32) : stI h 21 (Int32.ofNat i) x = some (wr h 21 i x) := stI_sh x (sh_21 hs) hi (by decide)
theorem W_21 {h : pH} (hs : Sg h) (i : Nat) (x : Int32) : rd (wr h 21 i x) 21 i = x := rd_wr_eq x (by rw [sh_21 hs]; rfl)
theorem sh_22 {h : pH} (hs : Sg h) : sh h 22 = some (1, 400, []) := (hs.1 22 (by decide) (by decide) (by decide) (by decide)).trans (by decide +kernel)
theorem n_22 {h : pH} (hs : Sg h) : lenA h 22 = some (Int32.ofNat 400) := lenA_sh (sh_22 hs) (by decide) (by decide)
theorem L_22 {h : pH} (hs : Sg h) {i : Nat} (hi : i < 400) : ldI h 22 (Int32.ofNat i) = some (rd h 22 i) := ldI_sh (sh_22 hs) hi (by decide)
theorem T_22 {h : pH} (hs : Sg h) {i : Nat} (hi : i < 400) (x : Int32) : stI h 22 (Int32.ofNat i) x = some (wr h 22 i x) := stI_sh x (sh_22 hs) hi (by decide)
theorem W_22 {h : pH} (hs : Sg h) (i : Nat) (x : Int32) : rd (wr h 22 i x) 22 i = x := rd_wr_eq x (by rw [sh_22 hs]; rfl)
theorem sh_23 {h : pH} (hs : Sg h) : sh h 23 = some (1, 400, []) := (hs.1 23 (by decide) (by decide) (by decide) (by decide)).trans (by decide +kernel)
theorem n_23 {h : pH} (hs : Sg h) : lenA h 23 = some (Int32.ofNat 400) := lenA_sh (sh_23 hs) (by decide) (by decide)
theorem L_23 {h : pH} (hs : Sg h) {i : Nat} (hi : i < 400) : ldI h 23 (Int32.ofNat i) = some (rd h 23 i) := ldI_sh (sh_23 hs) hi (by decide)
theorem T_23 {h : pH} (hs : Sg h) {i : Nat} (hi : i < 400) (x : Int32) : stI h 23 (Int32.ofNat i) x = some (wr h 23 i x) := stI_sh x (sh_23 hs) hi (by decide)
theorem W_23 {h : pH} (hs : Sg h) (i : Nat) (x : Int32) : rd (wr h 23 i x) 23 i = x := rd_wr_eq x (by rw [sh_23 hs]; rfl)
theorem sh_24 {h : pH} (hs : Sg h) : sh h 24 = some (1, 400, []) := (hs.1 24 (by decide) (by decide) (by decide) (by decide)).trans (by decide +kernel)
theorem n_24 {h : pH} (hs : Sg h) : lenA h 24 = some (Int32.ofNat 400) := lenA_sh (sh_24 hs) (by decide) (by decide)
theorem L_24 {h : pH} (hs : Sg h) {i : Nat} (hi : i < 400) : ldI h 24 (Int32.ofNat i) = some (rd h 24 i) := ldI_sh (sh_24 hs) hi (by decide)
theorem T_24 {h : pH} (hs : Sg h) {i : Nat} (hi : i < 400) (x : Int32) : stI h 24 (Int32.ofNat i) x = some (wr h 24 i x) := stI_sh x (sh_24 hs) hi (by decide)
theorem W_24 {h : pH} (hs : Sg h) (i : Nat) (x : Int32) : rd (wr h 24 i x) 24 i = x := rd_wr_eq x (by rw [sh_24 hs]; rfl)
def S25 : List (Option Nat) := [some 18, some 27, some 28, some 29, some 30, some 31, some 32, some 33, some 34, some 35, some 36, none, some 37, some 38, none]
theorem sh0_25 : sh h0 25 = some (4 * 6, 15, S25) := by decide +kernel
theorem sh_25 {h : pH} (hs : Sg h) : sh h 25 = some (4 * 6, 15, S25) := (hs.1 25 (by decide) (by decide) (by decide) (by decide)).trans sh0_25
theorem o_25 {h : pH} (hs : Sg h) : isO h 25 6 = true := isO_sh (by decide) (sh_25 hs)
theorem R_25_0 {h : pH} (hs : Sg h) : getR h 25 6 0 = some 17 := getR_sh (sh_25 hs) rfl
theorem R_25_1 {h : pH} (hs : Sg h) : getR h 25 6 1 = some 26 := getR_sh (sh_25 hs) rfl
theorem R_25_2 {h : pH} (hs : Sg h) : getR h 25 6 2 = some 27 := getR_sh (sh_25 hs) rfl
theorem R_25_3 {h : pH} (hs : Sg h) : getR h 25 6 3 = some 28 := getR_sh (sh_25 hs) rfl
theorem R_25_4 {h : pH} (hs : Sg h) : getR h 25 6 4 = some 29 := getR_sh (sh_25 hs) rfl
theorem R_25_5 {h : pH} (hs : Sg h) : getR h 25 6 5 = some 30 := getR_sh (sh_25 hs) rfl
theorem R_25_6 {h : pH} (hs : Sg h) : getR h 25 6 6 = some 31 := getR_sh (sh_25 hs) rfl
theorem R_25_7 {h : pH} (hs : Sg h) : getR h 25 6 7 = some 32 := getR_sh (sh_25 hs) rfl
theorem R_25_8 {h : pH} (hs : Sg h) : getR h 25 6 8 = some 33 := getR_sh (sh_25 hs) rfl
theorem R_25_9 {h : pH} (hs : Sg h) : getR h 25 6 9 = some 34 := getR_sh (sh_25 hs) rfl
theorem R_25_10 {h : pH} (hs : Sg h) : getR h 25 6 10 = some 35 := getR_sh (sh_25 hs) rfl
theorem g_25_11 {h : pH} (hs : Sg h) : getI h 25 6 11 = some (rd h 25 11) := getI_sh (sh_25 hs) rfl
theorem p_25_11 {h : pH} (hs : Sg h) (x : Int32) : putI h 25 6 11 x = some (wr h 25 11 x) := putI_sh x (sh_25 hs) rfl
theorem z_25_11 {h : pH} (hs : Sg h) {x : Int32} (hx : x = 0 ∨ x = 1) : putZ h 25 6 11 x = some (wr h 25 11 x) := putZ_sh hx (sh_25 hs) rfl
theorem w_25_11 {h : pH} (hs : Sg h) (x : Int32) : rd (wr h 25 11 x) 25 11 = x := rd_wr_eq x (by rw [sh_25 hs]; rfl)
theorem R_25_12 {h : pH} (hs : Sg h) : getR h 25 6 12 = some 36 := getR_sh (sh_25 hs) rfl
theorem R_25_13 {h : pH} (hs : Sg h) : getR h 25 6 13 = some 37 := getR_sh (sh_25 hs) rfl
theorem g_25_14 {h : pH} (hs : Sg h) : getI h 25 6 14 = some (rd h 25 14) := getI_sh (sh_25 hs) rfl
theorem p_25_14 {h : pH} (hs : Sg h) (x : Int32) : putI h 25 6 14 x = some (wr h 25 14 x) := putI_sh x (sh_25 hs) rfl
theorem z_25_14 {h : pH} (hs : Sg h) {x : Int32} (hx : x = 0 ∨ x = 1) : putZ h 25 6 14 x = some (wr h 25 14 x) := putZ_sh hx (sh_25 hs) rfl
theorem w_25_14 {h : pH} (hs : Sg h) (x : Int32) : rd (wr h 25 14 x) 25 14 = x := rd_wr_eq x (by rw [sh_25 hs]; rfl)
theorem sh_26 {h : pH} (hs : Sg h) : sh h 26 = some (1, 1000, []) := (hs.1 26 (by decide) (by decide) (by decide) (by decide)).trans (by decide +kernel)
theorem n_26 {h : pH} (hs : Sg h) : lenA h 26 = some (Int32.ofNat 1000) := lenA_sh (sh_26 hs) (by decide) (by decide)
theorem L_26 {h : pH} (hs : Sg h) {i : Nat} (hi : i < 1000) : ldI h 26 (Int32.ofNat i) = some (rd h 26 i) := ldI_sh (sh_26 hs) hi (by decide)
theorem T_26 {h : pH} (hs : Sg h) {i : Nat} (hi : i < 1000) (x : Int32) : stI h 26 (Int32.ofNat i) x = some (wr h 26 i x) := stI_sh x (sh_26 hs) hi (by decide)
theorem W_26 {h : pH} (hs : Sg h) (i : Nat) (x : Int32) : rd (wr h 26 i x) 26 i = x := rd_wr_eq x (by rw [sh_26 hs]; rfl)
theorem sh_27 {h : pH} (hs : Sg h) : sh h 27 = some (1, 1000, []) := (hs.1 27 (by decide) (by decide) (by decide) (by decide)).trans (by decide +kernel)
theorem n_27 {h : pH} (hs : Sg h) : lenA h 27 = some (Int32.ofNat 1000) := lenA_sh (sh_27 hs) (by decide) (by decide)
theorem L_27 {h : pH} (hs : Sg h) {i : Nat} (hi : i < 1000) : ldI h 27 (Int32.ofNat i) = some (rd h 27 i) := ldI_sh (sh_27 hs) hi (by decide)
theorem T_27 {h : pH} (hs : Sg h) {i : Nat} (hi : i < 1000) (x : Int32) : stI h 27 (Int32.ofNat i) x = some (wr h 27 i x) := stI_sh x (sh_27 hs) hi (by decide)
theorem W_27 {h : pH} (hs : Sg h) (i : Nat) (x : Int32) : rd (wr h 27 i x) 27 i = x := rd_wr_eq x (by rw [sh_27 hs]; rfl)
theorem sh_28 {h : pH} (hs : Sg h) : sh h 28 = some (1, 1000, []) := (hs.1 28 (by decide) (by decide) (by decide) (by decide)).trans (by decide +kernel)
theorem n_28 {h : pH} (hs : Sg h) : lenA h 28 = some (Int32.ofNat 1000) := lenA_sh (sh_28 hs) (by decide) (by decide)
theorem L_28 {h : pH} (hs : Sg h) {i : Nat} (hi : i < 1000) : ldI h 28 (Int32.ofNat i) = some (rd h 28 i) := ldI_sh (sh_28 hs) hi (by decide)
theorem T_28 {h : pH} (hs : Sg h) {i : Nat} (hi : i < 1000) (x : Int32) : stI h 28 (Int32.ofNat i) x = some (wr h 28 i x) := stI_sh x (sh_28 hs) hi (by decide)
theorem W_28 {h : pH} (hs : Sg h) (i : Nat) (x : Int32) : rd (wr h 28 i x) 28 i = x := rd_wr_eq x (by rw [sh_28 hs]; rfl)
theorem sh_29 {h : pH} (hs : Sg h) : sh h 29 = some (9, 1000, []) := (hs.1 29 (by decide) (by decide) (by decide) (by decide)).trans (by decide +kernel)
theorem n_29 {h : pH} (hs : Sg h) : lenA h 29 = some (Int32.ofNat 1000) := lenA_sh (sh_29 hs) (by decide) (by decide)
theorem L_29 {h : pH} (hs : Sg h) {i : Nat} (hi : i < 1000) : ldZ h 29 (Int32.ofNat i) = some (rd h 29 i) := ldZ_sh (sh_29 hs) hi (by decide)
theorem T_29 {h : pH} (hs : Sg h) {i : Nat} (hi : i < 1000) {x : Int32} (hx : x = 0 ∨ x = 1) : stZ h 29 (Int32.ofNat i) x = some (wr h 29 i x) := stZ_sh hx (sh_29 hs) hi (by decide)
theorem W_29 {h : pH} (hs : Sg h) (i : Nat) (x : Int32) : rd (wr h 29 i x) 29 i = x := rd_wr_eq x (by rw [sh_29 hs]; rfl)
theorem sh_30 {h : pH} (hs : Sg h) : sh h 30 = some (1, 1000, []) := (hs.1 30 (by decide) (by decide) (by decide) (by decide)).trans (by decide +kernel)
theorem n_30 {h : pH} (hs : Sg h) : lenA h 30 = some (Int32.ofNat 1000) := lenA_sh (sh_30 hs) (by decide) (by decide)
theorem L_30 {h : pH} (hs : Sg h) {i : Nat} (hi : i < 1000) : ldI h 30 (Int32.ofNat i) = some (rd h 30 i) := ldI_sh (sh_30 hs) hi (by decide)
theorem T_30 {h : pH} (hs : Sg h) {i : Nat} (hi : i < 1000) (x : Int32) : stI h 30 (Int32.ofNat i) x = some (wr h 30 i x) := stI_sh x (sh_30 hs) hi (by decide)
theorem W_30 {h : pH} (hs : Sg h) (i : Nat) (x : Int32) : rd (wr h 30 i x) 30 i = x := rd_wr_eq x (by rw [sh_30 hs]; rfl)
theorem sh_31 {h : pH} (hs : Sg h) : sh h 31 = some (1, 1000, []) := (hs.1 31 (by decide) (by decide) (by decide) (by decide)).trans (by decide +kernel)
theorem n_31 {h : pH} (hs : Sg h) : lenA h 31 = some (Int32.ofNat 1000) := lenA_sh (sh_31 hs) (by decide) (by decide)
theorem L_31 {h : pH} (hs : Sg h) {i : Nat} (hi : i < 1000) : ldI h 31 (Int32.ofNat i) = some (rd h 31 i) := ldI_sh (sh_31 hs) hi (by decide)
theorem T_31 {h : pH} (hs : Sg h) {i : Nat} (hi : i < 1000) (x : Int32) : stI h 31 (Int32.ofNat i) x = some (wr h 31 i x) := stI_sh x (sh_31 hs) hi (by decide)
theorem W_31 {h : pH} (hs : Sg h) (i : Nat) (x : Int32) : rd (wr h 31 i x) 31 i = x := rd_wr_eq x (by rw [sh_31 hs]; rfl)
theorem sh_32 {h : pH} (hs : Sg h) : sh h 32 = some (1, 1000, []) := (hs.1 32 (by decide) (by decide) (by decide) (by decide)).trans (by decide +kernel)
theorem n_32 {h : pH} (hs : Sg h) : lenA h 32 = some (Int32.ofNat 1000) := lenA_sh (sh_32 hs) (by decide) (by decide)
theorem L_32 {h : pH} (hs : Sg h) {i : Nat} (hi : i < 1000) : ldI h 32 (Int32.ofNat i) = some (rd h 32 i) := ldI_sh (sh_32 hs) hi (by decide)
theorem T_32 {h : pH} (hs : Sg h) {i : Nat} (hi : i < 1000) (x : Int32) : stI h 32 (Int32.ofNat i) x = some (wr h 32 i x) := stI_sh x (sh_32 hs) hi (by decide)
theorem W_32 {h : pH} (hs : Sg h) (i : Nat) (x : Int32) : rd (wr h 32 i x) 32 i = x := rd_wr_eq x (by rw [sh_32 hs]; rfl)
theorem sh_33 {h : pH} (hs : Sg h) : sh h 33 = some (1, 1000, []) := (hs.1 33 (by decide) (by decide) (by decide) (by decide)).trans (by decide +kernel)
theorem n_33 {h : pH} (hs : Sg h) : lenA h 33 = some (Int32.ofNat 1000) := lenA_sh (sh_33 hs) (by decide) (by decide)
theorem L_33 {h : pH} (hs : Sg h) {i : Nat} (hi : i < 1000) : ldI h 33 (Int32.ofNat i) = some (rd h 33 i) := ldI_sh (sh_33 hs) hi (by decide)
theorem T_33 {h : pH} (hs : Sg h) {i : Nat} (hi : i < 1000) (x : Int32) : stI h 33 (Int32.ofNat i) x = some (wr h 33 i x) := stI_sh x (sh_33 hs) hi (by decide)
theorem W_33 {h : pH} (hs : Sg h) (i : Nat) (x : Int32) : rd (wr h 33 i x) 33 i = x := rd_wr_eq x (by rw [sh_33 hs]; rfl)
theorem sh_34 {h : pH} (hs : Sg h) : sh h 34 = some (1, 1000, []) := (hs.1 34 (by decide) (by decide) (by decide) (by decide)).trans (by decide +kernel)
theorem n_34 {h : pH} (hs : Sg h) : lenA h 34 = some (Int32.ofNat 1000) := lenA_sh (sh_34 hs) (by decide) (by decide)
theorem L_34 {h : pH} (hs : Sg h) {i : Nat} (hi : i < 1000) : ldI h 34 (Int32.ofNat i) = some (rd h 34 i) := ldI_sh (sh_34 hs) hi (by decide)
theorem T_34 {h : pH} (hs : Sg h) {i : Nat} (hi : i < 1000) (x : Int32) : stI h 34 (Int32.ofNat i) x = some (wr h 34 i x) := stI_sh x (sh_34 hs) hi (by decide)
theorem W_34 {h : pH} (hs : Sg h) (i : Nat) (x : Int32) : rd (wr h 34 i x) 34 i = x := rd_wr_eq x (by rw [sh_34 hs]; rfl)
theorem sh_35 {h : pH} (hs : Sg h) : sh h 35 = some (1, 1000, []) := (hs.1 35 (by decide) (by decide) (by decide) (by decide)).trans (by decide +kernel)
theorem n_35 {h : pH} (hs : Sg h) : lenA h 35 = some (Int32.ofNat 1000) := lenA_sh (sh_35 hs) (by decide) (by decide)
theorem L_35 {h : pH} (hs : Sg h) {i : Nat} (hi : i < 1000) : ldI h 35 (Int32.ofNat i) = some (rd h 35 i) := ldI_sh (sh_35 hs) hi (by decide)
theorem T_35 {h : pH} (hs : Sg h) {i : Nat} (hi : i < 1000) (x : Int32) : stI h 35 (Int32.ofNat i) x = some (wr h 35 i x) := stI_sh x (sh_35 hs) hi (by decide)
theorem W_35 {h : pH} (hs : Sg h) (i : Nat) (x : Int32) : rd (wr h 35 i x) 35 i = x := rd_wr_eq x (by rw [sh_35 hs]; rfl)
theorem sh_36 {h : pH} (hs : Sg h) : sh h 36 = some (1, 1000, []) := (hs.1 36 (by decide) (by decide) (by decide) (by decide)).trans (by decide +kernel)
theorem n_36 {h : pH} (hs : Sg h) : lenA h 36 = some (Int32.ofNat 1000) := lenA_sh (sh_36 hs) (by decide) (by decide)
theorem L_36 {h : pH} (hs : Sg h) {i : Nat} (hi : i < 1000) : ldI h 36 (Int32.ofNat i) = some (rd h 36 i) := ldI_sh (sh_36 hs) hi (by decide)
theorem T_36 {h : pH} (hs : Sg h) {i : Nat} (hi : i < 1000) (x : Int32) : stI h 36 (Int32.ofNat i) x = some (wr h 36 i x) := stI_sh x (sh_36 hs) hi (by decide)
theorem W_36 {h : pH} (hs : Sg h) (i : Nat) (x : Int32) : rd (wr h 36 i x) 36 i = x := rd_wr_eq x (by rw [sh_36 hs]; rfl)
theorem sh_37 {h : pH} (hs : Sg h) : sh h 37 = some (1, 1000, []) := (hs.1 37 (by decide) (by decide) (by decide) (by decide)).trans (by decide +kernel)
theorem n_37 {h : pH} (hs : Sg h) : lenA h 37 = some (Int32.ofNat 1000) := lenA_sh (sh_37 hs) (by decide) (by decide)
theorem L_37 {h : pH} (hs : Sg h) {i : Nat} (hi : i < 1000) : ldI h 37 (Int32.ofNat i) = some (rd h 37 i) := ldI_sh (sh_37 hs) hi (by decide)
theorem T_37 {h : pH} (hs : Sg h) {i : Nat} (hi : i < 1000) (x : Int32) : stI h 37 (Int32.ofNat i) x = some (wr h 37 i x) := stI_sh x (sh_37 hs) hi (by decide)
theorem W_37 {h : pH} (hs : Sg h) (i : Nat) (x : Int32) : rd (wr h 37 i x) 37 i = x := rd_wr_eq x (by rw [sh_37 hs]; rfl)
def S38 : List (Option Nat) := [some 40, some 41, some 42, some 43, some 44, some 45, some 46, none, none, none]
theorem sh0_38 : sh h0 38 = some (4 * 2, 10, S38) := by decide +kernel
theorem sh_38 {h : pH} (hs : Sg h) : sh h 38 = some (4 * 2, 10, S38) := (hs.1 38 (by decide) (by decide) (by decide) (by decide)).trans sh0_38
theorem o_38 {h : pH} (hs : Sg h) : isO h 38 2 = true := isO_sh (by decide) (sh_38 hs)
theorem R_38_0 {h : pH} (hs : Sg h) : getR h 38 2 0 = some 39 := getR_sh (sh_38 hs) rfl
theorem R_38_1 {h : pH} (hs : Sg h) : getR h 38 2 1 = some 40 := getR_sh (sh_38 hs) rfl
theorem R_38_2 {h : pH} (hs : Sg h) : getR h 38 2 2 = some 41 := getR_sh (sh_38 hs) rfl
theorem R_38_3 {h : pH} (hs : Sg h) : getR h 38 2 3 = some 42 := getR_sh (sh_38 hs) rfl
theorem R_38_4 {h : pH} (hs : Sg h) : getR h 38 2 4 = some 43 := getR_sh (sh_38 hs) rfl
theorem R_38_5 {h : pH} (hs : Sg h) : getR h 38 2 5 = some 44 := getR_sh (sh_38 hs) rfl
theorem R_38_6 {h : pH} (hs : Sg h) : getR h 38 2 6 = some 45 := getR_sh (sh_38 hs) rfl
theorem g_38_7 {h : pH} (hs : Sg h) : getI h 38 2 7 = some (rd h 38 7) := getI_sh (sh_38 hs) rfl
theorem p_38_7 {h : pH} (hs : Sg h) (x : Int32) : putI h 38 2 7 x = some (wr h 38 7 x) := putI_sh x (sh_38 hs) rfl
theorem z_38_7 {h : pH} (hs : Sg h) {x : Int32} (hx : x = 0 ∨ x = 1) : putZ h 38 2 7 x = some (wr h 38 7 x) := putZ_sh hx (sh_38 hs) rfl
theorem w_38_7 {h : pH} (hs : Sg h) (x : Int32) : rd (wr h 38 7 x) 38 7 = x := rd_wr_eq x (by rw [sh_38 hs]; rfl)
theorem g_38_8 {h : pH} (hs : Sg h) : getI h 38 2 8 = some (rd h 38 8) := getI_sh (sh_38 hs) rfl
theorem p_38_8 {h : pH} (hs : Sg h) (x : Int32) : putI h 38 2 8 x = some (wr h 38 8 x) := putI_sh x (sh_38 hs) rfl
theorem z_38_8 {h : pH} (hs : Sg h) {x : Int32} (hx : x = 0 ∨ x = 1) : putZ h 38 2 8 x = some (wr h 38 8 x) := putZ_sh hx (sh_38 hs) rfl
theorem w_38_8 {h : pH} (hs : Sg h) (x : Int32) : rd (wr h 38 8 x) 38 8 = x := rd_wr_eq x (by rw [sh_38 hs]; rfl)
theorem g_38_9 {h : pH} (hs : Sg h) : getI h 38 2 9 = some (rd h 38 9) := getI_sh (sh_38 hs) rfl
theorem p_38_9 {h : pH} (hs : Sg h) (x : Int32) : putI h 38 2 9 x = some (wr h 38 9 x) := putI_sh x (sh_38 hs) rfl
theorem z_38_9 {h : pH} (hs : Sg h) {x : Int32} (hx : x = 0 ∨ x = 1) : putZ h 38 2 9 x = some (wr h 38 9 x) := putZ_sh hx (sh_38 hs) rfl
theorem w_38_9 {h : pH} (hs : Sg h) (x : Int32) : rd (wr h 38 9 x) 38 9 = x := rd_wr_eq x (by rw [sh_38 hs]; rfl)
theorem sh_39 {h : pH} (hs : Sg h) : sh h 39 = some (1, 3100, []) := (hs.1 39 (by decide) (by decide) (by decide) (by decide)).trans (by decide +kernel)
theorem n_39 {h : pH} (hs : Sg h) : lenA h 39 = some (Int32.ofNat 3100) := lenA_sh (sh_39 hs) (by decide) (by decide)
theorem L_39 {h : pH} (hs : Sg h) {i : Nat} (hi : i < 3100) : ldI h 39 (Int32.ofNat i) = some (rd h 39 i) := ldI_sh (sh_39 hs) hi (by decide)
theorem T_39 {h : pH} (hs : Sg h) {i : Nat} (hi : i < 3100) (x : Int32) : stI h 39 (Int32.ofNat i) x = some (wr h 39 i x) := stI_sh x (sh_39 hs) hi (by decide)
theorem W_39 {h : pH} (hs : Sg h) (i : Nat) (x : Int32) : rd (wr h 39 i x) 39 i = x := rd_wr_eq x (by rw [sh_39 hs]; rfl)
theorem sh_40 {h : pH} (hs : Sg h) : sh h 40 = some (1, 3100, []) := (hs.1 40 (by decide) (by decide) (by decide) (by decide)).trans (by decide +kernel)
theorem n_40 {h : pH} (hs : Sg h) : lenA h 40 = some (Int32.ofNat 3100) := lenA_sh (sh_40 hs) (by decide) (by decide)
theorem L_40 {h : pH} (hs : Sg h) {i : Nat} (hi : i < 3100) : ldI h 40 (Int32.ofNat i) = some (rd h 40 i) := ldI_sh (sh_40 hs) hi (by decide)
theorem T_40 {h : pH} (hs : Sg h) {i : Nat} (hi : i < 3100) (x : Int32) : stI h 40 (Int32.ofNat i) x = some (wr h 40 i x) := stI_sh x (sh_40 hs) hi (by decide)
theorem W_40 {h : pH} (hs : Sg h) (i : Nat) (x : Int32) : rd (wr h 40 i x) 40 i = x := rd_wr_eq x (by rw [sh_40 hs]; rfl)
theorem sh_41 {h : pH} (hs : Sg h) : sh h 41 = some (1, 3100, []) := (hs.1 41 (by decide) (by decide) (by decide) (by decide)).trans (by decide +kernel)
theorem n_41 {h : pH} (hs : Sg h) : lenA h 41 = some (Int32.ofNat 3100) := lenA_sh (sh_41 hs) (by decide) (by decide)
theorem L_41 {h : pH} (hs : Sg h) {i : Nat} (hi : i < 3100) : ldI h 41 (Int32.ofNat i) = some (rd h 41 i) := ldI_sh (sh_41 hs) hi (by decide)
theorem T_41 {h : pH} (hs : Sg h) {i : Nat} (hi : i < 3100) (x : Int32) : stI h 41 (Int32.ofNat i) x = some (wr h 41 i x) := stI_sh x (sh_41 hs) hi (by decide)
theorem W_41 {h : pH} (hs : Sg h) (i : Nat) (x : Int32) : rd (wr h 41 i x) 41 i = x := rd_wr_eq x (by rw [sh_41 hs]; rfl)
theorem sh_42 {h : pH} (hs : Sg h) : sh h 42 = some (1, 3100, []) := (hs.1 42 (by decide) (by decide) (by decide) (by decide)).trans (by decide +kernel)
theorem n_42 {h : pH} (hs : Sg h) : lenA h 42 = some (Int32.ofNat 3100) := lenA_sh (sh_42 hs) (by decide) (by decide)
theorem L_42 {h : pH} (hs : Sg h) {i : Nat} (hi : i < 3100) : ldI h 42 (Int32.ofNat i) = some (rd h 42 i) := ldI_sh (sh_42 hs) hi (by decide)
theorem T_42 {h : pH} (hs : Sg h) {i : Nat} (hi : i < 3100) (x : Int32) : stI h 42 (Int32.ofNat i) x = some (wr h 42 i x) := stI_sh x (sh_42 hs) hi (by decide)
theorem W_42 {h : pH} (hs : Sg h) (i : Nat) (x : Int32) : rd (wr h 42 i x) 42 i = x := rd_wr_eq x (by rw [sh_42 hs]; rfl)
theorem sh_43 {h : pH} (hs : Sg h) : sh h 43 = some (1, 3100, []) := (hs.1 43 (by decide) (by decide) (by decide) (by decide)).trans (by decide +kernel)
theorem n_43 {h : pH} (hs : Sg h) : lenA h 43 = some (Int32.ofNat 3100) := lenA_sh (sh_43 hs) (by decide) (by decide)
theorem L_43 {h : pH} (hs : Sg h) {i : Nat} (hi : i < 3100) : ldI h 43 (Int32.ofNat i) = some (rd h 43 i) := ldI_sh (sh_43 hs) hi (by decide)
theorem T_43 {h : pH} (hs : Sg h) {i : Nat} (hi : i < 3100) (x : Int32) : stI h 43 (Int32.ofNat i) x = some (wr h 43 i x) := stI_sh x (sh_43 hs) hi (by decide)
theorem W_43 {h : pH} (hs : Sg h) (i : Nat) (x : Int32) : rd (wr h 43 i x) 43 i = x := rd_wr_eq x (by rw [sh_43 hs]; rfl)
theorem sh_44 {h : pH} (hs : Sg h) : sh h 44 = some (1, 3100, []) := (hs.1 44 (by decide) (by decide) (by decide) (by decide)).trans (by decide +kernel)
theorem n_44 {h : pH} (hs : Sg h) : lenA h 44 = some (Int32.ofNat 3100) := lenA_sh (sh_44 hs) (by decide) (by decide)
theorem L_44 {h : pH} (hs : Sg h) {i : Nat} (hi : i < 3100) : ldI h 44 (Int32.ofNat i) = some (rd h 44 i) := ldI_sh (sh_44 hs) hi (by decide)
theorem T_44 {h : pH} (hs : Sg h) {i : Nat} (hi : i < 3100) (x : Int32) : stI h 44 (Int32.ofNat i) x = some (wr h 44 i x) := stI_sh x (sh_44 hs) hi (by decide)
theorem W_44 {h : pH} (hs : Sg h) (i : Nat) (x : Int32) : rd (wr h 44 i x) 44 i = x := rd_wr_eq x (by rw [sh_44 hs]; rfl)
theorem sh_45 {h : pH} (hs : Sg h) : sh h 45 = some (1, 3100, []) := (hs.1 45 (by decide) (by decide) (by decide) (by decide)).trans (by decide +kernel)
theorem n_45 {h : pH} (hs : Sg h) : lenA h 45 = some (Int32.ofNat 3100) := lenA_sh (sh_45 hs) (by decide) (by decide)
theorem L_45 {h : pH} (hs : Sg h) {i : Nat} (hi : i < 3100) : ldI h 45 (Int32.ofNat i) = some (rd h 45 i) := ldI_sh (sh_45 hs) hi (by decide)
theorem T_45 {h : pH} (hs : Sg h) {i : Nat} (hi : i < 3100) (x : Int32) : stI h 45 (Int32.ofNat i) x = some (wr h 45 i x) := stI_sh x (sh_45 hs) hi (by decide)
theorem W_45 {h : pH} (hs : Sg h) (i : Nat) (x : Int32) : rd (wr h 45 i x) 45 i = x := rd_wr_eq x (by rw [sh_45 hs]; rfl)
def S46 : List (Option Nat) := [some 9, some 18, some 26, some 39, some 48, some 49, some 50, none, none, none, none, none]
theorem sh0_46 : sh h0 46 = some (4 * 7, 12, S46) := by decide +kernel
theorem sh_46 {h : pH} (hs : Sg h) : sh h 46 = some (4 * 7, 12, S46) := (hs.1 46 (by decide) (by decide) (by decide) (by decide)).trans sh0_46
theorem o_46 {h : pH} (hs : Sg h) : isO h 46 7 = true := isO_sh (by decide) (sh_46 hs)
theorem R_46_0 {h : pH} (hs : Sg h) : getR h 46 7 0 = some 8 := getR_sh (sh_46 hs) rfl
theorem R_46_1 {h : pH} (hs : Sg h) : getR h 46 7 1 = some 17 := getR_sh (sh_46 hs) rfl
theorem R_46_2 {h : pH} (hs : Sg h) : getR h 46 7 2 = some 25 := getR_sh (sh_46 hs) rfl
theorem R_46_3 {h : pH} (hs : Sg h) : getR h 46 7 3 = some 38 := getR_sh (sh_46 hs) rfl
theorem R_46_4 {h : pH} (hs : Sg h) : getR h 46 7 4 = some 47 := getR_sh (sh_46 hs) rfl
theorem R_46_5 {h : pH} (hs : Sg h) : getR h 46 7 5 = some 48 := getR_sh (sh_46 hs) rfl
theorem R_46_6 {h : pH} (hs : Sg h) : getR h 46 7 6 = some 49 := getR_sh (sh_46 hs) rfl
theorem g_46_7 {h : pH} (hs : Sg h) : getI h 46 7 7 = some (rd h 46 7) := getI_sh (sh_46 hs) rfl
theorem p_46_7 {h : pH} (hs : Sg h) (x : Int32) : putI h 46 7 7 x = some (wr h 46 7 x) := putI_sh x (sh_46 hs) rfl
theorem z_46_7 {h : pH} (hs : Sg h) {x : Int32} (hx : x = 0 ∨ x = 1) : putZ h 46 7 7 x = some (wr h 46 7 x) := putZ_sh hx (sh_46 hs) rfl
theorem w_46_7 {h : pH} (hs : Sg h) (x : Int32) : rd (wr h 46 7 x) 46 7 = x := rd_wr_eq x (by rw [sh_46 hs]; rfl)
theorem g_46_8 {h : pH} (hs : Sg h) : getI h 46 7 8 = some (rd h 46 8) := getI_sh (sh_46 hs) rfl
theorem p_46_8 {h : pH} (hs : Sg h) (x : Int32) : putI h 46 7 8 x = some (wr h 46 8 x) := putI_sh x (sh_46 hs) rfl
theorem z_46_8 {h : pH} (hs : Sg h) {x : Int32} (hx : x = 0 ∨ x = 1) : putZ h 46 7 8 x = some (wr h 46 8 x) := putZ_sh hx (sh_46 hs) rfl
theorem w_46_8 {h : pH} (hs : Sg h) (x : Int32) : rd (wr h 46 8 x) 46 8 = x := rd_wr_eq x (by rw [sh_46 hs]; rfl)
theorem g_46_9 {h : pH} (hs : Sg h) : getI h 46 7 9 = some (rd h 46 9) := getI_sh (sh_46 hs) rfl
theorem p_46_9 {h : pH} (hs : Sg h) (x : Int32) : putI h 46 7 9 x = some (wr h 46 9 x) := putI_sh x (sh_46 hs) rfl
theorem z_46_9 {h : pH} (hs : Sg h) {x : Int32} (hx : x = 0 ∨ x = 1) : putZ h 46 7 9 x = some (wr h 46 9 x) := putZ_sh hx (sh_46 hs) rfl
theorem w_46_9 {h : pH} (hs : Sg h) (x : Int32) : rd (wr h 46 9 x) 46 9 = x := rd_wr_eq x (by rw [sh_46 hs]; rfl)
theorem g_46_10 {h : pH} (hs : Sg h) : getI h 46 7 10 = some (rd h 46 10) := getI_sh (sh_46 hs) rfl
theorem p_46_10 {h : pH} (hs : Sg h) (x : Int32) : putI h 46 7 10 x = some (wr h 46 10 x) := putI_sh x (sh_46 hs) rfl
theorem z_46_10 {h : pH} (hs : Sg h) {x : Int32} (hx : x = 0 ∨ x = 1) : putZ h 46 7 10 x = some (wr h 46 10 x) := putZ_sh hx (sh_46 hs) rfl
theorem w_46_10 {h : pH} (hs : Sg h) (x : Int32) : rd (wr h 46 10 x) 46 10 = x := rd_wr_eq x (by rw [sh_46 hs]; rfl)
theorem g_46_11 {h : pH} (hs : Sg h) : getI h 46 7 11 = some (rd h 46 11) := getI_sh (sh_46 hs) rfl
theorem p_46_11 {h : pH} (hs : Sg h) (x : Int32) : putI h 46 7 11 x = some (wr h 46 11 x) := putI_sh x (sh_46 hs) rfl
theorem z_46_11 {h : pH} (hs : Sg h) {x : Int32} (hx : x = 0 ∨ x = 1) : putZ h 46 7 11 x = some (wr h 46 11 x) := putZ_sh hx (sh_46 hs) rfl
theorem w_46_11 {h : pH} (hs : Sg h) (x : Int32) : rd (wr h 46 11 x) 46 11 = x := rd_wr_eq x (by rw [sh_46 hs]; rfl)
theorem sh_47 {h : pH} (hs : Sg h) : sh h 47 = some (1, 400, []) := (hs.1 47 (by decide) (by decide) (by decide) (by decide)).trans (by decide +kernel)
theorem n_47 {h : pH} (hs : Sg h) : lenA h 47 = some (Int32.ofNat 400) := lenA_sh (sh_47 hs) (by decide) (by decide)
theorem L_47 {h : pH} (hs : Sg h) {i : Nat} (hi : i < 400) : ldI h 47 (Int32.ofNat i) = some (rd h 47 i) := ldI_sh (sh_47 hs) hi (by decide)
theorem T_47 {h : pH} (hs : Sg h) {i : Nat} (hi : i < 400) (x : Int32) : stI h 47 (Int32.ofNat i) x = some (wr h 47 i x) := stI_sh x (sh_47 hs) hi (by decide)
theorem W_47 {h : pH} (hs : Sg h) (i : Nat) (x : Int32) : rd (wr h 47 i x) 47 i = x := rd_wr_eq x (by rw [sh_47 hs]; rfl)
theorem sh_48 {h : pH} (hs : Sg h) : sh h 48 = some (1, 400, []) := (hs.1 48 (by decide) (by decide) (by decide) (by decide)).trans (by decide +kernel)
theorem n_48 {h : pH} (hs : Sg h) : lenA h 48 = some (Int32.ofNat 400) := lenA_sh (sh_48 hs) (by decide) (by decide)
theorem L_48 {h : pH} (hs : Sg h) {i : Nat} (hi : i < 400) : ldI h 48 (Int32.ofNat i) = some (rd h 48 i) := ldI_sh (sh_48 hs) hi (by decide)
theorem T_48 {h : pH} (hs : Sg h) {i : Nat} (hi : i < 400) (x : Int32) : stI h 48 (Int32.ofNat i) x = some (wr h 48 i x) := stI_sh x (sh_48 hs) hi (by decide)
theorem W_48 {h : pH} (hs : Sg h) (i : Nat) (x : Int32) : rd (wr h 48 i x) 48 i = x := rd_wr_eq x (by rw [sh_48 hs]; rfl)
theorem sh_49 {h : pH} (hs : Sg h) : sh h 49 = some (1, 400, []) := (hs.1 49 (by decide) (by decide) (by decide) (by decide)).trans (by decide +kernel)
theorem n_49 {h : pH} (hs : Sg h) : lenA h 49 = some (Int32.ofNat 400) := lenA_sh (sh_49 hs) (by decide) (by decide)
theorem L_49 {h : pH} (hs : Sg h) {i : Nat} (hi : i < 400) : ldI h 49 (Int32.ofNat i) = some (rd h 49 i) := ldI_sh (sh_49 hs) hi (by decide)
theorem T_49 {h : pH} (hs : Sg h) {i : Nat} (hi : i < 400) (x : Int32) : stI h 49 (Int32.ofNat i) x = some (wr h 49 i x) := stI_sh x (sh_49 hs) hi (by decide)
theorem W_49 {h : pH} (hs : Sg h) (i : Nat) (x : Int32) : rd (wr h 49 i x) 49 i = x := rd_wr_eq x (by rw [sh_49 hs]; rfl)
def S50 : List (Option Nat) := [some 18, some 26]
theorem sh0_50 : sh h0 50 = some (4 * 0, 2, S50) := by decide +kernel
theorem sh_50 {h : pH} (hs : Sg h) : sh h 50 = some (4 * 0, 2, S50) := (hs.1 50 (by decide) (by decide) (by decide) (by decide)).trans sh0_50
theorem o_50 {h : pH} (hs : Sg h) : isO h 50 0 = true := isO_sh (by decide) (sh_50 hs)
theorem R_50_0 {h : pH} (hs : Sg h) : getR h 50 0 0 = some 17 := getR_sh (sh_50 hs) rfl
theorem R_50_1 {h : pH} (hs : Sg h) : getR h 50 0 1 = some 25 := getR_sh (sh_50 hs) rfl
def S51 : List (Option Nat) := [some 18, some 26, some 39, some 53, some 126, none, none, none, none]
theorem sh0_51 : sh h0 51 = some (4 * 9, 9, S51) := by decide +kernel
theorem sh_51 {h : pH} (hs : Sg h) : sh h 51 = some (4 * 9, 9, S51) := (hs.1 51 (by decide) (by decide) (by decide) (by decide)).trans sh0_51
theorem o_51 {h : pH} (hs : Sg h) : isO h 51 9 = true := isO_sh (by decide) (sh_51 hs)
theorem R_51_0 {h : pH} (hs : Sg h) : getR h 51 9 0 = some 17 := getR_sh (sh_51 hs) rfl
theorem R_51_1 {h : pH} (hs : Sg h) : getR h 51 9 1 = some 25 := getR_sh (sh_51 hs) rfl
theorem R_51_2 {h : pH} (hs : Sg h) : getR h 51 9 2 = some 38 := getR_sh (sh_51 hs) rfl
theorem R_51_3 {h : pH} (hs : Sg h) : getR h 51 9 3 = some 52 := getR_sh (sh_51 hs) rfl
theorem R_51_4 {h : pH} (hs : Sg h) : getR h 51 9 4 = some 125 := getR_sh (sh_51 hs) rfl
theorem g_51_5 {h : pH} (hs : Sg h) : getI h 51 9 5 = some (rd h 51 5) := getI_sh (sh_51 hs) rfl
theorem p_51_5 {h : pH} (hs : Sg h) (x : Int32) : putI h 51 9 5 x = some (wr h 51 5 x) := putI_sh x (sh_51 hs) rfl
theorem z_51_5 {h : pH} (hs : Sg h) {x : Int32} (hx : x = 0 ∨ x = 1) : putZ h 51 9 5 x = some (wr h 51 5 x) := putZ_sh hx (sh_51 hs) rfl
theorem w_51_5 {h : pH} (hs : Sg h) (x : Int32) : rd (wr h 51 5 x) 51 5 = x := rd_wr_eq x (by rw [sh_51 hs]; rfl)
theorem g_51_6 {h : pH} (hs : Sg h) : getI h 51 9 6 = some (rd h 51 6) := getI_sh (sh_51 hs) rfl
theorem p_51_6 {h : pH} (hs : Sg h) (x : Int32) : putI h 51 9 6 x = some (wr h 51 6 x) := putI_sh x (sh_51 hs) rfl
theorem z_51_6 {h : pH} (hs : Sg h) {x : Int32} (hx : x = 0 ∨ x = 1) : putZ h 51 9 6 x = some (wr h 51 6 x) := putZ_sh hx (sh_51 hs) rfl
theorem w_51_6 {h : pH} (hs : Sg h) (x : Int32) : rd (wr h 51 6 x) 51 6 = x := rd_wr_eq x (by rw [sh_51 hs]; rfl)
theorem g_51_7 {h : pH} (hs : Sg h) : getI h 51 9 7 = some (rd h 51 7) := getI_sh (sh_51 hs) rfl
theorem p_51_7 {h : pH} (hs : Sg h) (x : Int32) : putI h 51 9 7 x = some (wr h 51 7 x) := putI_sh x (sh_51 hs) rfl
theorem z_51_7 {h : pH} (hs : Sg h) {x : Int32} (hx : x = 0 ∨ x = 1) : putZ h 51 9 7 x = some (wr h 51 7 x) := putZ_sh hx (sh_51 hs) rfl
theorem w_51_7 {h : pH} (hs : Sg h) (x : Int32) : rd (wr h 51 7 x) 51 7 = x := rd_wr_eq x (by rw [sh_51 hs]; rfl)
theorem g_51_8 {h : pH} (hs : Sg h) : getI h 51 9 8 = some (rd h 51 8) := getI_sh (sh_51 hs) rfl
theorem p_51_8 {h : pH} (hs : Sg h) (x : Int32) : putI h 51 9 8 x = some (wr h 51 8 x) := putI_sh x (sh_51 hs) rfl
theorem z_51_8 {h : pH} (hs : Sg h) {x : Int32} (hx : x = 0 ∨ x = 1) : putZ h 51 9 8 x = some (wr h 51 8 x) := putZ_sh hx (sh_51 hs) rfl
theorem w_51_8 {h : pH} (hs : Sg h) (x : Int32) : rd (wr h 51 8 x) 51 8 = x := rd_wr_eq x (by rw [sh_51 hs]; rfl)
def S52 : List (Option Nat) := [some 54, some 55, none, none, some 56, none, some 57, some 90, some 123, some 124, some 125, none]
theorem sh0_52 : sh h0 52 = some (4 * 8, 12, S52) := by decide +kernel
theorem sh_52 {h : pH} (hs : Sg h) : sh h 52 = some (4 * 8, 12, S52) := (hs.1 52 (by decide) (by decide) (by decide) (by decide)).trans sh0_52
theorem o_52 {h : pH} (hs : Sg h) : isO h 52 8 = true := isO_sh (by decide) (sh_52 hs)
theorem R_52_0 {h : pH} (hs : Sg h) : getR h 52 8 0 = some 53 := getR_sh (sh_52 hs) rfl
theorem R_52_1 {h : pH} (hs : Sg h) : getR h 52 8 1 = some 54 := getR_sh (sh_52 hs) rfl
theorem g_52_2 {h : pH} (hs : Sg h) : getI h 52 8 2 = some (rd h 52 2) := getI_sh (sh_52 hs) rfl
theorem p_52_2 {h : pH} (hs : Sg h) (x : Int32) : putI h 52 8 2 x = some (wr h 52 2 x) := putI_sh x (sh_52 hs) rfl
theorem z_52_2 {h : pH} (hs : Sg h) {x : Int32} (hx : x = 0 ∨ x = 1) : putZ h 52 8 2 x = some (wr h 52 2 x) := putZ_sh hx (sh_52 hs) rfl
theorem w_52_2 {h : pH} (hs : Sg h) (x : Int32) : rd (wr h 52 2 x) 52 2 = x := rd_wr_eq x (by rw [sh_52 hs]; rfl)
theorem g_52_3 {h : pH} (hs : Sg h) : getI h 52 8 3 = some (rd h 52 3) := getI_sh (sh_52 hs) rfl
theorem p_52_3 {h : pH} (hs : Sg h) (x : Int32) : putI h 52 8 3 x = some (wr h 52 3 x) := putI_sh x (sh_52 hs) rfl
theorem z_52_3 {h : pH} (hs : Sg h) {x : Int32} (hx : x = 0 ∨ x = 1) : putZ h 52 8 3 x = some (wr h 52 3 x) := putZ_sh hx (sh_52 hs) rfl
theorem w_52_3 {h : pH} (hs : Sg h) (x : Int32) : rd (wr h 52 3 x) 52 3 = x := rd_wr_eq x (by rw [sh_52 hs]; rfl)
theorem R_52_4 {h : pH} (hs : Sg h) : getR h 52 8 4 = some 55 := getR_sh (sh_52 hs) rfl
theorem g_52_5 {h : pH} (hs : Sg h) : getI h 52 8 5 = some (rd h 52 5) := getI_sh (sh_52 hs) rfl
theorem p_52_5 {h : pH} (hs : Sg h) (x : Int32) : putI h 52 8 5 x = some (wr h 52 5 x) := putI_sh x (sh_52 hs) rfl
theorem z_52_5 {h : pH} (hs : Sg h) {x : Int32} (hx : x = 0 ∨ x = 1) : putZ h 52 8 5 x = some (wr h 52 5 x) := putZ_sh hx (sh_52 hs) rfl
theorem w_52_5 {h : pH} (hs : Sg h) (x : Int32) : rd (wr h 52 5 x) 52 5 = x := rd_wr_eq x (by rw [sh_52 hs]; rfl)
theorem R_52_6 {h : pH} (hs : Sg h) : getR h 52 8 6 = some 56 := getR_sh (sh_52 hs) rfl
theorem R_52_7 {h : pH} (hs : Sg h) : getR h 52 8 7 = some 89 := getR_sh (sh_52 hs) rfl
theorem R_52_8 {h : pH} (hs : Sg h) : getR h 52 8 8 = some 122 := getR_sh (sh_52 hs) rfl
theorem R_52_9 {h : pH} (hs : Sg h) : getR h 52 8 9 = some 123 := getR_sh (sh_52 hs) rfl
theorem R_52_10 {h : pH} (hs : Sg h) : getR h 52 8 10 = some 124 := getR_sh (sh_52 hs) rfl
theorem g_52_11 {h : pH} (hs : Sg h) : getI h 52 8 11 = some (rd h 52 11) := getI_sh (sh_52 hs) rfl
theorem p_52_11 {h : pH} (hs : Sg h) (x : Int32) : putI h 52 8 11 x = some (wr h 52 11 x) := putI_sh x (sh_52 hs) rfl
theorem z_52_11 {h : pH} (hs : Sg h) {x : Int32} (hx : x = 0 ∨ x = 1) : putZ h 52 8 11 x = some (wr h 52 11 x) := putZ_sh hx (sh_52 hs) rfl
theorem w_52_11 {h : pH} (hs : Sg h) (x : Int32) : rd (wr h 52 11 x) 52 11 = x := rd_wr_eq x (by rw [sh_52 hs]; rfl)
theorem sh_53 {h : pH} (hs : Sg h) : sh h 53 = some (1, 1000, []) := (hs.1 53 (by decide) (by decide) (by decide) (by decide)).trans (by decide +kernel)
theorem n_53 {h : pH} (hs : Sg h) : lenA h 53 = some (Int32.ofNat 1000) := lenA_sh (sh_53 hs) (by decide) (by decide)
theorem L_53 {h : pH} (hs : Sg h) {i : Nat} (hi : i < 1000) : ldI h 53 (Int32.ofNat i) = some (rd h 53 i) := ldI_sh (sh_53 hs) hi (by decide)
theorem T_53 {h : pH} (hs : Sg h) {i : Nat} (hi : i < 1000) (x : Int32) : stI h 53 (Int32.ofNat i) x = some (wr h 53 i x) := stI_sh x (sh_53 hs) hi (by decide)
theorem W_53 {h : pH} (hs : Sg h) (i : Nat) (x : Int32) : rd (wr h 53 i x) 53 i = x := rd_wr_eq x (by rw [sh_53 hs]; rfl)
theorem sh_54 {h : pH} (hs : Sg h) : sh h 54 = some (1, 1000, []) := (hs.1 54 (by decide) (by decide) (by decide) (by decide)).trans (by decide +kernel)
theorem n_54 {h : pH} (hs : Sg h) : lenA h 54 = some (Int32.ofNat 1000) := lenA_sh (sh_54 hs) (by decide) (by decide)
theorem L_54 {h : pH} (hs : Sg h) {i : Nat} (hi : i < 1000) : ldI h 54 (Int32.ofNat i) = some (rd h 54 i) := ldI_sh (sh_54 hs) hi (by decide)
theorem T_54 {h : pH} (hs : Sg h) {i : Nat} (hi : i < 1000) (x : Int32) : stI h 54 (Int32.ofNat i) x = some (wr h 54 i x) := stI_sh x (sh_54 hs) hi (by decide)
theorem W_54 {h : pH} (hs : Sg h) (i : Nat) (x : Int32) : rd (wr h 54 i x) 54 i = x := rd_wr_eq x (by rw [sh_54 hs]; rfl)
theorem sh_55 {h : pH} (hs : Sg h) : sh h 55 = some (1, 32, []) := (hs.1 55 (by decide) (by decide) (by decide) (by decide)).trans (by decide +kernel)
theorem n_55 {h : pH} (hs : Sg h) : lenA h 55 = some (Int32.ofNat 32) := lenA_sh (sh_55 hs) (by decide) (by decide)
theorem L_55 {h : pH} (hs : Sg h) {i : Nat} (hi : i < 32) : ldI h 55 (Int32.ofNat i) = some (rd h 55 i) := ldI_sh (sh_55 hs) hi (by decide)
theorem T_55 {h : pH} (hs : Sg h) {i : Nat} (hi : i < 32) (x : Int32) : stI h 55 (Int32.ofNat i) x = some (wr h 55 i x) := stI_sh x (sh_55 hs) hi (by decide)
theorem W_55 {h : pH} (hs : Sg h) (i : Nat) (x : Int32) : rd (wr h 55 i x) 55 i = x := rd_wr_eq x (by rw [sh_55 hs]; rfl)
theorem sh_57 {h : pH} (hs : Sg h) : sh h 57 = some (1, 32, []) := (hs.1 57 (by decide) (by decide) (by decide) (by decide)).trans (by decide +kernel)
theorem n_57 {h : pH} (hs : Sg h) : lenA h 57 = some (Int32.ofNat 32) := lenA_sh (sh_57 hs) (by decide) (by decide)
theorem L_57 {h : pH} (hs : Sg h) {i : Nat} (hi : i < 32) : ldI h 57 (Int32.ofNat i) = some (rd h 57 i) := ldI_sh (sh_57 hs) hi (by decide)
theorem T_57 {h : pH} (hs : Sg h) {i : Nat} (hi : i < 32) (x : Int32) : stI h 57 (Int32.ofNat i) x = some (wr h 57 i x) := stI_sh x (sh_57 hs) hi (by decide)
theorem W_57 {h : pH} (hs : Sg h) (i : Nat) (x : Int32) : rd (wr h 57 i x) 57 i = x := rd_wr_eq x (by rw [sh_57 hs]; rfl)
theorem sh_58 {h : pH} (hs : Sg h) : sh h 58 = some (1, 32, []) := (hs.1 58 (by decide) (by decide) (by decide) (by decide)).trans (by decide +kernel)
theorem n_58 {h : pH} (hs : Sg h) : lenA h 58 = some (Int32.ofNat 32) := lenA_sh (sh_58 hs) (by decide) (by decide)
theorem L_58 {h : pH} (hs : Sg h) {i : Nat} (hi : i < 32) : ldI h 58 (Int32.ofNat i) = some (rd h 58 i) := ldI_sh (sh_58 hs) hi (by decide)
theorem T_58 {h : pH} (hs : Sg h) {i : Nat} (hi : i < 32) (x : Int32) : stI h 58 (Int32.ofNat i) x = some (wr h 58 i x) := stI_sh x (sh_58 hs) hi (by decide)
theorem W_58 {h : pH} (hs : Sg h) (i : Nat) (x : Int32) : rd (wr h 58 i x) 58 i = x := rd_wr_eq x (by rw [sh_58 hs]; rfl)
theorem sh_59 {h : pH} (hs : Sg h) : sh h 59 = some (1, 32, []) := (hs.1 59 (by decide) (by decide) (by decide) (by decide)).trans (by decide +kernel)
theorem n_59 {h : pH} (hs : Sg h) : lenA h 59 = some (Int32.ofNat 32) := lenA_sh (sh_59 hs) (by decide) (by decide)
theorem L_59 {h : pH} (hs : Sg h) {i : Nat} (hi : i < 32) : ldI h 59 (Int32.ofNat i) = some (rd h 59 i) := ldI_sh (sh_59 hs) hi (by decide)
theorem T_59 {h : pH} (hs : Sg h) {i : Nat} (hi : i < 32) (x : Int32) : stI h 59 (Int32.ofNat i) x = some (wr h 59 i x) := stI_sh x (sh_59 hs) hi (by decide)
theorem W_59 {h : pH} (hs : Sg h) (i : Nat) (x : Int32) : rd (wr h 59 i x) 59 i = x := rd_wr_eq x (by rw [sh_59 hs]; rfl)
theorem sh_60 {h : pH} (hs : Sg h) : sh h 60 = some (1, 32, []) := (hs.1 60 (by decide) (by decide) (by decide) (by decide)).trans (by decide +kernel)
theorem n_60 {h : pH} (hs : Sg h) : lenA h 60 = some (Int32.ofNat 32) := lenA_sh (sh_60 hs) (by decide) (by decide)
theorem L_60 {h : pH} (hs : Sg h) {i : Nat} (hi : i < 32) : ldI h 60 (Int32.ofNat i) = some (rd h 60 i) := ldI_sh (sh_60 hs) hi (by decide)
theorem T_60 {h : pH} (hs : Sg h) {i : Nat} (hi : i < 32) (x : Int32) : stI h 60 (Int32.ofNat i) x = some (wr h 60 i x) := stI_sh x (sh_60 hs) hi (by decide)
theorem W_60 {h : pH} (hs : Sg h) (i : Nat) (x : Int32) : rd (wr h 60 i x) 60 i = x := rd_wr_eq x (by rw [sh_60 hs]; rfl)
theorem sh_61 {h : pH} (hs : Sg h) : sh h 61 = some (1, 32, []) := (hs.1 61 (by decide) (by decide) (by decide) (by decide)).trans (by decide +kernel)
theorem n_61 {h : pH} (hs : Sg h) : lenA h 61 = some (Int32.ofNat 32) := lenA_sh (sh_61 hs) (by decide) (by decide)
theorem L_61 {h : pH} (hs : Sg h) {i : Nat} (hi : i < 32) : ldI h 61 (Int32.ofNat i) = some (rd h 61 i) := ldI_sh (sh_61 hs) hi (by decide)
theorem T_61 {h : pH} (hs : Sg h) {i : Nat} (hi : i < 32) (x : Int32) : stI h 61 (Int32.ofNat i) x = some (wr h 61 i x) := stI_sh x (sh_61 hs) hi (by decide)
theorem W_61 {h : pH} (hs : Sg h) (i : Nat) (x : Int32) : rd (wr h 61 i x) 61 i = x := rd_wr_eq x (by rw [sh_61 hs]; rfl)
theorem sh_62 {h : pH} (hs : Sg h) : sh h 62 = some (1, 32, []) := (hs.1 62 (by decide) (by decide) (by decide) (by decide)).trans (by decide +kernel)
theorem n_62 {h : pH} (hs : Sg h) : lenA h 62 = some (Int32.ofNat 32) := lenA_sh (sh_62 hs) (by decide) (by decide)
theorem L_62 {h : pH} (hs : Sg h) {i : Nat} (hi : i < 32) : ldI h 62 (Int32.ofNat i) = some (rd h 62 i) := ldI_sh (sh_62 hs) hi (by decide)
theorem T_62 {h : pH} (hs : Sg h) {i : Nat} (hi : i < 32) (x : Int32) : stI h 62 (Int32.ofNat i) x = some (wr h 62 i x) := stI_sh x (sh_62 hs) hi (by decide)
theorem W_62 {h : pH} (hs : Sg h) (i : Nat) (x : Int32) : rd (wr h 62 i x) 62 i = x := rd_wr_eq x (by rw [sh_62 hs]; rfl)
theorem sh_63 {h : pH} (hs : Sg h) : sh h 63 = some (1, 32, []) := (hs.1 63 (by decide) (by decide) (by decide) (by decide)).trans (by decide +kernel)
theorem n_63 {h : pH} (hs : Sg h) : lenA h 63 = some (Int32.ofNat 32) := lenA_sh (sh_63 hs) (by decide) (by decide)
theorem L_63 {h : pH} (hs : Sg h) {i : Nat} (hi : i < 32) : ldI h 63 (Int32.ofNat i) = some (rd h 63 i) := ldI_sh (sh_63 hs) hi (by decide)
theorem T_63 {h : pH} (hs : Sg h) {i : Nat} (hi : i < 32) (x : Int32) : stI h 63 (Int32.ofNat i) x = some (wr h 63 i x) := stI_sh x (sh_63 hs) hi (by decide)
theorem W_63 {h : pH} (hs : Sg h) (i : Nat) (x : Int32) : rd (wr h 63 i x) 63 i = x := rd_wr_eq x (by rw [sh_63 hs]; rfl)
theorem sh_64 {h : pH} (hs : Sg h) : sh h 64 = some (1, 32, []) := (hs.1 64 (by decide) (by decide) (by decide) (by decide)).trans (by decide +kernel)
theorem n_64 {h : pH} (hs : Sg h) : lenA h 64 = some (Int32.ofNat 32) := lenA_sh (sh_64 hs) (by decide) (by decide)
theorem L_64 {h : pH} (hs : Sg h) {i : Nat} (hi : i < 32) : ldI h 64 (Int32.ofNat i) = some (rd h 64 i) := ldI_sh (sh_64 hs) hi (by decide)
theorem T_64 {h : pH} (hs : Sg h) {i : Nat} (hi : i < 32) (x : Int32) : stI h 64 (Int32.ofNat i) x = some (wr h 64 i x) := stI_sh x (sh_64 hs) hi (by decide)
theorem W_64 {h : pH} (hs : Sg h) (i : Nat) (x : Int32) : rd (wr h 64 i x) 64 i = x := rd_wr_eq x (by rw [sh_64 hs]; rfl)
theorem sh_65 {h : pH} (hs : Sg h) : sh h 65 = some (1, 32, []) := (hs.1 65 (by decide) (by decide) (by decide) (by decide)).trans (by decide +kernel)
theorem n_65 {h : pH} (hs : Sg h) : lenA h 65 = some (Int32.ofNat 32) := lenA_sh (sh_65 hs) (by decide) (by decide)
theorem L_65 {h : pH} (hs : Sg h) {i : Nat} (hi : i < 32) : ldI h 65 (Int32.ofNat i) = some (rd h 65 i) := ldI_sh (sh_65 hs) hi (by decide)
theorem T_65 {h : pH} (hs : Sg h) {i : Nat} (hi : i < 32) (x : Int32) : stI h 65 (Int32.ofNat i) x = some (wr h 65 i x) := stI_sh x (sh_65 hs) hi (by decide)
theorem W_65 {h : pH} (hs : Sg h) (i : Nat) (x : Int32) : rd (wr h 65 i x) 65 i = x := rd_wr_eq x (by rw [sh_65 hs]; rfl)
theorem sh_66 {h : pH} (hs : Sg h) : sh h 66 = some (1, 32, []) := (hs.1 66 (by decide) (by decide) (by decide) (by decide)).trans (by decide +kernel)
theorem n_66 {h : pH} (hs : Sg h) : lenA h 66 = some (Int32.ofNat 32) := lenA_sh (sh_66 hs) (by decide) (by decide)
theorem L_66 {h : pH} (hs : Sg h) {i : Nat} (hi : i < 32) : ldI h 66 (Int32.ofNat i) = some (rd h 66 i) := ldI_sh (sh_66 hs) hi (by decide)
theorem T_66 {h : pH} (hs : Sg h) {i : Nat} (hi : i < 32) (x : Int32) : stI h 66 (Int32.ofNat i) x = some (wr h 66 i x) := stI_sh x (sh_66 hs) hi (by decide)
theorem W_66 {h : pH} (hs : Sg h) (i : Nat) (x : Int32) : rd (wr h 66 i x) 66 i = x := rd_wr_eq x (by rw [sh_66 hs]; rfl)
theorem sh_67 {h : pH} (hs : Sg h) : sh h 67 = some (1, 32, []) := (hs.1 67 (by decide) (by decide) (by decide) (by decide)).trans (by decide +kernel)
theorem n_67 {h : pH} (hs : Sg h) : lenA h 67 = some (Int32.ofNat 32) := lenA_sh (sh_67 hs) (by decide) (by decide)
theorem L_67 {h : pH} (hs : Sg h) {i : Nat} (hi : i < 32) : ldI h 67 (Int32.ofNat i) = some (rd h 67 i) := ldI_sh (sh_67 hs) hi (by decide)
theorem T_67 {h : pH} (hs : Sg h) {i : Nat} (hi : i < 32) (x : Int32) : stI h 67 (Int32.ofNat i) x = some (wr h 67 i x) := stI_sh x (sh_67 hs) hi (by decide)
theorem W_67 {h : pH} (hs : Sg h) (i : Nat) (x : Int32) : rd (wr h 67 i x) 67 i = x := rd_wr_eq x (by rw [sh_67 hs]; rfl)
theorem sh_68 {h : pH} (hs : Sg h) : sh h 68 = some (1, 32, []) := (hs.1 68 (by decide) (by decide) (by decide) (by decide)).trans (by decide +kernel)
theorem n_68 {h : pH} (hs : Sg h) : lenA h 68 = some (Int32.ofNat 32) := lenA_sh (sh_68 hs) (by decide) (by decide)
theorem L_68 {h : pH} (hs : Sg h) {i : Nat} (hi : i < 32) : ldI h 68 (Int32.ofNat i) = some (rd h 68 i) := ldI_sh (sh_68 hs) hi (by decide)
theorem T_68 {h : pH} (hs : Sg h) {i : Nat} (hi : i < 32) (x : Int32) : stI h 68 (Int32.ofNat i) x = some (wr h 68 i x) := stI_sh x (sh_68 hs) hi (by decide)
theorem W_68 {h : pH} (hs : Sg h) (i : Nat) (x : Int32) : rd (wr h 68 i x) 68 i = x := rd_wr_eq x (by rw [sh_68 hs]; rfl)
theorem sh_69 {h : pH} (hs : Sg h) : sh h 69 = some (1, 32, []) := (hs.1 69 (by decide) (by decide) (by decide) (by decide)).trans (by decide +kernel)
theorem n_69 {h : pH} (hs : Sg h) : lenA h 69 = some (Int32.ofNat 32) := lenA_sh (sh_69 hs) (by decide) (by decide)
theorem L_69 {h : pH} (hs : Sg h) {i : Nat} (hi : i < 32) : ldI h 69 (Int32.ofNat i) = some (rd h 69 i) := ldI_sh (sh_69 hs) hi (by decide)
theorem T_69 {h : pH} (hs : Sg h) {i : Nat} (hi : i < 32) (x : Int32) : stI h 69 (Int32.ofNat i) x = some (wr h 69 i x) := stI_sh x (sh_69 hs) hi (by decide)
theorem W_69 {h : pH} (hs : Sg h) (i : Nat) (x : Int32) : rd (wr h 69 i x) 69 i = x := rd_wr_eq x (by rw [sh_69 hs]; rfl)
theorem sh_70 {h : pH} (hs : Sg h) : sh h 70 = some (1, 32, []) := (hs.1 70 (by decide) (by decide) (by decide) (by decide)).trans (by decide +kernel)
theorem n_70 {h : pH} (hs : Sg h) : lenA h 70 = some (Int32.ofNat 32) := lenA_sh (sh_70 hs) (by decide) (by decide)
theorem L_70 {h : pH} (hs : Sg h) {i : Nat} (hi : i < 32) : ldI h 70 (Int32.ofNat i) = some (rd h 70 i) := ldI_sh (sh_70 hs) hi (by decide)
theorem T_70 {h : pH} (hs : Sg h) {i : Nat} (hi : i < 32) (x : Int32) : stI h 70 (Int32.ofNat i) x = some (wr h 70 i x) := stI_sh x (sh_70 hs) hi (by decide)
theorem W_70 {h : pH} (hs : Sg h) (i : Nat) (x : Int32) : rd (wr h 70 i x) 70 i = x := rd_wr_eq x (by rw [sh_70 hs]; rfl)
theorem sh_71 {h : pH} (hs : Sg h) : sh h 71 = some (1, 32, []) := (hs.1 71 (by decide) (by decide) (by decide) (by decide)).trans (by decide +kernel)
theorem n_71 {h : pH} (hs : Sg h) : lenA h 71 = some (Int32.ofNat 32) := lenA_sh (sh_71 hs) (by decide) (by decide)
theorem L_71 {h : pH} (hs : Sg h) {i : Nat} (hi : i < 32) : ldI h 71 (Int32.ofNat i) = some (rd h 71 i) := ldI_sh (sh_71 hs) hi (by decide)
theorem T_71 {h : pH} (hs : Sg h) {i : Nat} (hi : i < 32) (x : Int32) : stI h 71 (Int32.ofNat i) x = some (wr h 71 i x) := stI_sh x (sh_71 hs) hi (by decide)
theorem W_71 {h : pH} (hs : Sg h) (i : Nat) (x : Int32) : rd (wr h 71 i x) 71 i = x := rd_wr_eq x (by rw [sh_71 hs]; rfl)
theorem sh_72 {h : pH} (hs : Sg h) : sh h 72 = some (1, 32, []) := (hs.1 72 (by decide) (by decide) (by decide) (by decide)).trans (by decide +kernel)
theorem n_72 {h : pH} (hs : Sg h) : lenA h 72 = some (Int32.ofNat 32) := lenA_sh (sh_72 hs) (by decide) (by decide)
theorem L_72 {h : pH} (hs : Sg h) {i : Nat} (hi : i < 32) : ldI h 72 (Int32.ofNat i) = some (rd h 72 i) := ldI_sh (sh_72 hs) hi (by decide)
theorem T_72 {h : pH} (hs : Sg h) {i : Nat} (hi : i < 32) (x : Int32) : stI h 72 (Int32.ofNat i) x = some (wr h 72 i x) := stI_sh x (sh_72 hs) hi (by decide)
theorem W_72 {h : pH} (hs : Sg h) (i : Nat) (x : Int32) : rd (wr h 72 i x) 72 i = x := rd_wr_eq x (by rw [sh_72 hs]; rfl)
theorem sh_73 {h : pH} (hs : Sg h) : sh h 73 = some (1, 32, []) := (hs.1 73 (by decide) (by decide) (by decide) (by decide)).trans (by decide +kernel)
theorem n_73 {h : pH} (hs : Sg h) : lenA h 73 = some (Int32.ofNat 32) := lenA_sh (sh_73 hs) (by decide) (by decide)
theorem L_73 {h : pH} (hs : Sg h) {i : Nat} (hi : i < 32) : ldI h 73 (Int32.ofNat i) = some (rd h 73 i) := ldI_sh (sh_73 hs) hi (by decide)
theorem T_73 {h : pH} (hs : Sg h) {i : Nat} (hi : i < 32) (x : Int32) : stI h 73 (Int32.ofNat i) x = some (wr h 73 i x) := stI_sh x (sh_73 hs) hi (by decide)
theorem W_73 {h : pH} (hs : Sg h) (i : Nat) (x : Int32) : rd (wr h 73 i x) 73 i = x := rd_wr_eq x (by rw [sh_73 hs]; rfl)
theorem sh_74 {h : pH} (hs : Sg h) : sh h 74 = some (1, 32, []) := (hs.1 74 (by decide) (by decide) (by decide) (by decide)).trans (by decide +kernel)
theorem n_74 {h : pH} (hs : Sg h) : lenA h 74 = some (Int32.ofNat 32) := lenA_sh (sh_74 hs) (by decide) (by decide)
theorem L_74 {h : pH} (hs : Sg h) {i : Nat} (hi : i < 32) : ldI h 74 (Int32.ofNat i) = some (rd h 74 i) := ldI_sh (sh_74 hs) hi (by decide)
theorem T_74 {h : pH} (hs : Sg h) {i : Nat} (hi : i < 32) (x : Int32) : stI h 74 (Int32.ofNat i) x = some (wr h 74 i x) := stI_sh x (sh_74 hs) hi (by decide)
theorem W_74 {h : pH} (hs : Sg h) (i : Nat) (x : Int32) : rd (wr h 74 i x) 74 i = x := rd_wr_eq x (by rw [sh_74 hs]; rfl)
theorem sh_75 {h : pH} (hs : Sg h) : sh h 75 = some (1, 32, []) := (hs.1 75 (by decide) (by decide) (by decide) (by decide)).trans (by decide +kernel)
theorem n_75 {h : pH} (hs : Sg h) : lenA h 75 = some (Int32.ofNat 32) := lenA_sh (sh_75 hs) (by decide) (by decide)
theorem L_75 {h : pH} (hs : Sg h) {i : Nat} (hi : i < 32) : ldI h 75 (Int32.ofNat i) = some (rd h 75 i) := ldI_sh (sh_75 hs) hi (by decide)
theorem T_75 {h : pH} (hs : Sg h) {i : Nat} (hi : i < 32) (x : Int32) : stI h 75 (Int32.ofNat i) x = some (wr h 75 i x) := stI_sh x (sh_75 hs) hi (by decide)
theorem W_75 {h : pH} (hs : Sg h) (i : Nat) (x : Int32) : rd (wr h 75 i x) 75 i = x := rd_wr_eq x (by rw [sh_75 hs]; rfl)
theorem sh_76 {h : pH} (hs : Sg h) : sh h 76 = some (1, 32, []) := (hs.1 76 (by decide) (by decide) (by decide) (by decide)).trans (by decide +kernel)
theorem n_76 {h : pH} (hs : Sg h) : lenA h 76 = some (Int32.ofNat 32) := lenA_sh (sh_76 hs) (by decide) (by decide)
theorem L_76 {h : pH} (hs : Sg h) {i : Nat} (hi : i < 32) : ldI h 76 (Int32.ofNat i) = some (rd h 76 i) := ldI_sh (sh_76 hs) hi (by decide)
theorem T_76 {h : pH} (hs : Sg h) {i : Nat} (hi : i < 32) (x : Int32) : stI h 76 (Int32.ofNat i) x = some (wr h 76 i x) := stI_sh x (sh_76 hs) hi (by decide)
theorem W_76 {h : pH} (hs : Sg h) (i : Nat) (x : Int32) : rd (wr h 76 i x) 76 i = x := rd_wr_eq x (by rw [sh_76 hs]; rfl)
theorem sh_77 {h : pH} (hs : Sg h) : sh h 77 = some (1, 32, []) := (hs.1 77 (by decide) (by decide) (by decide) (by decide)).trans (by decide +kernel)
theorem n_77 {h : pH} (hs : Sg h) : lenA h 77 = some (Int32.ofNat 32) := lenA_sh (sh_77 hs) (by decide) (by decide)
theorem L_77 {h : pH} (hs : Sg h) {i : Nat} (hi : i < 32) : ldI h 77 (Int32.ofNat i) = some (rd h 77 i) := ldI_sh (sh_77 hs) hi (by decide)
theorem T_77 {h : pH} (hs : Sg h) {i : Nat} (hi : i < 32) (x : Int32) : stI h 77 (Int32.ofNat i) x = some (wr h 77 i x) := stI_sh x (sh_77 hs) hi (by decide)
theorem W_77 {h : pH} (hs : Sg h) (i : Nat) (x : Int32) : rd (wr h 77 i x) 77 i = x := rd_wr_eq x (by rw [sh_77 hs]; rfl)
theorem sh_78 {h : pH} (hs : Sg h) : sh h 78 = some (1, 32, []) := (hs.1 78 (by decide) (by decide) (by decide) (by decide)).trans (by decide +kernel)
theorem n_78 {h : pH} (hs : Sg h) : lenA h 78 = some (Int32.ofNat 32) := lenA_sh (sh_78 hs) (by decide) (by decide)
theorem L_78 {h : pH} (hs : Sg h) {i : Nat} (hi : i < 32) : ldI h 78 (Int32.ofNat i) = some (rd h 78 i) := ldI_sh (sh_78 hs) hi (by decide)
theorem T_78 {h : pH} (hs : Sg h) {i : Nat} (hi : i < 32) (x : Int32) : stI h 78 (Int32.ofNat i) x = some (wr h 78 i x) := stI_sh x (sh_78 hs) hi (by decide)
theorem W_78 {h : pH} (hs : Sg h) (i : Nat) (x : Int32) : rd (wr h 78 i x) 78 i = x := rd_wr_eq x (by rw [sh_78 hs]; rfl)
theorem sh_79 {h : pH} (hs : Sg h) : sh h 79 = some (1, 32, []) := (hs.1 79 (by decide) (by decide) (by decide) (by decide)).trans (by decide +kernel)
theorem n_79 {h : pH} (hs : Sg h) : lenA h 79 = some (Int32.ofNat 32) := lenA_sh (sh_79 hs) (by decide) (by decide)
theorem L_79 {h : pH} (hs : Sg h) {i : Nat} (hi : i < 32) : ldI h 79 (Int32.ofNat i) = some (rd h 79 i) := ldI_sh (sh_79 hs) hi (by decide)
theorem T_79 {h : pH} (hs : Sg h) {i : Nat} (hi : i < 32) (x : Int32) : stI h 79 (Int32.ofNat i) x = some (wr h 79 i x) := stI_sh x (sh_79 hs) hi (by decide)
theorem W_79 {h : pH} (hs : Sg h) (i : Nat) (x : Int32) : rd (wr h 79 i x) 79 i = x := rd_wr_eq x (by rw [sh_79 hs]; rfl)
theorem sh_80 {h : pH} (hs : Sg h) : sh h 80 = some (1, 32, []) := (hs.1 80 (by decide) (by decide) (by decide) (by decide)).trans (by decide +kernel)
theorem n_80 {h : pH} (hs : Sg h) : lenA h 80 = some (Int32.ofNat 32) := lenA_sh (sh_80 hs) (by decide) (by decide)
theorem L_80 {h : pH} (hs : Sg h) {i : Nat} (hi : i < 32) : ldI h 80 (Int32.ofNat i) = some (rd h 80 i) := ldI_sh (sh_80 hs) hi (by decide)
theorem T_80 {h : pH} (hs : Sg h) {i : Nat} (hi : i < 32) (x : Int32) : stI h 80 (Int32.ofNat i) x = some (wr h 80 i x) := stI_sh x (sh_80 hs) hi (by decide)
theorem W_80 {h : pH} (hs : Sg h) (i : Nat) (x : Int32) : rd (wr h 80 i x) 80 i = x := rd_wr_eq x (by rw [sh_80 hs]; rfl)
theorem sh_81 {h : pH} (hs : Sg h) : sh h 81 = some (1, 32, []) := (hs.1 81 (by decide) (by decide) (by decide) (by decide)).trans (by decide +kernel)
theorem n_81 {h : pH} (hs : Sg h) : lenA h 81 = some (Int32.ofNat 32) := lenA_sh (sh_81 hs) (by decide) (by decide)
theorem L_81 {h : pH} (hs : Sg h) {i : Nat} (hi : i < 32) : ldI h 81 (Int32.ofNat i) = some (rd h 81 i) := ldI_sh (sh_81 hs) hi (by decide)
theorem T_81 {h : pH} (hs : Sg h) {i : Nat} (hi : i < 32) (x : Int32) : stI h 81 (Int32.ofNat i) x = some (wr h 81 i x) := stI_sh x (sh_81 hs) hi (by decide)
theorem W_81 {h : pH} (hs : Sg h) (i : Nat) (x : Int32) : rd (wr h 81 i x) 81 i = x := rd_wr_eq x (by rw [sh_81 hs]; rfl)
theorem sh_82 {h : pH} (hs : Sg h) : sh h 82 = some (1, 32, []) := (hs.1 82 (by decide) (by decide) (by decide) (by decide)).trans (by decide +kernel)
theorem n_82 {h : pH} (hs : Sg h) : lenA h 82 = some (Int32.ofNat 32) := lenA_sh (sh_82 hs) (by decide) (by decide)
theorem L_82 {h : pH} (hs : Sg h) {i : Nat} (hi : i < 32) : ldI h 82 (Int32.ofNat i) = some (rd h 82 i) := ldI_sh (sh_82 hs) hi (by decide)
theorem T_82 {h : pH} (hs : Sg h) {i : Nat} (hi : i < 32) (x : Int32) : stI h 82 (Int32.ofNat i) x = some (wr h 82 i x) := stI_sh x (sh_82 hs) hi (by decide)
theorem W_82 {h : pH} (hs : Sg h) (i : Nat) (x : Int32) : rd (wr h 82 i x) 82 i = x := rd_wr_eq x (by rw [sh_82 hs]; rfl)
theorem sh_83 {h : pH} (hs : Sg h) : sh h 83 = some (1, 32, []) := (hs.1 83 (by decide) (by decide) (by decide) (by decide)).trans (by decide +kernel)
theorem n_83 {h : pH} (hs : Sg h) : lenA h 83 = some (Int32.ofNat 32) := lenA_sh (sh_83 hs) (by decide) (by decide)
theorem L_83 {h : pH} (hs : Sg h) {i : Nat} (hi : i < 32) : ldI h 83 (Int32.ofNat i) = some (rd h 83 i) := ldI_sh (sh_83 hs) hi (by decide)
theorem T_83 {h : pH} (hs : Sg h) {i : Nat} (hi : i < 32) (x : Int32) : stI h 83 (Int32.ofNat i) x = some (wr h 83 i x) := stI_sh x (sh_83 hs) hi (by decide)
theorem W_83 {h : pH} (hs : Sg h) (i : Nat) (x : Int32) : rd (wr h 83 i x) 83 i = x := rd_wr_eq x (by rw [sh_83 hs]; rfl)
theorem sh_84 {h : pH} (hs : Sg h) : sh h 84 = some (1, 32, []) := (hs.1 84 (by decide) (by decide) (by decide) (by decide)).trans (by decide +kernel)
theorem n_84 {h : pH} (hs : Sg h) : lenA h 84 = some (Int32.ofNat 32) := lenA_sh (sh_84 hs) (by decide) (by decide)
theorem L_84 {h : pH} (hs : Sg h) {i : Nat} (hi : i < 32) : ldI h 84 (Int32.ofNat i) = some (rd h 84 i) := ldI_sh (sh_84 hs) hi (by decide)
theorem T_84 {h : pH} (hs : Sg h) {i : Nat} (hi : i < 32) (x : Int32) : stI h 84 (Int32.ofNat i) x = some (wr h 84 i x) := stI_sh x (sh_84 hs) hi (by decide)
theorem W_84 {h : pH} (hs : Sg h) (i : Nat) (x : Int32) : rd (wr h 84 i x) 84 i = x := rd_wr_eq x (by rw [sh_84 hs]; rfl)
theorem sh_85 {h : pH} (hs : Sg h) : sh h 85 = some (1, 32, []) := (hs.1 85 (by decide) (by decide) (by decide) (by decide)).trans (by decide +kernel)
theorem n_85 {h : pH} (hs : Sg h) : lenA h 85 = some (Int32.ofNat 32) := lenA_sh (sh_85 hs) (by decide) (by decide)
theorem L_85 {h : pH} (hs : Sg h) {i : Nat} (hi : i < 32) : ldI h 85 (Int32.ofNat i) = some (rd h 85 i) := ldI_sh (sh_85 hs) hi (by decide)
theorem T_85 {h : pH} (hs : Sg h) {i : Nat} (hi : i < 32) (x : Int32) : stI h 85 (Int32.ofNat i) x = some (wr h 85 i x) := stI_sh x (sh_85 hs) hi (by decide)
theorem W_85 {h : pH} (hs : Sg h) (i : Nat) (x : Int32) : rd (wr h 85 i x) 85 i = x := rd_wr_eq x (by rw [sh_85 hs]; rfl)
theorem sh_86 {h : pH} (hs : Sg h) : sh h 86 = some (1, 32, []) := (hs.1 86 (by decide) (by decide) (by decide) (by decide)).trans (by decide +kernel)
theorem n_86 {h : pH} (hs : Sg h) : lenA h 86 = some (Int32.ofNat 32) := lenA_sh (sh_86 hs) (by decide) (by decide)
theorem L_86 {h : pH} (hs : Sg h) {i : Nat} (hi : i < 32) : ldI h 86 (Int32.ofNat i) = some (rd h 86 i) := ldI_sh (sh_86 hs) hi (by decide)
theorem T_86 {h : pH} (hs : Sg h) {i : Nat} (hi : i < 32) (x : Int32) : stI h 86 (Int32.ofNat i) x = some (wr h 86 i x) := stI_sh x (sh_86 hs) hi (by decide)
theorem W_86 {h : pH} (hs : Sg h) (i : Nat) (x : Int32) : rd (wr h 86 i x) 86 i = x := rd_wr_eq x (by rw [sh_86 hs]; rfl)
theorem sh_87 {h : pH} (hs : Sg h) : sh h 87 = some (1, 32, []) := (hs.1 87 (by decide) (by decide) (by decide) (by decide)).trans (by decide +kernel)
theorem n_87 {h : pH} (hs : Sg h) : lenA h 87 = some (Int32.ofNat 32) := lenA_sh (sh_87 hs) (by decide) (by decide)
theorem L_87 {h : pH} (hs : Sg h) {i : Nat} (hi : i < 32) : ldI h 87 (Int32.ofNat i) = some (rd h 87 i) := ldI_sh (sh_87 hs) hi (by decide)
theorem T_87 {h : pH} (hs : Sg h) {i : Nat} (hi : i < 32) (x : Int32) : stI h 87 (Int32.ofNat i) x = some (wr h 87 i x) := stI_sh x (sh_87 hs) hi (by decide)
theorem W_87 {h : pH} (hs : Sg h) (i : Nat) (x : Int32) : rd (wr h 87 i x) 87 i = x := rd_wr_eq x (by rw [sh_87 hs]; rfl)
theorem sh_88 {h : pH} (hs : Sg h) : sh h 88 = some (1, 32, []) := (hs.1 88 (by decide) (by decide) (by decide) (by decide)).trans (by decide +kernel)
theorem n_88 {h : pH} (hs : Sg h) : lenA h 88 = some (Int32.ofNat 32) := lenA_sh (sh_88 hs) (by decide) (by decide)
theorem L_88 {h : pH} (hs : Sg h) {i : Nat} (hi : i < 32) : ldI h 88 (Int32.ofNat i) = some (rd h 88 i) := ldI_sh (sh_88 hs) hi (by decide)
theorem T_88 {h : pH} (hs : Sg h) {i : Nat} (hi : i < 32) (x : Int32) : stI h 88 (Int32.ofNat i) x = some (wr h 88 i x) := stI_sh x (sh_88 hs) hi (by decide)
theorem W_88 {h : pH} (hs : Sg h) (i : Nat) (x : Int32) : rd (wr h 88 i x) 88 i = x := rd_wr_eq x (by rw [sh_88 hs]; rfl)
theorem sh_90 {h : pH} (hs : Sg h) : sh h 90 = some (1, 32, []) := (hs.1 90 (by decide) (by decide) (by decide) (by decide)).trans (by decide +kernel)
theorem n_90 {h : pH} (hs : Sg h) : lenA h 90 = some (Int32.ofNat 32) := lenA_sh (sh_90 hs) (by decide) (by decide)
theorem L_90 {h : pH} (hs : Sg h) {i : Nat} (hi : i < 32) : ldI h 90 (Int32.ofNat i) = some (rd h 90 i) := ldI_sh (sh_90 hs) hi (by decide)
theorem T_90 {h : pH} (hs : Sg h) {i : Nat} (hi : i < 32) (x : Int32) : stI h 90 (Int32.ofNat i) x = some (wr h 90 i x) := stI_sh x (sh_90 hs) hi (by decide)
theorem W_90 {h : pH} (hs : Sg h) (i : Nat) (x : Int32) : rd (wr h 90 i x) 90 i = x := rd_wr_eq x (by rw [sh_90 hs]; rfl)
theorem sh_91 {h : pH} (hs : Sg h) : sh h 91 = some (1, 32, []) := (hs.1 91 (by decide) (by decide) (by decide) (by decide)).trans (by decide +kernel)
theorem n_91 {h : pH} (hs : Sg h) : lenA h 91 = some (Int32.ofNat 32) := lenA_sh (sh_91 hs) (by decide) (by decide)
theorem L_91 {h : pH} (hs : Sg h) {i : Nat} (hi : i < 32) : ldI h 91 (Int32.ofNat i) = some (rd h 91 i) := ldI_sh (sh_91 hs) hi (by decide)
theorem T_91 {h : pH} (hs : Sg h) {i : Nat} (hi : i < 32) (x : Int32) : stI h 91 (Int32.ofNat i) x = some (wr h 91 i x) := stI_sh x (sh_91 hs) hi (by decide)
theorem W_91 {h : pH} (hs : Sg h) (i : Nat) (x : Int32) : rd (wr h 91 i x) 91 i = x := rd_wr_eq x (by rw [sh_91 hs]; rfl)
theorem sh_92 {h : pH} (hs : Sg h) : sh h 92 = some (1, 32, []) := (hs.1 92 (by decide) (by decide) (by decide) (by decide)).trans (by decide +kernel)
theorem n_92 {h : pH} (hs : Sg h) : lenA h 92 = some (Int32.ofNat 32) := lenA_sh (sh_92 hs) (by decide) (by decide)
theorem L_92 {h : pH} (hs : Sg h) {i : Nat} (hi : i < 32) : ldI h 92 (Int32.ofNat i) = some (rd h 92 i) := ldI_sh (sh_92 hs) hi (by decide)
theorem T_92 {h : pH} (hs : Sg h) {i : Nat} (hi : i < 32) (x : Int32) : stI h 92 (Int32.ofNat i) x = some (wr h 92 i x) := stI_sh x (sh_92 hs) hi (by decide)
theorem W_92 {h : pH} (hs : Sg h) (i : Nat) (x : Int32) : rd (wr h 92 i x) 92 i = x := rd_wr_eq x (by rw [sh_92 hs]; rfl)
theorem sh_93 {h : pH} (hs : Sg h) : sh h 93 = some (1, 32, []) := (hs.1 93 (by decide) (by decide) (by decide) (by decide)).trans (by decide +kernel)
theorem n_93 {h : pH} (hs : Sg h) : lenA h 93 = some (Int32.ofNat 32) := lenA_sh (sh_93 hs) (by decide) (by decide)
theorem L_93 {h : pH} (hs : Sg h) {i : Nat} (hi : i < 32) : ldI h 93 (Int32.ofNat i) = some (rd h 93 i) := ldI_sh (sh_93 hs) hi (by decide)
theorem T_93 {h : pH} (hs : Sg h) {i : Nat} (hi : i < 32) (x : Int32) : stI h 93 (Int32.ofNat i) x = some (wr h 93 i x) := stI_sh x (sh_93 hs) hi (by decide)
theorem W_93 {h : pH} (hs : Sg h) (i : Nat) (x : Int32) : rd (wr h 93 i x) 93 i = x := rd_wr_eq x (by rw [sh_93 hs]; rfl)
theorem sh_94 {h : pH} (hs : Sg h) : sh h 94 = some (1, 32, []) := (hs.1 94 (by decide) (by decide) (by decide) (by decide)).trans (by decide +kernel)
theorem n_94 {h : pH} (hs : Sg h) : lenA h 94 = some (Int32.ofNat 32) := lenA_sh (sh_94 hs) (by decide) (by decide)
theorem L_94 {h : pH} (hs : Sg h) {i : Nat} (hi : i < 32) : ldI h 94 (Int32.ofNat i) = some (rd h 94 i) := ldI_sh (sh_94 hs) hi (by decide)
theorem T_94 {h : pH} (hs : Sg h) {i : Nat} (hi : i < 32) (x : Int32) : stI h 94 (Int32.ofNat i) x = some (wr h 94 i x) := stI_sh x (sh_94 hs) hi (by decide)
theorem W_94 {h : pH} (hs : Sg h) (i : Nat) (x : Int32) : rd (wr h 94 i x) 94 i = x := rd_wr_eq x (by rw [sh_94 hs]; rfl)
theorem sh_95 {h : pH} (hs : Sg h) : sh h 95 = some (1, 32, []) := (hs.1 95 (by decide) (by decide) (by decide) (by decide)).trans (by decide +kernel)
theorem n_95 {h : pH} (hs : Sg h) : lenA h 95 = some (Int32.ofNat 32) := lenA_sh (sh_95 hs) (by decide) (by decide)
theorem L_95 {h : pH} (hs : Sg h) {i : Nat} (hi : i < 32) : ldI h 95 (Int32.ofNat i) = some (rd h 95 i) := ldI_sh (sh_95 hs) hi (by decide)
theorem T_95 {h : pH} (hs : Sg h) {i : Nat} (hi : i < 32) (x : Int32) : stI h 95 (Int32.ofNat i) x = some (wr h 95 i x) := stI_sh x (sh_95 hs) hi (by decide)
theorem W_95 {h : pH} (hs : Sg h) (i : Nat) (x : Int32) : rd (wr h 95 i x) 95 i = x := rd_wr_eq x (by rw [sh_95 hs]; rfl)
theorem sh_96 {h : pH} (hs : Sg h) : sh h 96 = some (1, 32, []) := (hs.1 96 (by decide) (by decide) (by decide) (by decide)).trans (by decide +kernel)
theorem n_96 {h : pH} (hs : Sg h) : lenA h 96 = some (Int32.ofNat 32) := lenA_sh (sh_96 hs) (by decide) (by decide)
theorem L_96 {h : pH} (hs : Sg h) {i : Nat} (hi : i < 32) : ldI h 96 (Int32.ofNat i) = some (rd h 96 i) := ldI_sh (sh_96 hs) hi (by decide)
theorem T_96 {h : pH} (hs : Sg h) {i : Nat} (hi : i < 32) (x : Int32) : stI h 96 (Int32.ofNat i) x = some (wr h 96 i x) := stI_sh x (sh_96 hs) hi (by decide)
theorem W_96 {h : pH} (hs : Sg h) (i : Nat) (x : Int32) : rd (wr h 96 i x) 96 i = x := rd_wr_eq x (by rw [sh_96 hs]; rfl)
theorem sh_97 {h : pH} (hs : Sg h) : sh h 97 = some (1, 32, []) := (hs.1 97 (by decide) (by decide) (by decide) (by decide)).trans (by decide +kernel)
theorem n_97 {h : pH} (hs : Sg h) : lenA h 97 = some (Int32.ofNat 32) := lenA_sh (sh_97 hs) (by decide) (by decide)
theorem L_97 {h : pH} (hs : Sg h) {i : Nat} (hi : i < 32) : ldI h 97 (Int32.ofNat i) = some (rd h 97 i) := ldI_sh (sh_97 hs) hi (by decide)
theorem T_97 {h : pH} (hs : Sg h) {i : Nat} (hi : i < 32) (x : Int32) : stI h 97 (Int32.ofNat i) x = some (wr h 97 i x) := stI_sh x (sh_97 hs) hi (by decide)
theorem W_97 {h : pH} (hs : Sg h) (i : Nat) (x : Int32) : rd (wr h 97 i x) 97 i = x := rd_wr_eq x (by rw [sh_97 hs]; rfl)
theorem sh_98 {h : pH} (hs : Sg h) : sh h 98 = some (1, 32, []) := (hs.1 98 (by decide) (by decide) (by decide) (by decide)).trans (by decide +kernel)
theorem n_98 {h : pH} (hs : Sg h) : lenA h 98 = some (Int32.ofNat 32) := lenA_sh (sh_98 hs) (by decide) (by decide)
theorem L_98 {h : pH} (hs : Sg h) {i : Nat} (hi : i < 32) : ldI h 98 (Int32.ofNat i) = some (rd h 98 i) := ldI_sh (sh_98 hs) hi (by decide)
theorem T_98 {h : pH} (hs : Sg h) {i : Nat} (hi : i < 32) (x : Int32) : stI h 98 (Int32.ofNat i) x = some (wr h 98 i x) := stI_sh x (sh_98 hs) hi (by decide)
theorem W_98 {h : pH} (hs : Sg h) (i : Nat) (x : Int32) : rd (wr h 98 i x) 98 i = x := rd_wr_eq x (by rw [sh_98 hs]; rfl)
theorem sh_99 {h : pH} (hs : Sg h) : sh h 99 = some (1, 32, []) := (hs.1 99 (by decide) (by decide) (by decide) (by decide)).trans (by decide +kernel)
theorem n_99 {h : pH} (hs : Sg h) : lenA h 99 = some (Int32.ofNat 32) := lenA_sh (sh_99 hs) (by decide) (by decide)
theorem L_99 {h : pH} (hs : Sg h) {i : Nat} (hi : i < 32) : ldI h 99 (Int32.ofNat i) = some (rd h 99 i) := ldI_sh (sh_99 hs) hi (by decide)
theorem T_99 {h : pH} (hs : Sg h) {i : Nat} (hi : i < 32) (x : Int32) : stI h 99 (Int32.ofNat i) x = some (wr h 99 i x) := stI_sh x (sh_99 hs) hi (by decide)
theorem W_99 {h : pH} (hs : Sg h) (i : Nat) (x : Int32) : rd (wr h 99 i x) 99 i = x := rd_wr_eq x (by rw [sh_99 hs]; rfl)
theorem sh_100 {h : pH} (hs : Sg h) : sh h 100 = some (1, 32, []) := (hs.1 100 (by decide) (by decide) (by decide) (by decide)).trans (by decide +kernel)
theorem n_100 {h : pH} (hs : Sg h) : lenA h 100 = some (Int32.ofNat 32) := lenA_sh (sh_100 hs) (by decide) (by decide)
theorem L_100 {h : pH} (hs : Sg h) {i : Nat} (hi : i < 32) : ldI h 100 (Int32.ofNat i) = some (rd h 100 i) := ldI_sh (sh_100 hs) hi (by decide)
theorem T_100 {h : pH} (hs : Sg h) {i : Nat} (hi : i < 32) (x : Int32) : stI h 100 (Int32.ofNat i) x = some (wr h 100 i x) := stI_sh x (sh_100 hs) hi (by decide)
theorem W_100 {h : pH} (hs : Sg h) (i : Nat) (x : Int32) : rd (wr h 100 i x) 100 i = x := rd_wr_eq x (by rw [sh_100 hs]; rfl)
theorem sh_101 {h : pH} (hs : Sg h) : sh h 101 = some (1, 32, []) := (hs.1 101 (by decide) (by decide) (by decide) (by decide)).trans (by decide +kernel)
theorem n_101 {h : pH} (hs : Sg h) : lenA h 101 = some (Int32.ofNat 32) := lenA_sh (sh_101 hs) (by decide) (by decide)
theorem L_101 {h : pH} (hs : Sg h) {i : Nat} (hi : i < 32) : ldI h 101 (Int32.ofNat i) = some (rd h 101 i) := ldI_sh (sh_101 hs) hi (by decide)
theorem T_101 {h : pH} (hs : Sg h) {i : Nat} (hi : i < 32) (x : Int32) : stI h 101 (Int32.ofNat i) x = some (wr h 101 i x) := stI_sh x (sh_101 hs) hi (by decide)
theorem W_101 {h : pH} (hs : Sg h) (i : Nat) (x : Int32) : rd (wr h 101 i x) 101 i = x := rd_wr_eq x (by rw [sh_101 hs]; rfl)
theorem sh_102 {h : pH} (hs : Sg h) : sh h 102 = some (1, 32, []) := (hs.1 102 (by decide) (by decide) (by decide) (by decide)).trans (by decide +kernel)
theorem n_102 {h : pH} (hs : Sg h) : lenA h 102 = some (Int32.ofNat 32) := lenA_sh (sh_102 hs) (by decide) (by decide)
theorem L_102 {h : pH} (hs : Sg h) {i : Nat} (hi : i < 32) : ldI h 102 (Int32.ofNat i) = some (rd h 102 i) := ldI_sh (sh_102 hs) hi (by decide)
theorem T_102 {h : pH} (hs : Sg h) {i : Nat} (hi : i < 32) (x : Int32) : stI h 102 (Int32.ofNat i) x = some (wr h 102 i x) := stI_sh x (sh_102 hs) hi (by decide)
theorem W_102 {h : pH} (hs : Sg h) (i : Nat) (x : Int32) : rd (wr h 102 i x) 102 i = x := rd_wr_eq x (by rw [sh_102 hs]; rfl)
theorem sh_103 {h : pH} (hs : Sg h) : sh h 103 = some (1, 32, []) := (hs.1 103 (by decide) (by decide) (by decide) (by decide)).trans (by decide +kernel)
theorem n_103 {h : pH} (hs : Sg h) : lenA h 103 = some (Int32.ofNat 32) := lenA_sh (sh_103 hs) (by decide) (by decide)
theorem L_103 {h : pH} (hs : Sg h) {i : Nat} (hi : i < 32) : ldI h 103 (Int32.ofNat i) = some (rd h 103 i) := ldI_sh (sh_103 hs) hi (by decide)
theorem T_103 {h : pH} (hs : Sg h) {i : Nat} (hi : i < 32) (x : Int32) : stI h 103 (Int32.ofNat i) x = some (wr h 103 i x) := stI_sh x (sh_103 hs) hi (by decide)
theorem W_103 {h : pH} (hs : Sg h) (i : Nat) (x : Int32) : rd (wr h 103 i x) 103 i = x := rd_wr_eq x (by rw [sh_103 hs]; rfl)
theorem sh_104 {h : pH} (hs : Sg h) : sh h 104 = some (1, 32, []) := (hs.1 104 (by decide) (by decide) (by decide) (by decide)).trans (by decide +kernel)
theorem n_104 {h : pH} (hs : Sg h) : lenA h 104 = some (Int32.ofNat 32) := lenA_sh (sh_104 hs) (by decide) (by decide)
theorem L_104 {h : pH} (hs : Sg h) {i : Nat} (hi : i < 32) : ldI h 104 (Int32.ofNat i) = some (rd h 104 i) := ldI_sh (sh_104 hs) hi (by decide)
theorem T_104 {h : pH} (hs : Sg h) {i : Nat} (hi : i < 32) (x : Int32) : stI h 104 (Int32.ofNat i) x = some (wr h 104 i x) := stI_sh x (sh_104 hs) hi (by decide)
theorem W_104 {h : pH} (hs : Sg h) (i : Nat) (x : Int32) : rd (wr h 104 i x) 104 i = x := rd_wr_eq x (by rw [sh_104 hs]; rfl)
theorem sh_105 {h : pH} (hs : Sg h) : sh h 105 = some (1, 32, []) := (hs.1 105 (by decide) (by decide) (by decide) (by decide)).trans (by decide +kernel)
theorem n_105 {h : pH} (hs : Sg h) : lenA h 105 = some (Int32.ofNat 32) := lenA_sh (sh_105 hs) (by decide) (by decide)
theorem L_105 {h : pH} (hs : Sg h) {i : Nat} (hi : i < 32) : ldI h 105 (Int32.ofNat i) = some (rd h 105 i) := ldI_sh (sh_105 hs) hi (by decide)
theorem T_105 {h : pH} (hs : Sg h) {i : Nat} (hi : i < 32) (x : Int32) : stI h 105 (Int32.ofNat i) x = some (wr h 105 i x) := stI_sh x (sh_105 hs) hi (by decide)
theorem W_105 {h : pH} (hs : Sg h) (i : Nat) (x : Int32) : rd (wr h 105 i x) 105 i = x := rd_wr_eq x (by rw [sh_105 hs]; rfl)
theorem sh_106 {h : pH} (hs : Sg h) : sh h 106 = some (1, 32, []) := (hs.1 106 (by decide) (by decide) (by decide) (by decide)).trans (by decide +kernel)
theorem n_106 {h : pH} (hs : Sg h) : lenA h 106 = some (Int32.ofNat 32) := lenA_sh (sh_106 hs) (by decide) (by decide)
theorem L_106 {h : pH} (hs : Sg h) {i : Nat} (hi : i < 32) : ldI h 106 (Int32.ofNat i) = some (rd h 106 i) := ldI_sh (sh_106 hs) hi (by decide)
theorem T_106 {h : pH} (hs : Sg h) {i : Nat} (hi : i < 32) (x : Int32) : stI h 106 (Int32.ofNat i) x = some (wr h 106 i x) := stI_sh x (sh_106 hs) hi (by decide)
theorem W_106 {h : pH} (hs : Sg h) (i : Nat) (x : Int32) : rd (wr h 106 i x) 106 i = x := rd_wr_eq x (by rw [sh_106 hs]; rfl)
theorem sh_107 {h : pH} (hs : Sg h) : sh h 107 = some (1, 32, []) := (hs.1 107 (by decide) (by decide) (by decide) (by decide)).trans (by decide +kernel)
theorem n_107 {h : pH} (hs : Sg h) : lenA h 107 = some (Int32.ofNat 32) := lenA_sh (sh_107 hs) (by decide) (by decide)
theorem L_107 {h : pH} (hs : Sg h) {i : Nat} (hi : i < 32) : ldI h 107 (Int32.ofNat i) = some (rd h 107 i) := ldI_sh (sh_107 hs) hi (by decide)
theorem T_107 {h : pH} (hs : Sg h) {i : Nat} (hi : i < 32) (x : Int32) : stI h 107 (Int32.ofNat i) x = some (wr h 107 i x) := stI_sh x (sh_107 hs) hi (by decide)
theorem W_107 {h : pH} (hs : Sg h) (i : Nat) (x : Int32) : rd (wr h 107 i x) 107 i = x := rd_wr_eq x (by rw [sh_107 hs]; rfl)
theorem sh_108 {h : pH} (hs : Sg h) : sh h 108 = some (1, 32, []) := (hs.1 108 (by decide) (by decide) (by decide) (by decide)).trans (by decide +kernel)
theorem n_108 {h : pH} (hs : Sg h) : lenA h 108 = some (Int32.ofNat 32) := lenA_sh (sh_108 hs) (by decide) (by decide)
theorem L_108 {h : pH} (hs : Sg h) {i : Nat} (hi : i < 32) : ldI h 108 (Int32.ofNat i) = some (rd h 108 i) := ldI_sh (sh_108 hs) hi (by decide)
theorem T_108 {h : pH} (hs : Sg h) {i : Nat} (hi : i < 32) (x : Int32) : stI h 108 (Int32.ofNat i) x = some (wr h 108 i x) := stI_sh x (sh_108 hs) hi (by decide)
theorem W_108 {h : pH} (hs : Sg h) (i : Nat) (x : Int32) : rd (wr h 108 i x) 108 i = x := rd_wr_eq x (by rw [sh_108 hs]; rfl)
theorem sh_109 {h : pH} (hs : Sg h) : sh h 109 = some (1, 32, []) := (hs.1 109 (by decide) (by decide) (by decide) (by decide)).trans (by decide +kernel)
theorem n_109 {h : pH} (hs : Sg h) : lenA h 109 = some (Int32.ofNat 32) := lenA_sh (sh_109 hs) (by decide) (by decide)
theorem L_109 {h : pH} (hs : Sg h) {i : Nat} (hi : i < 32) : ldI h 109 (Int32.ofNat i) = some (rd h 109 i) := ldI_sh (sh_109 hs) hi (by decide)
theorem T_109 {h : pH} (hs : Sg h) {i : Nat} (hi : i < 32) (x : Int32) : stI h 109 (Int32.ofNat i) x = some (wr h 109 i x) := stI_sh x (sh_109 hs) hi (by decide)
theorem W_109 {h : pH} (hs : Sg h) (i : Nat) (x : Int32) : rd (wr h 109 i x) 109 i = x := rd_wr_eq x (by rw [sh_109 hs]; rfl)
theorem sh_110 {h : pH} (hs : Sg h) : sh h 110 = some (1, 32, []) := (hs.1 110 (by decide) (by decide) (by decide) (by decide)).trans (by decide +kernel)
theorem n_110 {h : pH} (hs : Sg h) : lenA h 110 = some (Int32.ofNat 32) := lenA_sh (sh_110 hs) (by decide) (by decide)
theorem L_110 {h : pH} (hs : Sg h) {i : Nat} (hi : i < 32) : ldI h 110 (Int32.ofNat i) = some (rd h 110 i) := ldI_sh (sh_110 hs) hi (by decide)
theorem T_110 {h : pH} (hs : Sg h) {i : Nat} (hi : i < 32) (x : Int32) : stI h 110 (Int32.ofNat i) x = some (wr h 110 i x) := stI_sh x (sh_110 hs) hi (by decide)
theorem W_110 {h : pH} (hs : Sg h) (i : Nat) (x : Int32) : rd (wr h 110 i x) 110 i = x := rd_wr_eq x (by rw [sh_110 hs]; rfl)
theorem sh_111 {h : pH} (hs : Sg h) : sh h 111 = some (1, 32, []) := (hs.1 111 (by decide) (by decide) (by decide) (by decide)).trans (by decide +kernel)
theorem n_111 {h : pH} (hs : Sg h) : lenA h 111 = some (Int32.ofNat 32) := lenA_sh (sh_111 hs) (by decide) (by decide)
theorem L_111 {h : pH} (hs : Sg h) {i : Nat} (hi : i < 32) : ldI h 111 (Int32.ofNat i) = some (rd h 111 i) := ldI_sh (sh_111 hs) hi (by decide)
theorem T_111 {h : pH} (hs : Sg h) {i : Nat} (hi : i < 32) (x : Int32) : stI h 111 (Int32.ofNat i) x = some (wr h 111 i x) := stI_sh x (sh_111 hs) hi (by decide)
theorem W_111 {h : pH} (hs : Sg h) (i : Nat) (x : Int32) : rd (wr h 111 i x) 111 i = x := rd_wr_eq x (by rw [sh_111 hs]; rfl)
theorem sh_112 {h : pH} (hs : Sg h) : sh h 112 = some (1, 32, []) := (hs.1 112 (by decide) (by decide) (by decide) (by decide)).trans (by decide +kernel)
theorem n_112 {h : pH} (hs : Sg h) : lenA h 112 = some (Int32.ofNat 32) := lenA_sh (sh_112 hs) (by decide) (by decide)
theorem L_112 {h : pH} (hs : Sg h) {i : Nat} (hi : i < 32) : ldI h 112 (Int32.ofNat i) = some (rd h 112 i) := ldI_sh (sh_112 hs) hi (by decide)
theorem T_112 {h : pH} (hs : Sg h) {i : Nat} (hi : i < 32) (x : Int32) : stI h 112 (Int32.ofNat i) x = some (wr h 112 i x) := stI_sh x (sh_112 hs) hi (by decide)
theorem W_112 {h : pH} (hs : Sg h) (i : Nat) (x : Int32) : rd (wr h 112 i x) 112 i = x := rd_wr_eq x (by rw [sh_112 hs]; rfl)
theorem sh_113 {h : pH} (hs : Sg h) : sh h 113 = some (1, 32, []) := (hs.1 113 (by decide) (by decide) (by decide) (by decide)).trans (by decide +kernel)
theorem n_113 {h : pH} (hs : Sg h) : lenA h 113 = some (Int32.ofNat 32) := lenA_sh (sh_113 hs) (by decide) (by decide)
theorem L_113 {h : pH} (hs : Sg h) {i : Nat} (hi : i < 32) : ldI h 113 (Int32.ofNat i) = some (rd h 113 i) := ldI_sh (sh_113 hs) hi (by decide)
theorem T_113 {h : pH} (hs : Sg h) {i : Nat} (hi : i < 32) (x : Int32) : stI h 113 (Int32.ofNat i) x = some (wr h 113 i x) := stI_sh x (sh_113 hs) hi (by decide)
theorem W_113 {h : pH} (hs : Sg h) (i : Nat) (x : Int32) : rd (wr h 113 i x) 113 i = x := rd_wr_eq x (by rw [sh_113 hs]; rfl)
theorem sh_114 {h : pH} (hs : Sg h) : sh h 114 = some (1, 32, []) := (hs.1 114 (by decide) (by decide) (by decide) (by decide)).trans (by decide +kernel)
theorem n_114 {h : pH} (hs : Sg h) : lenA h 114 = some (Int32.ofNat 32) := lenA_sh (sh_114 hs) (by decide) (by decide)
theorem L_114 {h : pH} (hs : Sg h) {i : Nat} (hi : i < 32) : ldI h 114 (Int32.ofNat i) = some (rd h 114 i) := ldI_sh (sh_114 hs) hi (by decide)
theorem T_114 {h : pH} (hs : Sg h) {i : Nat} (hi : i < 32) (x : Int32) : stI h 114 (Int32.ofNat i) x = some (wr h 114 i x) := stI_sh x (sh_114 hs) hi (by decide)
theorem W_114 {h : pH} (hs : Sg h) (i : Nat) (x : Int32) : rd (wr h 114 i x) 114 i = x := rd_wr_eq x (by rw [sh_114 hs]; rfl)
theorem sh_115 {h : pH} (hs : Sg h) : sh h 115 = some (1, 32, []) := (hs.1 115 (by decide) (by decide) (by decide) (by decide)).trans (by decide +kernel)
theorem n_115 {h : pH} (hs : Sg h) : lenA h 115 = some (Int32.ofNat 32) := lenA_sh (sh_115 hs) (by decide) (by decide)
theorem L_115 {h : pH} (hs : Sg h) {i : Nat} (hi : i < 32) : ldI h 115 (Int32.ofNat i) = some (rd h 115 i) := ldI_sh (sh_115 hs) hi (by decide)
theorem T_115 {h : pH} (hs : Sg h) {i : Nat} (hi : i < 32) (x : Int32) : stI h 115 (Int32.ofNat i) x = some (wr h 115 i x) := stI_sh x (sh_115 hs) hi (by decide)
theorem W_115 {h : pH} (hs : Sg h) (i : Nat) (x : Int32) : rd (wr h 115 i x) 115 i = x := rd_wr_eq x (by rw [sh_115 hs]; rfl)
theorem sh_116 {h : pH} (hs : Sg h) : sh h 116 = some (1, 32, []) := (hs.1 116 (by decide) (by decide) (by decide) (by decide)).trans (by decide +kernel)
theorem n_116 {h : pH} (hs : Sg h) : lenA h 116 = some (Int32.ofNat 32) := lenA_sh (sh_116 hs) (by decide) (by decide)
theorem L_116 {h : pH} (hs : Sg h) {i : Nat} (hi : i < 32) : ldI h 116 (Int32.ofNat i) = some (rd h 116 i) := ldI_sh (sh_116 hs) hi (by decide)
theorem T_116 {h : pH} (hs : Sg h) {i : Nat} (hi : i < 32) (x : Int32) : stI h 116 (Int32.ofNat i) x = some (wr h 116 i x) := stI_sh x (sh_116 hs) hi (by decide)
theorem W_116 {h : pH} (hs : Sg h) (i : Nat) (x : Int32) : rd (wr h 116 i x) 116 i = x := rd_wr_eq x (by rw [sh_116 hs]; rfl)
theorem sh_117 {h : pH} (hs : Sg h) : sh h 117 = some (1, 32, []) := (hs.1 117 (by decide) (by decide) (by decide) (by decide)).trans (by decide +kernel)
theorem n_117 {h : pH} (hs : Sg h) : lenA h 117 = some (Int32.ofNat 32) := lenA_sh (sh_117 hs) (by decide) (by decide)
theorem L_117 {h : pH} (hs : Sg h) {i : Nat} (hi : i < 32) : ldI h 117 (Int32.ofNat i) = some (rd h 117 i) := ldI_sh (sh_117 hs) hi (by decide)
theorem T_117 {h : pH} (hs : Sg h) {i : Nat} (hi : i < 32) (x : Int32) : stI h 117 (Int32.ofNat i) x = some (wr h 117 i x) := stI_sh x (sh_117 hs) hi (by decide)
theorem W_117 {h : pH} (hs : Sg h) (i : Nat) (x : Int32) : rd (wr h 117 i x) 117 i = x := rd_wr_eq x (by rw [sh_117 hs]; rfl)
theorem sh_118 {h : pH} (hs : Sg h) : sh h 118 = some (1, 32, []) := (hs.1 118 (by decide) (by decide) (by decide) (by decide)).trans (by decide +kernel)
theorem n_118 {h : pH} (hs : Sg h) : lenA h 118 = some (Int32.ofNat 32) := lenA_sh (sh_118 hs) (by decide) (by decide)
theorem L_118 {h : pH} (hs : Sg h) {i : Nat} (hi : i < 32) : ldI h 118 (Int32.ofNat i) = some (rd h 118 i) := ldI_sh (sh_118 hs) hi (by decide)
theorem T_118 {h : pH} (hs : Sg h) {i : Nat} (hi : i < 32) (x : Int32) : stI h 118 (Int32.ofNat i) x = some (wr h 118 i x) := stI_sh x (sh_118 hs) hi (by decide)
theorem W_118 {h : pH} (hs : Sg h) (i : Nat) (x : Int32) : rd (wr h 118 i x) 118 i = x := rd_wr_eq x (by rw [sh_118 hs]; rfl)
theorem sh_119 {h : pH} (hs : Sg h) : sh h 119 = some (1, 32, []) := (hs.1 119 (by decide) (by decide) (by decide) (by decide)).trans (by decide +kernel)
theorem n_119 {h : pH} (hs : Sg h) : lenA h 119 = some (Int32.ofNat 32) := lenA_sh (sh_119 hs) (by decide) (by decide)
theorem L_119 {h : pH} (hs : Sg h) {i : Nat} (hi : i < 32) : ldI h 119 (Int32.ofNat i) = some (rd h 119 i) := ldI_sh (sh_119 hs) hi (by decide)
theorem T_119 {h : pH} (hs : Sg h) {i : Nat} (hi : i < 32) (x : Int32) : stI h 119 (Int32.ofNat i) x = some (wr h 119 i x) := stI_sh x (sh_119 hs) hi (by decide)
theorem W_119 {h : pH} (hs : Sg h) (i : Nat) (x : Int32) : rd (wr h 119 i x) 119 i = x := rd_wr_eq x (by rw [sh_119 hs]; rfl)
theorem sh_120 {h : pH} (hs : Sg h) : sh h 120 = some (1, 32, []) := (hs.1 120 (by decide) (by decide) (by decide) (by decide)).trans (by decide +kernel)
theorem n_120 {h : pH} (hs : Sg h) : lenA h 120 = some (Int32.ofNat 32) := lenA_sh (sh_120 hs) (by decide) (by decide)
theorem L_120 {h : pH} (hs : Sg h) {i : Nat} (hi : i < 32) : ldI h 120 (Int32.ofNat i) = some (rd h 120 i) := ldI_sh (sh_120 hs) hi (by decide)
theorem T_120 {h : pH} (hs : Sg h) {i : Nat} (hi : i < 32) (x : Int32) : stI h 120 (Int32.ofNat i) x = some (wr h 120 i x) := stI_sh x (sh_120 hs) hi (by decide)
theorem W_120 {h : pH} (hs : Sg h) (i : Nat) (x : Int32) : rd (wr h 120 i x) 120 i = x := rd_wr_eq x (by rw [sh_120 hs]; rfl)
theorem sh_121 {h : pH} (hs : Sg h) : sh h 121 = some (1, 32, []) := (hs.1 121 (by decide) (by decide) (by decide) (by decide)).trans (by decide +kernel)
theorem n_121 {h : pH} (hs : Sg h) : lenA h 121 = some (Int32.ofNat 32) := lenA_sh (sh_121 hs) (by decide) (by decide)
theorem L_121 {h : pH} (hs : Sg h) {i : Nat} (hi : i < 32) : ldI h 121 (Int32.ofNat i) = some (rd h 121 i) := ldI_sh (sh_121 hs) hi (by decide)
theorem T_121 {h : pH} (hs : Sg h) {i : Nat} (hi : i < 32) (x : Int32) : stI h 121 (Int32.ofNat i) x = some (wr h 121 i x) := stI_sh x (sh_121 hs) hi (by decide)
theorem W_121 {h : pH} (hs : Sg h) (i : Nat) (x : Int32) : rd (wr h 121 i x) 121 i = x := rd_wr_eq x (by rw [sh_121 hs]; rfl)
theorem sh_122 {h : pH} (hs : Sg h) : sh h 122 = some (9, 32, []) := (hs.1 122 (by decide) (by decide) (by decide) (by decide)).trans (by decide +kernel)
theorem n_122 {h : pH} (hs : Sg h) : lenA h 122 = some (Int32.ofNat 32) := lenA_sh (sh_122 hs) (by decide) (by decide)
theorem L_122 {h : pH} (hs : Sg h) {i : Nat} (hi : i < 32) : ldZ h 122 (Int32.ofNat i) = some (rd h 122 i) := ldZ_sh (sh_122 hs) hi (by decide)
theorem T_122 {h : pH} (hs : Sg h) {i : Nat} (hi : i < 32) {x : Int32} (hx : x = 0 ∨ x = 1) : stZ h 122 (Int32.ofNat i) x = some (wr h 122 i x) := stZ_sh hx (sh_122 hs) hi (by decide)
theorem W_122 {h : pH} (hs : Sg h) (i : Nat) (x : Int32) : rd (wr h 122 i x) 122 i = x := rd_wr_eq x (by rw [sh_122 hs]; rfl)
theorem sh_123 {h : pH} (hs : Sg h) : sh h 123 = some (9, 32, []) := (hs.1 123 (by decide) (by decide) (by decide) (by decide)).trans (by decide +kernel)
theorem n_123 {h : pH} (hs : Sg h) : lenA h 123 = some (Int32.ofNat 32) := lenA_sh (sh_123 hs) (by decide) (by decide)
theorem L_123 {h : pH} (hs : Sg h) {i : Nat} (hi : i < 32) : ldZ h 123 (Int32.ofNat i) = some (rd h 123 i) := ldZ_sh (sh_123 hs) hi (by decide)
theorem T_123 {h : pH} (hs : Sg h) {i : Nat} (hi : i < 32) {x : Int32} (hx : x = 0 ∨ x = 1) : stZ h 123 (Int32.ofNat i) x = some (wr h 123 i x) := stZ_sh hx (sh_123 hs) hi (by decide)
theorem W_123 {h : pH} (hs : Sg h) (i : Nat) (x : Int32) : rd (wr h 123 i x) 123 i = x := rd_wr_eq x (by rw [sh_123 hs]; rfl)
theorem sh_124 {h : pH} (hs : Sg h) : sh h 124 = some (1, 32, []) := (hs.1 124 (by decide) (by decide) (by decide) (by decide)).trans (by decide +kernel)
theorem n_124 {h : pH} (hs : Sg h) : lenA h 124 = some (Int32.ofNat 32) := lenA_sh (sh_124 hs) (by decide) (by decide)
theorem L_124 {h : pH} (hs : Sg h) {i : Nat} (hi : i < 32) : ldI h 124 (Int32.ofNat i) = some (rd h 124 i) := ldI_sh (sh_124 hs) hi (by decide)
theorem T_124 {h : pH} (hs : Sg h) {i : Nat} (hi : i < 32) (x : Int32) : stI h 124 (Int32.ofNat i) x = some (wr h 124 i x) := stI_sh x (sh_124 hs) hi (by decide)
theorem W_124 {h : pH} (hs : Sg h) (i : Nat) (x : Int32) : rd (wr h 124 i x) 124 i = x := rd_wr_eq x (by rw [sh_124 hs]; rfl)
theorem sh_125 {h : pH} (hs : Sg h) : sh h 125 = some (1, 3100, []) := (hs.1 125 (by decide) (by decide) (by decide) (by decide)).trans (by decide +kernel)
theorem n_125 {h : pH} (hs : Sg h) : lenA h 125 = some (Int32.ofNat 3100) := lenA_sh (sh_125 hs) (by decide) (by decide)
theorem L_125 {h : pH} (hs : Sg h) {i : Nat} (hi : i < 3100) : ldI h 125 (Int32.ofNat i) = some (rd h 125 i) := ldI_sh (sh_125 hs) hi (by decide)
theorem T_125 {h : pH} (hs : Sg h) {i : Nat} (hi : i < 3100) (x : Int32) : stI h 125 (Int32.ofNat i) x = some (wr h 125 i x) := stI_sh x (sh_125 hs) hi (by decide)
theorem W_125 {h : pH} (hs : Sg h) (i : Nat) (x : Int32) : rd (wr h 125 i x) 125 i = x := rd_wr_eq x (by rw [sh_125 hs]; rfl)
def S126 : List (Option Nat) := [some 128, none, none]
theorem sh0_126 : sh h0 126 = some (4 * 4, 3, S126) := by decide +kernel
theorem sh_126 {h : pH} (hs : Sg h) : sh h 126 = some (4 * 4, 3, S126) := (hs.1 126 (by decide) (by decide) (by decide) (by decide)).trans sh0_126
theorem o_126 {h : pH} (hs : Sg h) : isO h 126 4 = true := isO_sh (by decide) (sh_126 hs)
theorem R_126_0 {h : pH} (hs : Sg h) : getR h 126 4 0 = some 127 := getR_sh (sh_126 hs) rfl
theorem g_126_1 {h : pH} (hs : Sg h) : getI h 126 4 1 = some (rd h 126 1) := getI_sh (sh_126 hs) rfl
theorem p_126_1 {h : pH} (hs : Sg h) (x : Int32) : putI h 126 4 1 x = some (wr h 126 1 x) := putI_sh x (sh_126 hs) rfl
theorem z_126_1 {h : pH} (hs : Sg h) {x : Int32} (hx : x = 0 ∨ x = 1) : putZ h 126 4 1 x = some (wr h 126 1 x) := putZ_sh hx (sh_126 hs) rfl
theorem w_126_1 {h : pH} (hs : Sg h) (x : Int32) : rd (wr h 126 1 x) 126 1 = x := rd_wr_eq x (by rw [sh_126 hs]; rfl)
theorem g_126_2 {h : pH} (hs : Sg h) : getI h 126 4 2 = some (rd h 126 2) := getI_sh (sh_126 hs) rfl
theorem p_126_2 {h : pH} (hs : Sg h) (x : Int32) : putI h 126 4 2 x = some (wr h 126 2 x) := putI_sh x (sh_126 hs) rfl
theorem z_126_2 {h : pH} (hs : Sg h) {x : Int32} (hx : x = 0 ∨ x = 1) : putZ h 126 4 2 x = some (wr h 126 2 x) := putZ_sh hx (sh_126 hs) rfl
theorem w_126_2 {h : pH} (hs : Sg h) (x : Int32) : rd (wr h 126 2 x) 126 2 = x := rd_wr_eq x (by rw [sh_126 hs]; rfl)
theorem sh_127 {h : pH} (hs : Sg h) : sh h 127 = some (1, 300, []) := (hs.1 127 (by decide) (by decide) (by decide) (by decide)).trans (by decide +kernel)
theorem n_127 {h : pH} (hs : Sg h) : lenA h 127 = some (Int32.ofNat 300) := lenA_sh (sh_127 hs) (by decide) (by decide)
theorem L_127 {h : pH} (hs : Sg h) {i : Nat} (hi : i < 300) : ldI h 127 (Int32.ofNat i) = some (rd h 127 i) := ldI_sh (sh_127 hs) hi (by decide)
theorem T_127 {h : pH} (hs : Sg h) {i : Nat} (hi : i < 300) (x : Int32) : stI h 127 (Int32.ofNat i) x = some (wr h 127 i x) := stI_sh x (sh_127 hs) hi (by decide)
theorem W_127 {h : pH} (hs : Sg h) (i : Nat) (x : Int32) : rd (wr h 127 i x) 127 i = x := rd_wr_eq x (by rw [sh_127 hs]; rfl)
theorem sh_128 {h : pH} (hs : Sg h) : sh h 128 = some (4 * 5, 20, mF (pileR h)) := hs.pile.1
theorem o_128 {h : pH} (hs : Sg h) : isO h 128 5 = true := isO_sh (by decide) (sh_128 hs)
theorem R_128_0 {h : pH} (hs : Sg h) : getR h 128 5 0 = some 17 := getR_sh (sh_128 hs) rfl
theorem R_128_1 {h : pH} (hs : Sg h) : getR h 128 5 1 = some 25 := getR_sh (sh_128 hs) rfl
theorem R_128_2 {h : pH} (hs : Sg h) : getR h 128 5 2 = some 38 := getR_sh (sh_128 hs) rfl
theorem R_128_3 {h : pH} (hs : Sg h) : getR h 128 5 3 = some 126 := getR_sh (sh_128 hs) rfl
theorem R_128_4 {h : pH} (hs : Sg h) : getR h 128 5 4 = some 129 := getR_sh (sh_128 hs) rfl
theorem g_128_6 {h : pH} (hs : Sg h) : getI h 128 5 6 = some (rd h 128 6) := getI_sh (sh_128 hs) rfl
theorem p_128_6 {h : pH} (hs : Sg h) (x : Int32) : putI h 128 5 6 x = some (wr h 128 6 x) := putI_sh x (sh_128 hs) rfl
theorem z_128_6 {h : pH} (hs : Sg h) {x : Int32} (hx : x = 0 ∨ x = 1) : putZ h 128 5 6 x = some (wr h 128 6 x) := putZ_sh hx (sh_128 hs) rfl
theorem w_128_6 {h : pH} (hs : Sg h) (x : Int32) : rd (wr h 128 6 x) 128 6 = x := rd_wr_eq x (by rw [sh_128 hs]; rfl)
theorem R_128_7 {h : pH} (hs : Sg h) : getR h 128 5 7 = some 133 := getR_sh (sh_128 hs) rfl
theorem R_128_8 {h : pH} (hs : Sg h) : getR h 128 5 8 = some 134 := getR_sh (sh_128 hs) rfl
theorem R_128_9 {h : pH} (hs : Sg h) : getR h 128 5 9 = some 135 := getR_sh (sh_128 hs) rfl
theorem R_128_10 {h : pH} (hs : Sg h) : getR h 128 5 10 = some 136 := getR_sh (sh_128 hs) rfl
theorem g_128_11 {h : pH} (hs : Sg h) : getI h 128 5 11 = some (rd h 128 11) := getI_sh (sh_128 hs) rfl
theorem p_128_11 {h : pH} (hs : Sg h) (x : Int32) : putI h 128 5 11 x = some (wr h 128 11 x) := putI_sh x (sh_128 hs) rfl
theorem z_128_11 {h : pH} (hs : Sg h) {x : Int32} (hx : x = 0 ∨ x = 1) : putZ h 128 5 11 x = some (wr h 128 11 x) := putZ_sh hx (sh_128 hs) rfl
theorem w_128_11 {h : pH} (hs : Sg h) (x : Int32) : rd (wr h 128 11 x) 128 11 = x := rd_wr_eq x (by rw [sh_128 hs]; rfl)
theorem g_128_12 {h : pH} (hs : Sg h) : getI h 128 5 12 = some (rd h 128 12) := getI_sh (sh_128 hs) rfl
theorem p_128_12 {h : pH} (hs : Sg h) (x : Int32) : putI h 128 5 12 x = some (wr h 128 12 x) := putI_sh x (sh_128 hs) rfl
theorem z_128_12 {h : pH} (hs : Sg h) {x : Int32} (hx : x = 0 ∨ x = 1) : putZ h 128 5 12 x = some (wr h 128 12 x) := putZ_sh hx (sh_128 hs) rfl
theorem w_128_12 {h : pH} (hs : Sg h) (x : Int32) : rd (wr h 128 12 x) 128 12 = x := rd_wr_eq x (by rw [sh_128 hs]; rfl)
theorem g_128_13 {h : pH} (hs : Sg h) : getI h 128 5 13 = some (rd h 128 13) := getI_sh (sh_128 hs) rfl
theorem p_128_13 {h : pH} (hs : Sg h) (x : Int32) : putI h 128 5 13 x = some (wr h 128 13 x) := putI_sh x (sh_128 hs) rfl
theorem z_128_13 {h : pH} (hs : Sg h) {x : Int32} (hx : x = 0 ∨ x = 1) : putZ h 128 5 13 x = some (wr h 128 13 x) := putZ_sh hx (sh_128 hs) rfl
theorem w_128_13 {h : pH} (hs : Sg h) (x : Int32) : rd (wr h 128 13 x) 128 13 = x := rd_wr_eq x (by rw [sh_128 hs]; rfl)
theorem g_128_14 {h : pH} (hs : Sg h) : getI h 128 5 14 = some (rd h 128 14) := getI_sh (sh_128 hs) rfl
theorem p_128_14 {h : pH} (hs : Sg h) (x : Int32) : putI h 128 5 14 x = some (wr h 128 14 x) := putI_sh x (sh_128 hs) rfl
theorem z_128_14 {h : pH} (hs : Sg h) {x : Int32} (hx : x = 0 ∨ x = 1) : putZ h 128 5 14 x = some (wr h 128 14 x) := putZ_sh hx (sh_128 hs) rfl
theorem w_128_14 {h : pH} (hs : Sg h) (x : Int32) : rd (wr h 128 14 x) 128 14 = x := rd_wr_eq x (by rw [sh_128 hs]; rfl)
theorem g_128_15 {h : pH} (hs : Sg h) : getI h 128 5 15 = some (rd h 128 15) := getI_sh (sh_128 hs) rfl
theorem p_128_15 {h : pH} (hs : Sg h) (x : Int32) : putI h 128 5 15 x = some (wr h 128 15 x) := putI_sh x (sh_128 hs) rfl
theorem z_128_15 {h : pH} (hs : Sg h) {x : Int32} (hx : x = 0 ∨ x = 1) : putZ h 128 5 15 x = some (wr h 128 15 x) := putZ_sh hx (sh_128 hs) rfl
theorem w_128_15 {h : pH} (hs : Sg h) (x : Int32) : rd (wr h 128 15 x) 128 15 = x := rd_wr_eq x (by rw [sh_128 hs]; rfl)
theorem g_128_16 {h : pH} (hs : Sg h) : getI h 128 5 16 = some (rd h 128 16) := getI_sh (sh_128 hs) rfl
theorem p_128_16 {h : pH} (hs : Sg h) (x : Int32) : putI h 128 5 16 x = some (wr h 128 16 x) := putI_sh x (sh_128 hs) rfl
theorem z_128_16 {h : pH} (hs : Sg h) {x : Int32} (hx : x = 0 ∨ x = 1) : putZ h 128 5 16 x = some (wr h 128 16 x) := putZ_sh hx (sh_128 hs) rfl
theorem w_128_16 {h : pH} (hs : Sg h) (x : Int32) : rd (wr h 128 16 x) 128 16 = x := rd_wr_eq x (by rw [sh_128 hs]; rfl)
theorem g_128_17 {h : pH} (hs : Sg h) : getI h 128 5 17 = some (rd h 128 17) := getI_sh (sh_128 hs) rfl
theorem p_128_17 {h : pH} (hs : Sg h) (x : Int32) : putI h 128 5 17 x = some (wr h 128 17 x) := putI_sh x (sh_128 hs) rfl
theorem z_128_17 {h : pH} (hs : Sg h) {x : Int32} (hx : x = 0 ∨ x = 1) : putZ h 128 5 17 x = some (wr h 128 17 x) := putZ_sh hx (sh_128 hs) rfl
theorem w_128_17 {h : pH} (hs : Sg h) (x : Int32) : rd (wr h 128 17 x) 128 17 = x := rd_wr_eq x (by rw [sh_128 hs]; rfl)
theorem R_128_18 {h : pH} (hs : Sg h) : getR h 128 5 18 = some 137 := getR_sh (sh_128 hs) rfl
theorem g_128_19 {h : pH} (hs : Sg h) : getI h 128 5 19 = some (rd h 128 19) := getI_sh (sh_128 hs) rfl
theorem p_128_19 {h : pH} (hs : Sg h) (x : Int32) : putI h 128 5 19 x = some (wr h 128 19 x) := putI_sh x (sh_128 hs) rfl
theorem z_128_19 {h : pH} (hs : Sg h) {x : Int32} (hx : x = 0 ∨ x = 1) : putZ h 128 5 19 x = some (wr h 128 19 x) := putZ_sh hx (sh_128 hs) rfl
theorem w_128_19 {h : pH} (hs : Sg h) (x : Int32) : rd (wr h 128 19 x) 128 19 = x := rd_wr_eq x (by rw [sh_128 hs]; rfl)
theorem R_128_5 {h : pH} (hs : Sg h) : getR h 128 5 5 = some (pileR h) := getR_sh (sh_128 hs) rfl
theorem sh_129 {h : pH} (hs : Sg h) : ∃ b, sh h 129 = some (4 * 3, 4, hF2 b) := hs.2.2
theorem o_129 {h : pH} (hs : Sg h) : isO h 129 3 = true := by obtain ⟨b, e⟩ := sh_129 hs; exact isO_sh (by decide) e
theorem g_129_2 {h : pH} (hs : Sg h) : getI h 129 3 2 = some (rd h 129 2) := by obtain ⟨b, e⟩ := sh_129 hs; exact getI_sh e (by cases b <;> rfl)
theorem p_129_2 {h : pH} (hs : Sg h) (x : Int32) : putI h 129 3 2 x = some (wr h 129 2 x) := by obtain ⟨b, e⟩ := sh_129 hs; exact putI_sh x e (by cases b <;> rfl)
theorem w_129_2 {h : pH} (hs : Sg h) (x : Int32) : rd (wr h 129 2 x) 129 2 = x := by obtain ⟨b, e⟩ := sh_129 hs; exact rd_wr_eq x (by rw [e]; cases b <;> rfl)
theorem g_129_3 {h : pH} (hs : Sg h) : getI h 129 3 3 = some (rd h 129 3) := by obtain ⟨b, e⟩ := sh_129 hs; exact getI_sh e (by cases b <;> rfl)
theorem p_129_3 {h : pH} (hs : Sg h) (x : Int32) : putI h 129 3 3 x = some (wr h 129 3 x) := by obtain ⟨b, e⟩ := sh_129 hs; exact putI_sh x e (by cases b <;> rfl)
theorem w_129_3 {h : pH} (hs : Sg h) (x : Int32) : rd (wr h 129 3 x) 129 3 = x := by obtain ⟨b, e⟩ := sh_129 hs; exact rd_wr_eq x (by rw [e]; cases b <;> rfl)
theorem sh_130 {h : pH} (hs : Sg h) : sh h 130 = some (6, 10006, []) := (hs.1 130 (by decide) (by decide) (by decide) (by decide)).trans (by decide +kernel)
theorem n_130 {h : pH} (hs : Sg h) : lenA h 130 = some (Int32.ofNat 10006) := lenA_sh (sh_130 hs) (by decide) (by decide)
theorem L_130 {h : pH} (hs : Sg h) {i : Nat} (hi : i < 10006) : ldJ h 130 (Int32.ofNat i) = some (rdJ h 130 i) := ldJ_sh (sh_130 hs) hi (by decide)
theorem T_130 {h : pH} (hs : Sg h) {i : Nat} (hi : i < 10006) (x : Int64) : stJ h 130 (Int32.ofNat i) x = some (wrJ h 130 i x) := stJ_sh x (sh_130 hs) hi (by decide)
theorem W_130 {h : pH} (hs : Sg h) (i : Nat) (x : Int64) : rdJ (wrJ h 130 i x) 130 i = x := rdJ_wrJ_eq x (sh_130 hs)
theorem sh_131 {h : pH} (hs : Sg h) : sh h 131 = some (6, 10006, []) := (hs.1 131 (by decide) (by decide) (by decide) (by decide)).trans (by decide +kernel)
theorem n_131 {h : pH} (hs : Sg h) : lenA h 131 = some (Int32.ofNat 10006) := lenA_sh (sh_131 hs) (by decide) (by decide)
theorem L_131 {h : pH} (hs : Sg h) {i : Nat} (hi : i < 10006) : ldJ h 131 (Int32.ofNat i) = some (rdJ h 131 i) := ldJ_sh (sh_131 hs) hi (by decide)
theorem T_131 {h : pH} (hs : Sg h) {i : Nat} (hi : i < 10006) (x : Int64) : stJ h 131 (Int32.ofNat i) x = some (wrJ h 131 i x) := stJ_sh x (sh_131 hs) hi (by decide)
theorem W_131 {h : pH} (hs : Sg h) (i : Nat) (x : Int64) : rdJ (wrJ h 131 i x) 131 i = x := rdJ_wrJ_eq x (sh_131 hs)
theorem sh_132 {h : pH} (hs : Sg h) : sh h 132 = some (6, 2000, []) := (hs.1 132 (by decide) (by decide) (by decide) (by decide)).trans (by decide +kernel)
theorem n_132 {h : pH} (hs : Sg h) : lenA h 132 = some (Int32.ofNat 2000) := lenA_sh (sh_132 hs) (by decide) (by decide)
theorem L_132 {h : pH} (hs : Sg h) {i : Nat} (hi : i < 2000) : ldJ h 132 (Int32.ofNat i) = some (rdJ h 132 i) := ldJ_sh (sh_132 hs) hi (by decide)
theorem T_132 {h : pH} (hs : Sg h) {i : Nat} (hi : i < 2000) (x : Int64) : stJ h 132 (Int32.ofNat i) x = some (wrJ h 132 i x) := stJ_sh x (sh_132 hs) hi (by decide)
theorem W_132 {h : pH} (hs : Sg h) (i : Nat) (x : Int64) : rdJ (wrJ h 132 i x) 132 i = x := rdJ_wrJ_eq x (sh_132 hs)
theorem sh_133 {h : pH} (hs : Sg h) : sh h 133 = some (1, 100, []) := (hs.1 133 (by decide) (by decide) (by decide) (by decide)).trans (by decide +kernel)
theorem n_133 {h : pH} (hs : Sg h) : lenA h 133 = some (Int32.ofNat 100) := lenA_sh (sh_133 hs) (by decide) (by decide)
theorem L_133 {h : pH} (hs : Sg h) {i : Nat} (hi : i < 100) : ldI h 133 (Int32.ofNat i) = some (rd h 133 i) := ldI_sh (sh_133 hs) hi (by decide)
theorem T_133 {h : pH} (hs : Sg h) {i : Nat} (hi : i < 100) (x : Int32) : stI h 133 (Int32.ofNat i) x = some (wr h 133 i x) := stI_sh x (sh_133 hs) hi (by decide)
theorem W_133 {h : pH} (hs : Sg h) (i : Nat) (x : Int32) : rd (wr h 133 i x) 133 i = x := rd_wr_eq x (by rw [sh_133 hs]; rfl)
theorem sh_134 {h : pH} (hs : Sg h) : sh h 134 = some (1, 100, []) := (hs.1 134 (by decide) (by decide) (by decide) (by decide)).trans (by decide +kernel)
theorem n_134 {h : pH} (hs : Sg h) : lenA h 134 = some (Int32.ofNat 100) := lenA_sh (sh_134 hs) (by decide) (by decide)
theorem L_134 {h : pH} (hs : Sg h) {i : Nat} (hi : i < 100) : ldI h 134 (Int32.ofNat i) = some (rd h 134 i) := ldI_sh (sh_134 hs) hi (by decide)
theorem T_134 {h : pH} (hs : Sg h) {i : Nat} (hi : i < 100) (x : Int32) : stI h 134 (Int32.ofNat i) x = some (wr h 134 i x) := stI_sh x (sh_134 hs) hi (by decide)
theorem W_134 {h : pH} (hs : Sg h) (i : Nat) (x : Int32) : rd (wr h 134 i x) 134 i = x := rd_wr_eq x (by rw [sh_134 hs]; rfl)
theorem sh_135 {h : pH} (hs : Sg h) : sh h 135 = some (1, 100, []) := (hs.1 135 (by decide) (by decide) (by decide) (by decide)).trans (by decide +kernel)
theorem n_135 {h : pH} (hs : Sg h) : lenA h 135 = some (Int32.ofNat 100) := lenA_sh (sh_135 hs) (by decide) (by decide)
theorem L_135 {h : pH} (hs : Sg h) {i : Nat} (hi : i < 100) : ldI h 135 (Int32.ofNat i) = some (rd h 135 i) := ldI_sh (sh_135 hs) hi (by decide)
theorem T_135 {h : pH} (hs : Sg h) {i : Nat} (hi : i < 100) (x : Int32) : stI h 135 (Int32.ofNat i) x = some (wr h 135 i x) := stI_sh x (sh_135 hs) hi (by decide)
theorem W_135 {h : pH} (hs : Sg h) (i : Nat) (x : Int32) : rd (wr h 135 i x) 135 i = x := rd_wr_eq x (by rw [sh_135 hs]; rfl)
theorem sh_136 {h : pH} (hs : Sg h) : sh h 136 = some (6, 100, []) := (hs.1 136 (by decide) (by decide) (by decide) (by decide)).trans (by decide +kernel)
theorem n_136 {h : pH} (hs : Sg h) : lenA h 136 = some (Int32.ofNat 100) := lenA_sh (sh_136 hs) (by decide) (by decide)
theorem L_136 {h : pH} (hs : Sg h) {i : Nat} (hi : i < 100) : ldJ h 136 (Int32.ofNat i) = some (rdJ h 136 i) := ldJ_sh (sh_136 hs) hi (by decide)
theorem T_136 {h : pH} (hs : Sg h) {i : Nat} (hi : i < 100) (x : Int64) : stJ h 136 (Int32.ofNat i) x = some (wrJ h 136 i x) := stJ_sh x (sh_136 hs) hi (by decide)
theorem W_136 {h : pH} (hs : Sg h) (i : Nat) (x : Int64) : rdJ (wrJ h 136 i x) 136 i = x := rdJ_wrJ_eq x (sh_136 hs)
theorem sh_137 {h : pH} (hs : Sg h) : sh h 137 = some (1, 500, []) := (hs.1 137 (by decide) (by decide) (by decide) (by decide)).trans (by decide +kernel)
theorem n_137 {h : pH} (hs : Sg h) : lenA h 137 = some (Int32.ofNat 500) := lenA_sh (sh_137 hs) (by decide) (by decide)
theorem L_137 {h : pH} (hs : Sg h) {i : Nat} (hi : i < 500) : ldI h 137 (Int32.ofNat i) = some (rd h 137 i) := ldI_sh (sh_137 hs) hi (by decide)
theorem T_137 {h : pH} (hs : Sg h) {i : Nat} (hi : i < 500) (x : Int32) : stI h 137 (Int32.ofNat i) x = some (wr h 137 i x) := stI_sh x (sh_137 hs) hi (by decide)
theorem W_137 {h : pH} (hs : Sg h) (i : Nat) (x : Int32) : rd (wr h 137 i x) 137 i = x := rd_wr_eq x (by rw [sh_137 hs]; rfl)
def S138 : List (Option Nat) := [some 140, none, some 141, none, none, none, none, none, none, none, none, none, some 142, some 143, some 144, none, some 145, some 146, some 147, some 148, some 149, none, some 150, none, some 151, none, some 152, some 153, some 154, some 155, some 156, some 157, some 158, some 159, some 160, some 161, some 162, none, some 163, some 164, some 165, some 166, some 167, some 168, none, some 169, some 170, some 171, some 172, some 173, some 174, some 175, some 176, none, some 177, some 178, none, none, none, none, none, none, none, some 179, some 180, some 181, none, some 182, some 183, none, none, none, none, none, none, none, none, none, none, some 184, none, some 185, none, some 186, some 187, some 188, some 189, some 190, some 191, none, none, some 192, some 193, none, some 194, some 195, some 196, some 197, some 198, some 199, none, some 200, some 201, none, some 202, some 203, none, some 204, some 205]
theorem sh0_138 : sh h0 138 = some (4 * 12, 109, S138) := by decide +kernel
theorem sh_138 {h : pH} (hs : Sg h) : sh h 138 = some (4 * 12, 109, S138) := (hs.1 138 (by decide) (by decide) (by decide) (by decide)).trans sh0_138
theorem o_138 {h : pH} (hs : Sg h) : isO h 138 12 = true := isO_sh (by decide) (sh_138 hs)
theorem R_138_0 {h : pH} (hs : Sg h) : getR h 138 12 0 = some 139 := getR_sh (sh_138 hs) rfl
theorem g_138_1 {h : pH} (hs : Sg h) : getI h 138 12 1 = some (rd h 138 1) := getI_sh (sh_138 hs) rfl
theorem p_138_1 {h : pH} (hs : Sg h) (x : Int32) : putI h 138 12 1 x = some (wr h 138 1 x) := putI_sh x (sh_138 hs) rfl
theorem z_138_1 {h : pH} (hs : Sg h) {x : Int32} (hx : x = 0 ∨ x = 1) : putZ h 138 12 1 x = some (wr h 138 1 x) := putZ_sh hx (sh_138 hs) rfl
theorem w_138_1 {h : pH} (hs : Sg h) (x : Int32) : rd (wr h 138 1 x) 138 1 = x := rd_wr_eq x (by rw [sh_138 hs]; rfl)
theorem R_138_2 {h : pH} (hs : Sg h) : getR h 138 12 2 = some 140 := getR_sh (sh_138 hs) rfl
theorem g_138_3 {h : pH} (hs : Sg h) : getI h 138 12 3 = some (rd h 138 3) := getI_sh (sh_138 hs) rfl
theorem p_138_3 {h : pH} (hs : Sg h) (x : Int32) : putI h 138 12 3 x = some (wr h 138 3 x) := putI_sh x (sh_138 hs) rfl
theorem z_138_3 {h : pH} (hs : Sg h) {x : Int32} (hx : x = 0 ∨ x = 1) : putZ h 138 12 3 x = some (wr h 138 3 x) := putZ_sh hx (sh_138 hs) rfl
theorem w_138_3 {h : pH} (hs : Sg h) (x : Int32) : rd (wr h 138 3 x) 138 3 = x := rd_wr_eq x (by rw [sh_138 hs]; rfl)
theorem g_138_4 {h : pH} (hs : Sg h) : getI h 138 12 4 = some (rd h 138 4) := getI_sh (sh_138 hs) rfl
theorem p_138_4 {h : pH} (hs : Sg h) (x : Int32) : putI h 138 12 4 x = some (wr h 138 4 x) := putI_sh x (sh_138 hs) rfl
theorem z_138_4 {h : pH} (hs : Sg h) {x : Int32} (hx : x = 0 ∨ x = 1) : putZ h 138 12 4 x = some (wr h 138 4 x) := putZ_sh hx (sh_138 hs) rfl
theorem w_138_4 {h : pH} (hs : Sg h) (x : Int32) : rd (wr h 138 4 x) 138 4 = x := rd_wr_eq x (by rw [sh_138 hs]; rfl)
theorem g_138_5 {h : pH} (hs : Sg h) : getI h 138 12 5 = some (rd h 138 5) := getI_sh (sh_138 hs) rfl
theorem p_138_5 {h : pH} (hs : Sg h) (x : Int32) : putI h 138 12 5 x = some (wr h 138 5 x) := putI_sh x (sh_138 hs) rfl
theorem z_138_5 {h : pH} (hs : Sg h) {x : Int32} (hx : x = 0 ∨ x = 1) : putZ h 138 12 5 x = some (wr h 138 5 x) := putZ_sh hx (sh_138 hs) rfl
theorem w_138_5 {h : pH} (hs : Sg h) (x : Int32) : rd (wr h 138 5 x) 138 5 = x := rd_wr_eq x (by rw [sh_138 hs]; rfl)
theorem g_138_6 {h : pH} (hs : Sg h) : getI h 138 12 6 = some (rd h 138 6) := getI_sh (sh_138 hs) rfl
theorem p_138_6 {h : pH} (hs : Sg h) (x : Int32) : putI h 138 12 6 x = some (wr h 138 6 x) := putI_sh x (sh_138 hs) rfl
theorem z_138_6 {h : pH} (hs : Sg h) {x : Int32} (hx : x = 0 ∨ x = 1) : putZ h 138 12 6 x = some (wr h 138 6 x) := putZ_sh hx (sh_138 hs) rfl
theorem w_138_6 {h : pH} (hs : Sg h) (x : Int32) : rd (wr h 138 6 x) 138 6 = x := rd_wr_eq x (by rw [sh_138 hs]; rfl)
theorem g_138_7 {h : pH} (hs : Sg h) : getI h 138 12 7 = some (rd h 138 7) := getI_sh (sh_138 hs) rfl
theorem p_138_7 {h : pH} (hs : Sg h) (x : Int32) : putI h 138 12 7 x = some (wr h 138 7 x) := putI_sh x (sh_138 hs) rfl
theorem z_138_7 {h : pH} (hs : Sg h) {x : Int32} (hx : x = 0 ∨ x = 1) : putZ h 138 12 7 x = some (wr h 138 7 x) := putZ_sh hx (sh_138 hs) rfl
theorem w_138_7 {h : pH} (hs : Sg h) (x : Int32) : rd (wr h 138 7 x) 138 7 = x := rd_wr_eq x (by rw [sh_138 hs]; rfl)
theorem g_138_8 {h : pH} (hs : Sg h) : getI h 138 12 8 = some (rd h 138 8) := getI_sh (sh_138 hs) rfl
theorem p_138_8 {h : pH} (hs : Sg h) (x : Int32) : putI h 138 12 8 x = some (wr h 138 8 x) := putI_sh x (sh_138 hs) rfl
theorem z_138_8 {h : pH} (hs : Sg h) {x : Int32} (hx : x = 0 ∨ x = 1) : putZ h 138 12 8 x = some (wr h 138 8 x) := putZ_sh hx (sh_138 hs) rfl
theorem w_138_8 {h : pH} (hs : Sg h) (x : Int32) : rd (wr h 138 8 x) 138 8 = x := rd_wr_eq x (by rw [sh_138 hs]; rfl)
theorem g_138_9 {h : pH} (hs : Sg h) : getI h 138 12 9 = some (rd h 138 9) := getI_sh (sh_138 hs) rfl
theorem p_138_9 {h : pH} (hs : Sg h) (x : Int32) : putI h 138 12 9 x = some (wr h 138 9 x) := putI_sh x (sh_138 hs) rfl
theorem z_138_9 {h : pH} (hs : Sg h) {x : Int32} (hx : x = 0 ∨ x = 1) : putZ h 138 12 9 x = some (wr h 138 9 x) := putZ_sh hx (sh_138 hs) rfl
theorem w_138_9 {h : pH} (hs : Sg h) (x : Int32) : rd (wr h 138 9 x) 138 9 = x := rd_wr_eq x (by rw [sh_138 hs]; rfl)
theorem g_138_10 {h : pH} (hs : Sg h) : getI h 138 12 10 = some (rd h 138 10) := getI_sh (sh_138 hs) rfl
theorem p_138_10 {h : pH} (hs : Sg h) (x : Int32) : putI h 138 12 10 x = some (wr h 138 10 x) := putI_sh x (sh_138 hs) rfl
theorem z_138_10 {h : pH} (hs : Sg h) {x : Int32} (hx : x = 0 ∨ x = 1) : putZ h 138 12 10 x = some (wr h 138 10 x) := putZ_sh hx (sh_138 hs) rfl
theorem w_138_10 {h : pH} (hs : Sg h) (x : Int32) : rd (wr h 138 10 x) 138 10 = x := rd_wr_eq x (by rw [sh_138 hs]; rfl)
theorem g_138_11 {h : pH} (hs : Sg h) : getI h 138 12 11 = some (rd h 138 11) := getI_sh (sh_138 hs) rfl
theorem p_138_11 {h : pH} (hs : Sg h) (x : Int32) : putI h 138 12 11 x = some (wr h 138 11 x) := putI_sh x (sh_138 hs) rfl
theorem z_138_11 {h : pH} (hs : Sg h) {x : Int32} (hx : x = 0 ∨ x = 1) : putZ h 138 12 11 x = some (wr h 138 11 x) := putZ_sh hx (sh_138 hs) rfl
theorem w_138_11 {h : pH} (hs : Sg h) (x : Int32) : rd (wr h 138 11 x) 138 11 = x := rd_wr_eq x (by rw [sh_138 hs]; rfl)
theorem R_138_12 {h : pH} (hs : Sg h) : getR h 138 12 12 = some 141 := getR_sh (sh_138 hs) rfl
theorem R_138_13 {h : pH} (hs : Sg h) : getR h 138 12 13 = some 142 := getR_sh (sh_138 hs) rfl
theorem R_138_14 {h : pH} (hs : Sg h) : getR h 138 12 14 = some 143 := getR_sh (sh_138 hs) rfl
theorem g_138_15 {h : pH} (hs : Sg h) : getI h 138 12 15 = some (rd h 138 15) := getI_sh (sh_138 hs) rfl
theorem p_138_15 {h : pH} (hs : Sg h) (x : Int32) : putI h 138 12 15 x = some (wr h 138 15 x) := putI_sh x (sh_138 hs) rfl
theorem z_138_15 {h : pH} (hs : Sg h) {x : Int32} (hx : x = 0 ∨ x = 1) : putZ h 138 12 15 x = some (wr h 138 15 x) := putZ_sh hx (sh_138 hs) rfl
theorem w_138_15 {h : pH} (hs : Sg h) (x : Int32) : rd (wr h 138 15 x) 138 15 = x := rd_wr_eq x (by rw [sh_138 hs]; rfl)
theorem R_138_16 {h : pH} (hs : Sg h) : getR h 138 12 16 = some 144 := getR_sh (sh_138 hs) rfl
theorem R_138_17 {h : pH} (hs : Sg h) : getR h 138 12 17 = some 145 := getR_sh (sh_138 hs) rfl
theorem R_138_18 {h : pH} (hs : Sg h) : getR h 138 12 18 = some 146 := getR_sh (sh_138 hs) rfl
theorem R_138_19 {h : pH} (hs : Sg h) : getR h 138 12 19 = some 147 := getR_sh (sh_138 hs) rfl
theorem R_138_20 {h : pH} (hs : Sg h) : getR h 138 12 20 = some 148 := getR_sh (sh_138 hs) rfl
theorem g_138_21 {h : pH} (hs : Sg h) : getI h 138 12 21 = some (rd h 138 21) := getI_sh (sh_138 hs) rfl
theorem p_138_21 {h : pH} (hs : Sg h) (x : Int32) : putI h 138 12 21 x = some (wr h 138 21 x) := putI_sh x (sh_138 hs) rfl
theorem z_138_21 {h : pH} (hs : Sg h) {x : Int32} (hx : x = 0 ∨ x = 1) : putZ h 138 12 21 x = some (wr h 138 21 x) := putZ_sh hx (sh_138 hs) rfl
theorem w_138_21 {h : pH} (hs : Sg h) (x : Int32) : rd (wr h 138 21 x) 138 21 = x := rd_wr_eq x (by rw [sh_138 hs]; rfl)
theorem R_138_22 {h : pH} (hs : Sg h) : getR h 138 12 22 = some 149 := getR_sh (sh_138 hs) rfl
theorem g_138_23 {h : pH} (hs : Sg h) : getI h 138 12 23 = some (rd h 138 23) := getI_sh (sh_138 hs) rfl
theorem p_138_23 {h : pH} (hs : Sg h) (x : Int32) : putI h 138 12 23 x = some (wr h 138 23 x) := putI_sh x (sh_138 hs) rfl
theorem z_138_23 {h : pH} (hs : Sg h) {x : Int32} (hx : x = 0 ∨ x = 1) : putZ h 138 12 23 x = some (wr h 138 23 x) := putZ_sh hx (sh_138 hs) rfl
theorem w_138_23 {h : pH} (hs : Sg h) (x : Int32) : rd (wr h 138 23 x) 138 23 = x := rd_wr_eq x (by rw [sh_138 hs]; rfl)
theorem R_138_24 {h : pH} (hs : Sg h) : getR h 138 12 24 = some 150 := getR_sh (sh_138 hs) rfl
theorem g_138_25 {h : pH} (hs : Sg h) : getI h 138 12 25 = some (rd h 138 25) := getI_sh (sh_138 hs) rfl
theorem p_138_25 {h : pH} (hs : Sg h) (x : Int32) : putI h 138 12 25 x = some (wr h 138 25 x) := putI_sh x (sh_138 hs) rfl
theorem z_138_25 {h : pH} (hs : Sg h) {x : Int32} (hx : x = 0 ∨ x = 1) : putZ h 138 12 25 x = some (wr h 138 25 x) := putZ_sh hx (sh_138 hs) rfl
theorem w_138_25 {h : pH} (hs : Sg h) (x : Int32) : rd (wr h 138 25 x) 138 25 = x := rd_wr_eq x (by rw [sh_138 hs]; rfl)
theorem R_138_26 {h : pH} (hs : Sg h) : getR h 138 12 26 = some 151 := getR_sh (sh_138 hs) rfl
theorem R_138_27 {h : pH} (hs : Sg h) : getR h 138 12 27 = some 152 := getR_sh (sh_138 hs) rfl
theorem R_138_28 {h : pH} (hs : Sg h) : getR h 138 12 28 = some 153 := getR_sh (sh_138 hs) rfl
theorem R_138_29 {h : pH} (hs : Sg h) : getR h 138 12 29 = some 154 := getR_sh (sh_138 hs) rfl
theorem R_138_30 {h : pH} (hs : Sg h) : getR h 138 12 30 = some 155 := getR_sh (sh_138 hs) rfl
theorem R_138_31 {h : pH} (hs : Sg h) : getR h 138 12 31 = some 156 := getR_sh (sh_138 hs) rfl
theorem R_138_32 {h : pH} (hs : Sg h) : getR h 138 12 32 = some 157 := getR_sh (sh_138 hs) rfl
theorem R_138_33 {h : pH} (hs : Sg h) : getR h 138 12 33 = some 158 := getR_sh (sh_138 hs) rfl
theorem R_138_34 {h : pH} (hs : Sg h) : getR h 138 12 34 = some 159 := getR_sh (sh_138 hs) rfl
theorem R_138_35 {h : pH} (hs : Sg h) : getR h 138 12 35 = some 160 := getR_sh (sh_138 hs) rfl
theorem R_138_36 {h : pH} (hs : Sg h) : getR h 138 12 36 = some 161 := getR_sh (sh_138 hs) rfl
theorem g_138_37 {h : pH} (hs : Sg h) : getI h 138 12 37 = some (rd h 138 37) := getI_sh (sh_138 hs) rfl
theorem p_138_37 {h : pH} (hs : Sg h) (x : Int32) : putI h 138 12 37 x = some (wr h 138 37 x) := putI_sh x (sh_138 hs) rfl
theorem z_138_37 {h : pH} (hs : Sg h) {x : Int32} (hx : x = 0 ∨ x = 1) : putZ h 138 12 37 x = some (wr h 138 37 x) := putZ_sh hx (sh_138 hs) rfl
theorem w_138_37 {h : pH} (hs : Sg h) (x : Int32) : rd (wr h 138 37 x) 138 37 = x := rd_wr_eq x (by rw [sh_138 hs]; rfl)
theorem R_138_38 {h : pH} (hs : Sg h) : getR h 138 12 38 = some 162 := getR_sh (sh_138 hs) rfl
theorem R_138_39 {h : pH} (hs : Sg h) : getR h 138 12 39 = some 163 := getR_sh (sh_138 hs) rfl
theorem R_138_40 {h : pH} (hs : Sg h) : getR h 138 12 40 = some 164 := getR_sh (sh_138 hs) rfl
theorem R_138_41 {h : pH} (hs : Sg h) : getR h 138 12 41 = some 165 := getR_sh (sh_138 hs) rfl
theorem R_138_42 {h : pH} (hs : Sg h) : getR h 138 12 42 = some 166 := getR_sh (sh_138 hs) rfl
theorem R_138_43 {h : pH} (hs : Sg h) : getR h 138 12 43 = some 167 := getR_sh (sh_138 hs) rfl
theorem g_138_44 {h : pH} (hs : Sg h) : getI h 138 12 44 = some (rd h 138 44) := getI_sh (sh_138 hs) rfl
theorem p_138_44 {h : pH} (hs : Sg h) (x : Int32) : putI h 138 12 44 x = some (wr h 138 44 x) := putI_sh x (sh_138 hs) rfl
theorem z_138_44 {h : pH} (hs : Sg h) {x : Int32} (hx : x = 0 ∨ x = 1) : putZ h 138 12 44 x = some (wr h 138 44 x) := putZ_sh hx (sh_138 hs) rfl
theorem w_138_44 {h : pH} (hs : Sg h) (x : Int32) : rd (wr h 138 44 x) 138 44 = x := rd_wr_eq x (by rw [sh_138 hs]; rfl)
theorem R_138_45 {h : pH} (hs : Sg h) : getR h 138 12 45 = some 168 := getR_sh (sh_138 hs) rfl
theorem R_138_46 {h : pH} (hs : Sg h) : getR h 138 12 46 = some 169 := getR_sh (sh_138 hs) rfl
theorem R_138_47 {h : pH} (hs : Sg h) : getR h 138 12 47 = some 170 := getR_sh (sh_138 hs) rfl
theorem R_138_48 {h : pH} (hs : Sg h) : getR h 138 12 48 = some 171 := getR_sh (sh_138 hs) rfl
theorem R_138_49 {h : pH} (hs : Sg h) : getR h 138 12 49 = some 172 := getR_sh (sh_138 hs) rfl
theorem R_138_50 {h : pH} (hs : Sg h) : getR h 138 12 50 = some 173 := getR_sh (sh_138 hs) rfl
theorem R_138_51 {h : pH} (hs : Sg h) : getR h 138 12 51 = some 174 := getR_sh (sh_138 hs) rfl
theorem R_138_52 {h : pH} (hs : Sg h) : getR h 138 12 52 = some 175 := getR_sh (sh_138 hs) rfl
theorem g_138_53 {h : pH} (hs : Sg h) : getI h 138 12 53 = some (rd h 138 53) := getI_sh (sh_138 hs) rfl
theorem p_138_53 {h : pH} (hs : Sg h) (x : Int32) : putI h 138 12 53 x = some (wr h 138 53 x) := putI_sh x (sh_138 hs) rfl
theorem z_138_53 {h : pH} (hs : Sg h) {x : Int32} (hx : x = 0 ∨ x = 1) : putZ h 138 12 53 x = some (wr h 138 53 x) := putZ_sh hx (sh_138 hs) rfl
theorem w_138_53 {h : pH} (hs : Sg h) (x : Int32) : rd (wr h 138 53 x) 138 53 = x := rd_wr_eq x (by rw [sh_138 hs]; rfl)
theorem R_138_54 {h : pH} (hs : Sg h) : getR h 138 12 54 = some 176 := getR_sh (sh_138 hs) rfl
theorem R_138_55 {h : pH} (hs : Sg h) : getR h 138 12 55 = some 177 := getR_sh (sh_138 hs) rfl
theorem g_138_56 {h : pH} (hs : Sg h) : getI h 138 12 56 = some (rd h 138 56) := getI_sh (sh_138 hs) rfl
theorem p_138_56 {h : pH} (hs : Sg h) (x : Int32) : putI h 138 12 56 x = some (wr h 138 56 x) := putI_sh x (sh_138 hs) rfl
theorem z_138_56 {h : pH} (hs : Sg h) {x : Int32} (hx : x = 0 ∨ x = 1) : putZ h 138 12 56 x = some (wr h 138 56 x) := putZ_sh hx (sh_138 hs) rfl
theorem w_138_56 {h : pH} (hs : Sg h) (x : Int32) : rd (wr h 138 56 x) 138 56 = x := rd_wr_eq x (by rw [sh_138 hs]; rfl)
theorem g_138_57 {h : pH} (hs : Sg h) : getI h 138 12 57 = some (rd h 138 57) := getI_sh (sh_138 hs) rfl
theorem p_138_57 {h : pH} (hs : Sg h) (x : Int32) : putI h 138 12 57 x = some (wr h 138 57 x) := putI_sh x (sh_138 hs) rfl
theorem z_138_57 {h : pH} (hs : Sg h) {x : Int32} (hx : x = 0 ∨ x = 1) : putZ h 138 12 57 x = some (wr h 138 57 x) := putZ_sh hx (sh_138 hs) rfl
theorem w_138_57 {h : pH} (hs : Sg h) (x : Int32) : rd (wr h 138 57 x) 138 57 = x := rd_wr_eq x (by rw [sh_138 hs]; rfl)
theorem g_138_58 {h : pH} (hs : Sg h) : getI h 138 12 58 = some (rd h 138 58) := getI_sh (sh_138 hs) rfl
theorem p_138_58 {h : pH} (hs : Sg h) (x : Int32) : putI h 138 12 58 x = some (wr h 138 58 x) := putI_sh x (sh_138 hs) rfl
theorem z_138_58 {h : pH} (hs : Sg h) {x : Int32} (hx : x = 0 ∨ x = 1) : putZ h 138 12 58 x = some (wr h 138 58 x) := putZ_sh hx (sh_138 hs) rfl
theorem w_138_58 {h : pH} (hs : Sg h) (x : Int32) : rd (wr h 138 58 x) 138 58 = x := rd_wr_eq x (by rw [sh_138 hs]; rfl)
theorem g_138_59 {h : pH} (hs : Sg h) : getI h 138 12 59 = some (rd h 138 59) := getI_sh (sh_138 hs) rfl
theorem p_138_59 {h : pH} (hs : Sg h) (x : Int32) : putI h 138 12 59 x = some (wr h 138 59 x) := putI_sh x (sh_138 hs) rfl
theorem z_138_59 {h : pH} (hs : Sg h) {x : Int32} (hx : x = 0 ∨ x = 1) : putZ h 138 12 59 x = some (wr h 138 59 x) := putZ_sh hx (sh_138 hs) rfl
theorem w_138_59 {h : pH} (hs : Sg h) (x : Int32) : rd (wr h 138 59 x) 138 59 = x := rd_wr_eq x (by rw [sh_138 hs]; rfl)
theorem g_138_60 {h : pH} (hs : Sg h) : getI h 138 12 60 = some (rd h 138 60) := getI_sh (sh_138 hs) rfl
theorem p_138_60 {h : pH} (hs : Sg h) (x : Int32) : putI h 138 12 60 x = some (wr h 138 60 x) := putI_sh x (sh_138 hs) rfl
theorem z_138_60 {h : pH} (hs : Sg h) {x : Int32} (hx : x = 0 ∨ x = 1) : putZ h 138 12 60 x = some (wr h 138 60 x) := putZ_sh hx (sh_138 hs) rfl
theorem w_138_60 {h : pH} (hs : Sg h) (x : Int32) : rd (wr h 138 60 x) 138 60 = x := rd_wr_eq x (by rw [sh_138 hs]; rfl)
theorem g_138_61 {h : pH} (hs : Sg h) : getI h 138 12 61 = some (rd h 138 61) := getI_sh (sh_138 hs) rfl
theorem p_138_61 {h : pH} (hs : Sg h) (x : Int32) : putI h 138 12 61 x = some (wr h 138 61 x) := putI_sh x (sh_138 hs) rfl
theorem z_138_61 {h : pH} (hs : Sg h) {x : Int32} (hx : x = 0 ∨ x = 1) : putZ h 138 12 61 x = some (wr h 138 61 x) := putZ_sh hx (sh_138 hs) rfl
theorem w_138_61 {h : pH} (hs : Sg h) (x : Int32) : rd (wr h 138 61 x) 138 61 = x := rd_wr_eq x (by rw [sh_138 hs]; rfl)
theorem g_138_62 {h : pH} (hs : Sg h) : getI h 138 12 62 = some (rd h 138 62) := getI_sh (sh_138 hs) rfl
theorem p_138_62 {h : pH} (hs : Sg h) (x : Int32) : putI h 138 12 62 x = some (wr h 138 62 x) := putI_sh x (sh_138 hs) rfl
theorem z_138_62 {h : pH} (hs : Sg h) {x : Int32} (hx : x = 0 ∨ x = 1) : putZ h 138 12 62 x = some (wr h 138 62 x) := putZ_sh hx (sh_138 hs) rfl
theorem w_138_62 {h : pH} (hs : Sg h) (x : Int32) : rd (wr h 138 62 x) 138 62 = x := rd_wr_eq x (by rw [sh_138 hs]; rfl)
theorem R_138_63 {h : pH} (hs : Sg h) : getR h 138 12 63 = some 178 := getR_sh (sh_138 hs) rfl
theorem R_138_64 {h : pH} (hs : Sg h) : getR h 138 12 64 = some 179 := getR_sh (sh_138 hs) rfl
theorem R_138_65 {h : pH} (hs : Sg h) : getR h 138 12 65 = some 180 := getR_sh (sh_138 hs) rfl
theorem g_138_66 {h : pH} (hs : Sg h) : getI h 138 12 66 = some (rd h 138 66) := getI_sh (sh_138 hs) rfl
theorem p_138_66 {h : pH} (hs : Sg h) (x : Int32) : putI h 138 12 66 x = some (wr h 138 66 x) := putI_sh x (sh_138 hs) rfl
theorem z_138_66 {h : pH} (hs : Sg h) {x : Int32} (hx : x = 0 ∨ x = 1) : putZ h 138 12 66 x = some (wr h 138 66 x) := putZ_sh hx (sh_138 hs) rfl
theorem w_138_66 {h : pH} (hs : Sg h) (x : Int32) : rd (wr h 138 66 x) 138 66 = x := rd_wr_eq x (by rw [sh_138 hs]; rfl)
theorem R_138_67 {h : pH} (hs : Sg h) : getR h 138 12 67 = some 181 := getR_sh (sh_138 hs) rfl
theorem R_138_68 {h : pH} (hs : Sg h) : getR h 138 12 68 = some 182 := getR_sh (sh_138 hs) rfl
theorem g_138_69 {h : pH} (hs : Sg h) : getI h 138 12 69 = some (rd h 138 69) := getI_sh (sh_138 hs) rfl
theorem p_138_69 {h : pH} (hs : Sg h) (x : Int32) : putI h 138 12 69 x = some (wr h 138 69 x) := putI_sh x (sh_138 hs) rfl
theorem z_138_69 {h : pH} (hs : Sg h) {x : Int32} (hx : x = 0 ∨ x = 1) : putZ h 138 12 69 x = some (wr h 138 69 x) := putZ_sh hx (sh_138 hs) rfl
theorem w_138_69 {h : pH} (hs : Sg h) (x : Int32) : rd (wr h 138 69 x) 138 69 = x := rd_wr_eq x (by rw [sh_138 hs]; rfl)
theorem g_138_70 {h : pH} (hs : Sg h) : getI h 138 12 70 = some (rd h 138 70) := getI_sh (sh_138 hs) rfl
theorem p_138_70 {h : pH} (hs : Sg h) (x : Int32) : putI h 138 12 70 x = some (wr h 138 70 x) := putI_sh x (sh_138 hs) rfl
theorem z_138_70 {h : pH} (hs : Sg h) {x : Int32} (hx : x = 0 ∨ x = 1) : putZ h 138 12 70 x = some (wr h 138 70 x) := putZ_sh hx (sh_138 hs) rfl
theorem w_138_70 {h : pH} (hs : Sg h) (x : Int32) : rd (wr h 138 70 x) 138 70 = x := rd_wr_eq x (by rw [sh_138 hs]; rfl)
theorem g_138_71 {h : pH} (hs : Sg h) : getI h 138 12 71 = some (rd h 138 71) := getI_sh (sh_138 hs) rfl
theorem p_138_71 {h : pH} (hs : Sg h) (x : Int32) : putI h 138 12 71 x = some (wr h 138 71 x) := putI_sh x (sh_138 hs) rfl
theorem z_138_71 {h : pH} (hs : Sg h) {x : Int32} (hx : x = 0 ∨ x = 1) : putZ h 138 12 71 x = some (wr h 138 71 x) := putZ_sh hx (sh_138 hs) rfl
theorem w_138_71 {h : pH} (hs : Sg h) (x : Int32) : rd (wr h 138 71 x) 138 71 = x := rd_wr_eq x (by rw [sh_138 hs]; rfl)
theorem g_138_72 {h : pH} (hs : Sg h) : getI h 138 12 72 = some (rd h 138 72) := getI_sh (sh_138 hs) rfl
theorem p_138_72 {h : pH} (hs : Sg h) (x : Int32) : putI h 138 12 72 x = some (wr h 138 72 x) := putI_sh x (sh_138 hs) rfl
theorem z_138_72 {h : pH} (hs : Sg h) {x : Int32} (hx : x = 0 ∨ x = 1) : putZ h 138 12 72 x = some (wr h 138 72 x) := putZ_sh hx (sh_138 hs) rfl
theorem w_138_72 {h : pH} (hs : Sg h) (x : Int32) : rd (wr h 138 72 x) 138 72 = x := rd_wr_eq x (by rw [sh_138 hs]; rfl)
theorem g_138_73 {h : pH} (hs : Sg h) : getI h 138 12 73 = some (rd h 138 73) := getI_sh (sh_138 hs) rfl
theorem p_138_73 {h : pH} (hs : Sg h) (x : Int32) : putI h 138 12 73 x = some (wr h 138 73 x) := putI_sh x (sh_138 hs) rfl
theorem z_138_73 {h : pH} (hs : Sg h) {x : Int32} (hx : x = 0 ∨ x = 1) : putZ h 138 12 73 x = some (wr h 138 73 x) := putZ_sh hx (sh_138 hs) rfl
theorem w_138_73 {h : pH} (hs : Sg h) (x : Int32) : rd (wr h 138 73 x) 138 73 = x := rd_wr_eq x (by rw [sh_138 hs]; rfl)
theorem g_138_74 {h : pH} (hs : Sg h) : getI h 138 12 74 = some (rd h 138 74) := getI_sh (sh_138 hs) rfl
theorem p_138_74 {h : pH} (hs : Sg h) (x : Int32) : putI h 138 12 74 x = some (wr h 138 74 x) := putI_sh x (sh_138 hs) rfl
theorem z_138_74 {h : pH} (hs : Sg h) {x : Int32} (hx : x = 0 ∨ x = 1) : putZ h 138 12 74 x = some (wr h 138 74 x) := putZ_sh hx (sh_138 hs) rfl
theorem w_138_74 {h : pH} (hs : Sg h) (x : Int32) : rd (wr h 138 74 x) 138 74 = x := rd_wr_eq x (by rw [sh_138 hs]; rfl)
theorem g_138_75 {h : pH} (hs : Sg h) : getI h 138 12 75 = some (rd h 138 75) := getI_sh (sh_138 hs) rfl
theorem p_138_75 {h : pH} (hs : Sg h) (x : Int32) : putI h 138 12 75 x = some (wr h 138 75 x) := putI_sh x (sh_138 hs) rfl
theorem z_138_75 {h : pH} (hs : Sg h) {x : Int32} (hx : x = 0 ∨ x = 1) : putZ h 138 12 75 x = some (wr h 138 75 x) := putZ_sh hx (sh_138 hs) rfl
theorem w_138_75 {h : pH} (hs : Sg h) (x : Int32) : rd (wr h 138 75 x) 138 75 = x := rd_wr_eq x (by rw [sh_138 hs]; rfl)
theorem g_138_76 {h : pH} (hs : Sg h) : getI h 138 12 76 = some (rd h 138 76) := getI_sh (sh_138 hs) rfl
theorem p_138_76 {h : pH} (hs : Sg h) (x : Int32) : putI h 138 12 76 x = some (wr h 138 76 x) := putI_sh x (sh_138 hs) rfl
theorem z_138_76 {h : pH} (hs : Sg h) {x : Int32} (hx : x = 0 ∨ x = 1) : putZ h 138 12 76 x = some (wr h 138 76 x) := putZ_sh hx (sh_138 hs) rfl
theorem w_138_76 {h : pH} (hs : Sg h) (x : Int32) : rd (wr h 138 76 x) 138 76 = x := rd_wr_eq x (by rw [sh_138 hs]; rfl)
theorem g_138_77 {h : pH} (hs : Sg h) : getI h 138 12 77 = some (rd h 138 77) := getI_sh (sh_138 hs) rfl
theorem p_138_77 {h : pH} (hs : Sg h) (x : Int32) : putI h 138 12 77 x = some (wr h 138 77 x) := putI_sh x (sh_138 hs) rfl
theorem z_138_77 {h : pH} (hs : Sg h) {x : Int32} (hx : x = 0 ∨ x = 1) : putZ h 138 12 77 x = some (wr h 138 77 x) := putZ_sh hx (sh_138 hs) rfl
theorem w_138_77 {h : pH} (hs : Sg h) (x : Int32) : rd (wr h 138 77 x) 138 77 = x := rd_wr_eq x (by rw [sh_138 hs]; rfl)
theorem g_138_78 {h : pH} (hs : Sg h) : getI h 138 12 78 = some (rd h 138 78) := getI_sh (sh_138 hs) rfl
theorem p_138_78 {h : pH} (hs : Sg h) (x : Int32) : putI h 138 12 78 x = some (wr h 138 78 x) := putI_sh x (sh_138 hs) rfl
theorem z_138_78 {h : pH} (hs : Sg h) {x : Int32} (hx : x = 0 ∨ x = 1) : putZ h 138 12 78 x = some (wr h 138 78 x) := putZ_sh hx (sh_138 hs) rfl
theorem w_138_78 {h : pH} (hs : Sg h) (x : Int32) : rd (wr h 138 78 x) 138 78 = x := rd_wr_eq x (by rw [sh_138 hs]; rfl)
theorem R_138_79 {h : pH} (hs : Sg h) : getR h 138 12 79 = some 183 := getR_sh (sh_138 hs) rfl
theorem g_138_80 {h : pH} (hs : Sg h) : getI h 138 12 80 = some (rd h 138 80) := getI_sh (sh_138 hs) rfl
theorem p_138_80 {h : pH} (hs : Sg h) (x : Int32) : putI h 138 12 80 x = some (wr h 138 80 x) := putI_sh x (sh_138 hs) rfl
theorem z_138_80 {h : pH} (hs : Sg h) {x : Int32} (hx : x = 0 ∨ x = 1) : putZ h 138 12 80 x = some (wr h 138 80 x) := putZ_sh hx (sh_138 hs) rfl
theorem w_138_80 {h : pH} (hs : Sg h) (x : Int32) : rd (wr h 138 80 x) 138 80 = x := rd_wr_eq x (by rw [sh_138 hs]; rfl)
theorem R_138_81 {h : pH} (hs : Sg h) : getR h 138 12 81 = some 184 := getR_sh (sh_138 hs) rfl
theorem g_138_82 {h : pH} (hs : Sg h) : getI h 138 12 82 = some (rd h 138 82) := getI_sh (sh_138 hs) rfl
theorem p_138_82 {h : pH} (hs : Sg h) (x : Int32) : putI h 138 12 82 x = some (wr h 138 82 x) := putI_sh x (sh_138 hs) rfl
theorem z_138_82 {h : pH} (hs : Sg h) {x : Int32} (hx : x = 0 ∨ x = 1) : putZ h 138 12 82 x = some (wr h 138 82 x) := putZ_sh hx (sh_138 hs) rfl
theorem w_138_82 {h : pH} (hs : Sg h) (x : Int32) : rd (wr h 138 82 x) 138 82 = x := rd_wr_eq x (by rw [sh_138 hs]; rfl)
theorem R_138_83 {h : pH} (hs : Sg h) : getR h 138 12 83 = some 185 := getR_sh (sh_138 hs) rfl
theorem R_138_84 {h : pH} (hs : Sg h) : getR h 138 12 84 = some 186 := getR_sh (sh_138 hs) rfl
theorem R_138_85 {h : pH} (hs : Sg h) : getR h 138 12 85 = some 187 := getR_sh (sh_138 hs) rfl
theorem R_138_86 {h : pH} (hs : Sg h) : getR h 138 12 86 = some 188 := getR_sh (sh_138 hs) rfl
theorem R_138_87 {h : pH} (hs : Sg h) : getR h 138 12 87 = some 189 := getR_sh (sh_138 hs) rfl
theorem R_138_88 {h : pH} (hs : Sg h) : getR h 138 12 88 = some 190 := getR_sh (sh_138 hs) rfl
theorem g_138_89 {h : pH} (hs : Sg h) : getI h 138 12 89 = some (rd h 138 89) := getI_sh (sh_138 hs) rfl
theorem p_138_89 {h : pH} (hs : Sg h) (x : Int32) : putI h 138 12 89 x = some (wr h 138 89 x) := putI_sh x (sh_138 hs) rfl
theorem z_138_89 {h : pH} (hs : Sg h) {x : Int32} (hx : x = 0 ∨ x = 1) : putZ h 138 12 89 x = some (wr h 138 89 x) := putZ_sh hx (sh_138 hs) rfl
theorem w_138_89 {h : pH} (hs : Sg h) (x : Int32) : rd (wr h 138 89 x) 138 89 = x := rd_wr_eq x (by rw [sh_138 hs]; rfl)
theorem g_138_90 {h : pH} (hs : Sg h) : getI h 138 12 90 = some (rd h 138 90) := getI_sh (sh_138 hs) rfl
theorem p_138_90 {h : pH} (hs : Sg h) (x : Int32) : putI h 138 12 90 x = some (wr h 138 90 x) := putI_sh x (sh_138 hs) rfl
theorem z_138_90 {h : pH} (hs : Sg h) {x : Int32} (hx : x = 0 ∨ x = 1) : putZ h 138 12 90 x = some (wr h 138 90 x) := putZ_sh hx (sh_138 hs) rfl
theorem w_138_90 {h : pH} (hs : Sg h) (x : Int32) : rd (wr h 138 90 x) 138 90 = x := rd_wr_eq x (by rw [sh_138 hs]; rfl)
theorem R_138_91 {h : pH} (hs : Sg h) : getR h 138 12 91 = some 191 := getR_sh (sh_138 hs) rfl
theorem R_138_92 {h : pH} (hs : Sg h) : getR h 138 12 92 = some 192 := getR_sh (sh_138 hs) rfl
theorem g_138_93 {h : pH} (hs : Sg h) : getI h 138 12 93 = some (rd h 138 93) := getI_sh (sh_138 hs) rfl
theorem p_138_93 {h : pH} (hs : Sg h) (x : Int32) : putI h 138 12 93 x = some (wr h 138 93 x) := putI_sh x (sh_138 hs) rfl
theorem z_138_93 {h : pH} (hs : Sg h) {x : Int32} (hx : x = 0 ∨ x = 1) : putZ h 138 12 93 x = some (wr h 138 93 x) := putZ_sh hx (sh_138 hs) rfl
theorem w_138_93 {h : pH} (hs : Sg h) (x : Int32) : rd (wr h 138 93 x) 138 93 = x := rd_wr_eq x (by rw [sh_138 hs]; rfl)
theorem R_138_94 {h : pH} (hs : Sg h) : getR h 138 12 94 = some 193 := getR_sh (sh_138 hs) rfl
theorem R_138_95 {h : pH} (hs : Sg h) : getR h 138 12 95 = some 194 := getR_sh (sh_138 hs) rfl
theorem R_138_96 {h : pH} (hs : Sg h) : getR h 138 12 96 = some 195 := getR_sh (sh_138 hs) rfl
theorem R_138_97 {h : pH} (hs : Sg h) : getR h 138 12 97 = some 196 := getR_sh (sh_138 hs) rfl
theorem R_138_98 {h : pH} (hs : Sg h) : getR h 138 12 98 = some 197 := getR_sh (sh_138 hs) rfl
theorem R_138_99 {h : pH} (hs : Sg h) : getR h 138 12 99 = some 198 := getR_sh (sh_138 hs) rfl
theorem g_138_100 {h : pH} (hs : Sg h) : getI h 138 12 100 = some (rd h 138 100) := getI_sh (sh_138 hs) rfl
theorem p_138_100 {h : pH} (hs : Sg h) (x : Int32) : putI h 138 12 100 x = some (wr h 138 100 x) := putI_sh x (sh_138 hs) rfl
theorem z_138_100 {h : pH} (hs : Sg h) {x : Int32} (hx : x = 0 ∨ x = 1) : putZ h 138 12 100 x = some (wr h 138 100 x) := putZ_sh hx (sh_138 hs) rfl
theorem w_138_100 {h : pH} (hs : Sg h) (x : Int32) : rd (wr h 138 100 x) 138 100 = x := rd_wr_eq x (by rw [sh_138 hs]; rfl)
theorem R_138_101 {h : pH} (hs : Sg h) : getR h 138 12 101 = some 199 := getR_sh (sh_138 hs) rfl
theorem R_138_102 {h : pH} (hs : Sg h) : getR h 138 12 102 = some 200 := getR_sh (sh_138 hs) rfl
theorem g_138_103 {h : pH} (hs : Sg h) : getI h 138 12 103 = some (rd h 138 103) := getI_sh (sh_138 hs) rfl
theorem p_138_103 {h : pH} (hs : Sg h) (x : Int32) : putI h 138 12 103 x = some (wr h 138 103 x) := putI_sh x (sh_138 hs) rfl
theorem z_138_103 {h : pH} (hs : Sg h) {x : Int32} (hx : x = 0 ∨ x = 1) : putZ h 138 12 103 x = some (wr h 138 103 x) := putZ_sh hx (sh_138 hs) rfl
theorem w_138_103 {h : pH} (hs : Sg h) (x : Int32) : rd (wr h 138 103 x) 138 103 = x := rd_wr_eq x (by rw [sh_138 hs]; rfl)
theorem R_138_104 {h : pH} (hs : Sg h) : getR h 138 12 104 = some 201 := getR_sh (sh_138 hs) rfl
theorem R_138_105 {h : pH} (hs : Sg h) : getR h 138 12 105 = some 202 := getR_sh (sh_138 hs) rfl
theorem g_138_106 {h : pH} (hs : Sg h) : getI h 138 12 106 = some (rd h 138 106) := getI_sh (sh_138 hs) rfl
theorem p_138_106 {h : pH} (hs : Sg h) (x : Int32) : putI h 138 12 106 x = some (wr h 138 106 x) := putI_sh x (sh_138 hs) rfl
theorem z_138_106 {h : pH} (hs : Sg h) {x : Int32} (hx : x = 0 ∨ x = 1) : putZ h 138 12 106 x = some (wr h 138 106 x) := putZ_sh hx (sh_138 hs) rfl
theorem w_138_106 {h : pH} (hs : Sg h) (x : Int32) : rd (wr h 138 106 x) 138 106 = x := rd_wr_eq x (by rw [sh_138 hs]; rfl)
theorem R_138_107 {h : pH} (hs : Sg h) : getR h 138 12 107 = some 203 := getR_sh (sh_138 hs) rfl
theorem R_138_108 {h : pH} (hs : Sg h) : getR h 138 12 108 = some 204 := getR_sh (sh_138 hs) rfl
theorem sh_139 {h : pH} (hs : Sg h) : sh h 139 = some (1, 3000, []) := (hs.1 139 (by decide) (by decide) (by decide) (by decide)).trans (by decide +kernel)
theorem n_139 {h : pH} (hs : Sg h) : lenA h 139 = some (Int32.ofNat 3000) := lenA_sh (sh_139 hs) (by decide) (by decide)
theorem L_139 {h : pH} (hs : Sg h) {i : Nat} (hi : i < 3000) : ldI h 139 (Int32.ofNat i) = some (rd h 139 i) := ldI_sh (sh_139 hs) hi (by decide)
theorem T_139 {h : pH} (hs : Sg h) {i : Nat} (hi : i < 3000) (x : Int32) : stI h 139 (Int32.ofNat i) x = some (wr h 139 i x) := stI_sh x (sh_139 hs) hi (by decide)
theorem W_139 {h : pH} (hs : Sg h) (i : Nat) (x : Int32) : rd (wr h 139 i x) 139 i = x := rd_wr_eq x (by rw [sh_139 hs]; rfl)
theorem sh_140 {h : pH} (hs : Sg h) : sh h 140 = some (1, 3100, []) := (hs.1 140 (by decide) (by decide) (by decide) (by decide)).trans (by decide +kernel)
theorem n_140 {h : pH} (hs : Sg h) : lenA h 140 = some (Int32.ofNat 3100) := lenA_sh (sh_140 hs) (by decide) (by decide)
theorem L_140 {h : pH} (hs : Sg h) {i : Nat} (hi : i < 3100) : ldI h 140 (Int32.ofNat i) = some (rd h 140 i) := ldI_sh (sh_140 hs) hi (by decide)
theorem T_140 {h : pH} (hs : Sg h) {i : Nat} (hi : i < 3100) (x : Int32) : stI h 140 (Int32.ofNat i) x = some (wr h 140 i x) := stI_sh x (sh_140 hs) hi (by decide)
theorem W_140 {h : pH} (hs : Sg h) (i : Nat) (x : Int32) : rd (wr h 140 i x) 140 i = x := rd_wr_eq x (by rw [sh_140 hs]; rfl)
theorem sh_141 {h : pH} (hs : Sg h) : sh h 141 = some (1, 1600, []) := (hs.1 141 (by decide) (by decide) (by decide) (by decide)).trans (by decide +kernel)
theorem n_141 {h : pH} (hs : Sg h) : lenA h 141 = some (Int32.ofNat 1600) := lenA_sh (sh_141 hs) (by decide) (by decide)
theorem L_141 {h : pH} (hs : Sg h) {i : Nat} (hi : i < 1600) : ldI h 141 (Int32.ofNat i) = some (rd h 141 i) := ldI_sh (sh_141 hs) hi (by decide)
theorem T_141 {h : pH} (hs : Sg h) {i : Nat} (hi : i < 1600) (x : Int32) : stI h 141 (Int32.ofNat i) x = some (wr h 141 i x) := stI_sh x (sh_141 hs) hi (by decide)
theorem W_141 {h : pH} (hs : Sg h) (i : Nat) (x : Int32) : rd (wr h 141 i x) 141 i = x := rd_wr_eq x (by rw [sh_141 hs]; rfl)
theorem sh_142 {h : pH} (hs : Sg h) : sh h 142 = some (1, 1600, []) := (hs.1 142 (by decide) (by decide) (by decide) (by decide)).trans (by decide +kernel)
theorem n_142 {h : pH} (hs : Sg h) : lenA h 142 = some (Int32.ofNat 1600) := lenA_sh (sh_142 hs) (by decide) (by decide)
theorem L_142 {h : pH} (hs : Sg h) {i : Nat} (hi : i < 1600) : ldI h 142 (Int32.ofNat i) = some (rd h 142 i) := ldI_sh (sh_142 hs) hi (by decide)
theorem T_142 {h : pH} (hs : Sg h) {i : Nat} (hi : i < 1600) (x : Int32) : stI h 142 (Int32.ofNat i) x = some (wr h 142 i x) := stI_sh x (sh_142 hs) hi (by decide)
theorem W_142 {h : pH} (hs : Sg h) (i : Nat) (x : Int32) : rd (wr h 142 i x) 142 i = x := rd_wr_eq x (by rw [sh_142 hs]; rfl)
theorem sh_143 {h : pH} (hs : Sg h) : sh h 143 = some (1, 40, []) := (hs.1 143 (by decide) (by decide) (by decide) (by decide)).trans (by decide +kernel)
theorem n_143 {h : pH} (hs : Sg h) : lenA h 143 = some (Int32.ofNat 40) := lenA_sh (sh_143 hs) (by decide) (by decide)
theorem L_143 {h : pH} (hs : Sg h) {i : Nat} (hi : i < 40) : ldI h 143 (Int32.ofNat i) = some (rd h 143 i) := ldI_sh (sh_143 hs) hi (by decide)
theorem T_143 {h : pH} (hs : Sg h) {i : Nat} (hi : i < 40) (x : Int32) : stI h 143 (Int32.ofNat i) x = some (wr h 143 i x) := stI_sh x (sh_143 hs) hi (by decide)
theorem W_143 {h : pH} (hs : Sg h) (i : Nat) (x : Int32) : rd (wr h 143 i x) 143 i = x := rd_wr_eq x (by rw [sh_143 hs]; rfl)
theorem sh_144 {h : pH} (hs : Sg h) : sh h 144 = some (1, 3200, []) := (hs.1 144 (by decide) (by decide) (by decide) (by decide)).trans (by decide +kernel)
theorem n_144 {h : pH} (hs : Sg h) : lenA h 144 = some (Int32.ofNat 3200) := lenA_sh (sh_144 hs) (by decide) (by decide)
theorem L_144 {h : pH} (hs : Sg h) {i : Nat} (hi : i < 3200) : ldI h 144 (Int32.ofNat i) = some (rd h 144 i) := ldI_sh (sh_144 hs) hi (by decide)
theorem T_144 {h : pH} (hs : Sg h) {i : Nat} (hi : i < 3200) (x : Int32) : stI h 144 (Int32.ofNat i) x = some (wr h 144 i x) := stI_sh x (sh_144 hs) hi (by decide)
theorem W_144 {h : pH} (hs : Sg h) (i : Nat) (x : Int32) : rd (wr h 144 i x) 144 i = x := rd_wr_eq x (by rw [sh_144 hs]; rfl)
theorem sh_145 {h : pH} (hs : Sg h) : sh h 145 = some (1, 3200, []) := (hs.1 145 (by decide) (by decide) (by decide) (by decide)).trans (by decide +kernel)
theorem n_145 {h : pH} (hs : Sg h) : lenA h 145 = some (Int32.ofNat 3200) := lenA_sh (sh_145 hs) (by decide) (by decide)
theorem L_145 {h : pH} (hs : Sg h) {i : Nat} (hi : i < 3200) : ldI h 145 (Int32.ofNat i) = some (rd h 145 i) := ldI_sh (sh_145 hs) hi (by decide)
theorem T_145 {h : pH} (hs : Sg h) {i : Nat} (hi : i < 3200) (x : Int32) : stI h 145 (Int32.ofNat i) x = some (wr h 145 i x) := stI_sh x (sh_145 hs) hi (by decide)
theorem W_145 {h : pH} (hs : Sg h) (i : Nat) (x : Int32) : rd (wr h 145 i x) 145 i = x := rd_wr_eq x (by rw [sh_145 hs]; rfl)
theorem sh_146 {h : pH} (hs : Sg h) : sh h 146 = some (1, 3200, []) := (hs.1 146 (by decide) (by decide) (by decide) (by decide)).trans (by decide +kernel)
theorem n_146 {h : pH} (hs : Sg h) : lenA h 146 = some (Int32.ofNat 3200) := lenA_sh (sh_146 hs) (by decide) (by decide)
theorem L_146 {h : pH} (hs : Sg h) {i : Nat} (hi : i < 3200) : ldI h 146 (Int32.ofNat i) = some (rd h 146 i) := ldI_sh (sh_146 hs) hi (by decide)
theorem T_146 {h : pH} (hs : Sg h) {i : Nat} (hi : i < 3200) (x : Int32) : stI h 146 (Int32.ofNat i) x = some (wr h 146 i x) := stI_sh x (sh_146 hs) hi (by decide)
theorem W_146 {h : pH} (hs : Sg h) (i : Nat) (x : Int32) : rd (wr h 146 i x) 146 i = x := rd_wr_eq x (by rw [sh_146 hs]; rfl)
theorem sh_147 {h : pH} (hs : Sg h) : sh h 147 = some (1, 3200, []) := (hs.1 147 (by decide) (by decide) (by decide) (by decide)).trans (by decide +kernel)
theorem n_147 {h : pH} (hs : Sg h) : lenA h 147 = some (Int32.ofNat 3200) := lenA_sh (sh_147 hs) (by decide) (by decide)
theorem L_147 {h : pH} (hs : Sg h) {i : Nat} (hi : i < 3200) : ldI h 147 (Int32.ofNat i) = some (rd h 147 i) := ldI_sh (sh_147 hs) hi (by decide)
theorem T_147 {h : pH} (hs : Sg h) {i : Nat} (hi : i < 3200) (x : Int32) : stI h 147 (Int32.ofNat i) x = some (wr h 147 i x) := stI_sh x (sh_147 hs) hi (by decide)
theorem W_147 {h : pH} (hs : Sg h) (i : Nat) (x : Int32) : rd (wr h 147 i x) 147 i = x := rd_wr_eq x (by rw [sh_147 hs]; rfl)
theorem sh_148 {h : pH} (hs : Sg h) : sh h 148 = some (1, 3200, []) := (hs.1 148 (by decide) (by decide) (by decide) (by decide)).trans (by decide +kernel)
theorem n_148 {h : pH} (hs : Sg h) : lenA h 148 = some (Int32.ofNat 3200) := lenA_sh (sh_148 hs) (by decide) (by decide)
theorem L_148 {h : pH} (hs : Sg h) {i : Nat} (hi : i < 3200) : ldI h 148 (Int32.ofNat i) = some (rd h 148 i) := ldI_sh (sh_148 hs) hi (by decide)
theorem T_148 {h : pH} (hs : Sg h) {i : Nat} (hi : i < 3200) (x : Int32) : stI h 148 (Int32.ofNat i) x = some (wr h 148 i x) := stI_sh x (sh_148 hs) hi (by decide)
theorem W_148 {h : pH} (hs : Sg h) (i : Nat) (x : Int32) : rd (wr h 148 i x) 148 i = x := rd_wr_eq x (by rw [sh_148 hs]; rfl)
theorem sh_149 {h : pH} (hs : Sg h) : sh h 149 = some (1, 3200, []) := (hs.1 149 (by decide) (by decide) (by decide) (by decide)).trans (by decide +kernel)
theorem n_149 {h : pH} (hs : Sg h) : lenA h 149 = some (Int32.ofNat 3200) := lenA_sh (sh_149 hs) (by decide) (by decide)
theorem L_149 {h : pH} (hs : Sg h) {i : Nat} (hi : i < 3200) : ldI h 149 (Int32.ofNat i) = some (rd h 149 i) := ldI_sh (sh_149 hs) hi (by decide)
theorem T_149 {h : pH} (hs : Sg h) {i : Nat} (hi : i < 3200) (x : Int32) : stI h 149 (Int32.ofNat i) x = some (wr h 149 i x) := stI_sh x (sh_149 hs) hi (by decide)
theorem W_149 {h : pH} (hs : Sg h) (i : Nat) (x : Int32) : rd (wr h 149 i x) 149 i = x := rd_wr_eq x (by rw [sh_149 hs]; rfl)
theorem sh_150 {h : pH} (hs : Sg h) : sh h 150 = some (1, 3200, []) := (hs.1 150 (by decide) (by decide) (by decide) (by decide)).trans (by decide +kernel)
theorem n_150 {h : pH} (hs : Sg h) : lenA h 150 = some (Int32.ofNat 3200) := lenA_sh (sh_150 hs) (by decide) (by decide)
theorem L_150 {h : pH} (hs : Sg h) {i : Nat} (hi : i < 3200) : ldI h 150 (Int32.ofNat i) = some (rd h 150 i) := ldI_sh (sh_150 hs) hi (by decide)
theorem T_150 {h : pH} (hs : Sg h) {i : Nat} (hi : i < 3200) (x : Int32) : stI h 150 (Int32.ofNat i) x = some (wr h 150 i x) := stI_sh x (sh_150 hs) hi (by decide)
theorem W_150 {h : pH} (hs : Sg h) (i : Nat) (x : Int32) : rd (wr h 150 i x) 150 i = x := rd_wr_eq x (by rw [sh_150 hs]; rfl)
theorem sh_151 {h : pH} (hs : Sg h) : sh h 151 = some (1, 1600, []) := (hs.1 151 (by decide) (by decide) (by decide) (by decide)).trans (by decide +kernel)
theorem n_151 {h : pH} (hs : Sg h) : lenA h 151 = some (Int32.ofNat 1600) := lenA_sh (sh_151 hs) (by decide) (by decide)
theorem L_151 {h : pH} (hs : Sg h) {i : Nat} (hi : i < 1600) : ldI h 151 (Int32.ofNat i) = some (rd h 151 i) := ldI_sh (sh_151 hs) hi (by decide)
theorem T_151 {h : pH} (hs : Sg h) {i : Nat} (hi : i < 1600) (x : Int32) : stI h 151 (Int32.ofNat i) x = some (wr h 151 i x) := stI_sh x (sh_151 hs) hi (by decide)
theorem W_151 {h : pH} (hs : Sg h) (i : Nat) (x : Int32) : rd (wr h 151 i x) 151 i = x := rd_wr_eq x (by rw [sh_151 hs]; rfl)
theorem sh_152 {h : pH} (hs : Sg h) : sh h 152 = some (1, 1600, []) := (hs.1 152 (by decide) (by decide) (by decide) (by decide)).trans (by decide +kernel)
theorem n_152 {h : pH} (hs : Sg h) : lenA h 152 = some (Int32.ofNat 1600) := lenA_sh (sh_152 hs) (by decide) (by decide)
theorem L_152 {h : pH} (hs : Sg h) {i : Nat} (hi : i < 1600) : ldI h 152 (Int32.ofNat i) = some (rd h 152 i) := ldI_sh (sh_152 hs) hi (by decide)
theorem T_152 {h : pH} (hs : Sg h) {i : Nat} (hi : i < 1600) (x : Int32) : stI h 152 (Int32.ofNat i) x = some (wr h 152 i x) := stI_sh x (sh_152 hs) hi (by decide)
theorem W_152 {h : pH} (hs : Sg h) (i : Nat) (x : Int32) : rd (wr h 152 i x) 152 i = x := rd_wr_eq x (by rw [sh_152 hs]; rfl)
theorem sh_153 {h : pH} (hs : Sg h) : sh h 153 = some (1, 1600, []) := (hs.1 153 (by decide) (by decide) (by decide) (by decide)).trans (by decide +kernel)
theorem n_153 {h : pH} (hs : Sg h) : lenA h 153 = some (Int32.ofNat 1600) := lenA_sh (sh_153 hs) (by decide) (by decide)
theorem L_153 {h : pH} (hs : Sg h) {i : Nat} (hi : i < 1600) : ldI h 153 (Int32.ofNat i) = some (rd h 153 i) := ldI_sh (sh_153 hs) hi (by decide)
theorem T_153 {h : pH} (hs : Sg h) {i : Nat} (hi : i < 1600) (x : Int32) : stI h 153 (Int32.ofNat i) x = some (wr h 153 i x) := stI_sh x (sh_153 hs) hi (by decide)
theorem W_153 {h : pH} (hs : Sg h) (i : Nat) (x : Int32) : rd (wr h 153 i x) 153 i = x := rd_wr_eq x (by rw [sh_153 hs]; rfl)
theorem sh_154 {h : pH} (hs : Sg h) : sh h 154 = some (1, 1600, []) := (hs.1 154 (by decide) (by decide) (by decide) (by decide)).trans (by decide +kernel)
theorem n_154 {h : pH} (hs : Sg h) : lenA h 154 = some (Int32.ofNat 1600) := lenA_sh (sh_154 hs) (by decide) (by decide)
theorem L_154 {h : pH} (hs : Sg h) {i : Nat} (hi : i < 1600) : ldI h 154 (Int32.ofNat i) = some (rd h 154 i) := ldI_sh (sh_154 hs) hi (by decide)
theorem T_154 {h : pH} (hs : Sg h) {i : Nat} (hi : i < 1600) (x : Int32) : stI h 154 (Int32.ofNat i) x = some (wr h 154 i x) := stI_sh x (sh_154 hs) hi (by decide)
theorem W_154 {h : pH} (hs : Sg h) (i : Nat) (x : Int32) : rd (wr h 154 i x) 154 i = x := rd_wr_eq x (by rw [sh_154 hs]; rfl)
theorem sh_155 {h : pH} (hs : Sg h) : sh h 155 = some (1, 1600, []) := (hs.1 155 (by decide) (by decide) (by decide) (by decide)).trans (by decide +kernel)
theorem n_155 {h : pH} (hs : Sg h) : lenA h 155 = some (Int32.ofNat 1600) := lenA_sh (sh_155 hs) (by decide) (by decide)
theorem L_155 {h : pH} (hs : Sg h) {i : Nat} (hi : i < 1600) : ldI h 155 (Int32.ofNat i) = some (rd h 155 i) := ldI_sh (sh_155 hs) hi (by decide)
theorem T_155 {h : pH} (hs : Sg h) {i : Nat} (hi : i < 1600) (x : Int32) : stI h 155 (Int32.ofNat i) x = some (wr h 155 i x) := stI_sh x (sh_155 hs) hi (by decide)
theorem W_155 {h : pH} (hs : Sg h) (i : Nat) (x : Int32) : rd (wr h 155 i x) 155 i = x := rd_wr_eq x (by rw [sh_155 hs]; rfl)
theorem sh_156 {h : pH} (hs : Sg h) : sh h 156 = some (1, 1600, []) := (hs.1 156 (by decide) (by decide) (by decide) (by decide)).trans (by decide +kernel)
theorem n_156 {h : pH} (hs : Sg h) : lenA h 156 = some (Int32.ofNat 1600) := lenA_sh (sh_156 hs) (by decide) (by decide)
theorem L_156 {h : pH} (hs : Sg h) {i : Nat} (hi : i < 1600) : ldI h 156 (Int32.ofNat i) = some (rd h 156 i) := ldI_sh (sh_156 hs) hi (by decide)
theorem T_156 {h : pH} (hs : Sg h) {i : Nat} (hi : i < 1600) (x : Int32) : stI h 156 (Int32.ofNat i) x = some (wr h 156 i x) := stI_sh x (sh_156 hs) hi (by decide)
theorem W_156 {h : pH} (hs : Sg h) (i : Nat) (x : Int32) : rd (wr h 156 i x) 156 i = x := rd_wr_eq x (by rw [sh_156 hs]; rfl)
theorem sh_157 {h : pH} (hs : Sg h) : sh h 157 = some (1, 1600, []) := (hs.1 157 (by decide) (by decide) (by decide) (by decide)).trans (by decide +kernel)
theorem n_157 {h : pH} (hs : Sg h) : lenA h 157 = some (Int32.ofNat 1600) := lenA_sh (sh_157 hs) (by decide) (by decide)
theorem L_157 {h : pH} (hs : Sg h) {i : Nat} (hi : i < 1600) : ldI h 157 (Int32.ofNat i) = some (rd h 157 i) := ldI_sh (sh_157 hs) hi (by decide)
theorem T_157 {h : pH} (hs : Sg h) {i : Nat} (hi : i < 1600) (x : Int32) : stI h 157 (Int32.ofNat i) x = some (wr h 157 i x) := stI_sh x (sh_157 hs) hi (by decide)
theorem W_157 {h : pH} (hs : Sg h) (i : Nat) (x : Int32) : rd (wr h 157 i x) 157 i = x := rd_wr_eq x (by rw [sh_157 hs]; rfl)
theorem sh_158 {h : pH} (hs : Sg h) : sh h 158 = some (1, 1600, []) := (hs.1 158 (by decide) (by decide) (by decide) (by decide)).trans (by decide +kernel)
theorem n_158 {h : pH} (hs : Sg h) : lenA h 158 = some (Int32.ofNat 1600) := lenA_sh (sh_158 hs) (by decide) (by decide)
theorem L_158 {h : pH} (hs : Sg h) {i : Nat} (hi : i < 1600) : ldI h 158 (Int32.ofNat i) = some (rd h 158 i) := ldI_sh (sh_158 hs) hi (by decide)
theorem T_158 {h : pH} (hs : Sg h) {i : Nat} (hi : i < 1600) (x : Int32) : stI h 158 (Int32.ofNat i) x = some (wr h 158 i x) := stI_sh x (sh_158 hs) hi (by decide)
theorem W_158 {h : pH} (hs : Sg h) (i : Nat) (x : Int32) : rd (wr h 158 i x) 158 i = x := rd_wr_eq x (by rw [sh_158 hs]; rfl)
theorem sh_159 {h : pH} (hs : Sg h) : sh h 159 = some (1, 1600, []) := (hs.1 159 (by decide) (by decide) (by decide) (by decide)).trans (by decide +kernel)
theorem n_159 {h : pH} (hs : Sg h) : lenA h 159 = some (Int32.ofNat 1600) := lenA_sh (sh_159 hs) (by decide) (by decide)
theorem L_159 {h : pH} (hs : Sg h) {i : Nat} (hi : i < 1600) : ldI h 159 (Int32.ofNat i) = some (rd h 159 i) := ldI_sh (sh_159 hs) hi (by decide)
theorem T_159 {h : pH} (hs : Sg h) {i : Nat} (hi : i < 1600) (x : Int32) : stI h 159 (Int32.ofNat i) x = some (wr h 159 i x) := stI_sh x (sh_159 hs) hi (by decide)
theorem W_159 {h : pH} (hs : Sg h) (i : Nat) (x : Int32) : rd (wr h 159 i x) 159 i = x := rd_wr_eq x (by rw [sh_159 hs]; rfl)
theorem sh_160 {h : pH} (hs : Sg h) : sh h 160 = some (1, 1600, []) := (hs.1 160 (by decide) (by decide) (by decide) (by decide)).trans (by decide +kernel)
theorem n_160 {h : pH} (hs : Sg h) : lenA h 160 = some (Int32.ofNat 1600) := lenA_sh (sh_160 hs) (by decide) (by decide)
theorem L_160 {h : pH} (hs : Sg h) {i : Nat} (hi : i < 1600) : ldI h 160 (Int32.ofNat i) = some (rd h 160 i) := ldI_sh (sh_160 hs) hi (by decide)
theorem T_160 {h : pH} (hs : Sg h) {i : Nat} (hi : i < 1600) (x : Int32) : stI h 160 (Int32.ofNat i) x = some (wr h 160 i x) := stI_sh x (sh_160 hs) hi (by decide)
theorem W_160 {h : pH} (hs : Sg h) (i : Nat) (x : Int32) : rd (wr h 160 i x) 160 i = x := rd_wr_eq x (by rw [sh_160 hs]; rfl)
theorem sh_161 {h : pH} (hs : Sg h) : sh h 161 = some (1, 1600, []) := (hs.1 161 (by decide) (by decide) (by decide) (by decide)).trans (by decide +kernel)
theorem n_161 {h : pH} (hs : Sg h) : lenA h 161 = some (Int32.ofNat 1600) := lenA_sh (sh_161 hs) (by decide) (by decide)
theorem L_161 {h : pH} (hs : Sg h) {i : Nat} (hi : i < 1600) : ldI h 161 (Int32.ofNat i) = some (rd h 161 i) := ldI_sh (sh_161 hs) hi (by decide)
theorem T_161 {h : pH} (hs : Sg h) {i : Nat} (hi : i < 1600) (x : Int32) : stI h 161 (Int32.ofNat i) x = some (wr h 161 i x) := stI_sh x (sh_161 hs) hi (by decide)
theorem W_161 {h : pH} (hs : Sg h) (i : Nat) (x : Int32) : rd (wr h 161 i x) 161 i = x := rd_wr_eq x (by rw [sh_161 hs]; rfl)
theorem sh_162 {h : pH} (hs : Sg h) : sh h 162 = some (1, 350, []) := (hs.1 162 (by decide) (by decide) (by decide) (by decide)).trans (by decide +kernel)
theorem n_162 {h : pH} (hs : Sg h) : lenA h 162 = some (Int32.ofNat 350) := lenA_sh (sh_162 hs) (by decide) (by decide)
theorem L_162 {h : pH} (hs : Sg h) {i : Nat} (hi : i < 350) : ldI h 162 (Int32.ofNat i) = some (rd h 162 i) := ldI_sh (sh_162 hs) hi (by decide)
theorem T_162 {h : pH} (hs : Sg h) {i : Nat} (hi : i < 350) (x : Int32) : stI h 162 (Int32.ofNat i) x = some (wr h 162 i x) := stI_sh x (sh_162 hs) hi (by decide)
theorem W_162 {h : pH} (hs : Sg h) (i : Nat) (x : Int32) : rd (wr h 162 i x) 162 i = x := rd_wr_eq x (by rw [sh_162 hs]; rfl)
theorem sh_163 {h : pH} (hs : Sg h) : sh h 163 = some (1, 350, []) := (hs.1 163 (by decide) (by decide) (by decide) (by decide)).trans (by decide +kernel)
theorem n_163 {h : pH} (hs : Sg h) : lenA h 163 = some (Int32.ofNat 350) := lenA_sh (sh_163 hs) (by decide) (by decide)
theorem L_163 {h : pH} (hs : Sg h) {i : Nat} (hi : i < 350) : ldI h 163 (Int32.ofNat i) = some (rd h 163 i) := ldI_sh (sh_163 hs) hi (by decide)
theorem T_163 {h : pH} (hs : Sg h) {i : Nat} (hi : i < 350) (x : Int32) : stI h 163 (Int32.ofNat i) x = some (wr h 163 i x) := stI_sh x (sh_163 hs) hi (by decide)
theorem W_163 {h : pH} (hs : Sg h) (i : Nat) (x : Int32) : rd (wr h 163 i x) 163 i = x := rd_wr_eq x (by rw [sh_163 hs]; rfl)
theorem sh_164 {h : pH} (hs : Sg h) : sh h 164 = some (1, 350, []) := (hs.1 164 (by decide) (by decide) (by decide) (by decide)).trans (by decide +kernel)
theorem n_164 {h : pH} (hs : Sg h) : lenA h 164 = some (Int32.ofNat 350) := lenA_sh (sh_164 hs) (by decide) (by decide)
theorem L_164 {h : pH} (hs : Sg h) {i : Nat} (hi : i < 350) : ldI h 164 (Int32.ofNat i) = some (rd h 164 i) := ldI_sh (sh_164 hs) hi (by decide)
theorem T_164 {h : pH} (hs : Sg h) {i : Nat} (hi : i < 350) (x : Int32) : stI h 164 (Int32.ofNat i) x = some (wr h 164 i x) := stI_sh x (sh_164 hs) hi (by decide)
theorem W_164 {h : pH} (hs : Sg h) (i : Nat) (x : Int32) : rd (wr h 164 i x) 164 i = x := rd_wr_eq x (by rw [sh_164 hs]; rfl)
theorem sh_165 {h : pH} (hs : Sg h) : sh h 165 = some (1, 350, []) := (hs.1 165 (by decide) (by decide) (by decide) (by decide)).trans (by decide +kernel)
theorem n_165 {h : pH} (hs : Sg h) : lenA h 165 = some (Int32.ofNat 350) := lenA_sh (sh_165 hs) (by decide) (by decide)
theorem L_165 {h : pH} (hs : Sg h) {i : Nat} (hi : i < 350) : ldI h 165 (Int32.ofNat i) = some (rd h 165 i) := ldI_sh (sh_165 hs) hi (by decide)
theorem T_165 {h : pH} (hs : Sg h) {i : Nat} (hi : i < 350) (x : Int32) : stI h 165 (Int32.ofNat i) x = some (wr h 165 i x) := stI_sh x (sh_165 hs) hi (by decide)
theorem W_165 {h : pH} (hs : Sg h) (i : Nat) (x : Int32) : rd (wr h 165 i x) 165 i = x := rd_wr_eq x (by rw [sh_165 hs]; rfl)
theorem sh_166 {h : pH} (hs : Sg h) : sh h 166 = some (1, 350, []) := (hs.1 166 (by decide) (by decide) (by decide) (by decide)).trans (by decide +kernel)
theorem n_166 {h : pH} (hs : Sg h) : lenA h 166 = some (Int32.ofNat 350) := lenA_sh (sh_166 hs) (by decide) (by decide)
theorem L_166 {h : pH} (hs : Sg h) {i : Nat} (hi : i < 350) : ldI h 166 (Int32.ofNat i) = some (rd h 166 i) := ldI_sh (sh_166 hs) hi (by decide)
theorem T_166 {h : pH} (hs : Sg h) {i : Nat} (hi : i < 350) (x : Int32) : stI h 166 (Int32.ofNat i) x = some (wr h 166 i x) := stI_sh x (sh_166 hs) hi (by decide)
theorem W_166 {h : pH} (hs : Sg h) (i : Nat) (x : Int32) : rd (wr h 166 i x) 166 i = x := rd_wr_eq x (by rw [sh_166 hs]; rfl)
theorem sh_167 {h : pH} (hs : Sg h) : sh h 167 = some (1, 351, []) := (hs.1 167 (by decide) (by decide) (by decide) (by decide)).trans (by decide +kernel)
theorem n_167 {h : pH} (hs : Sg h) : lenA h 167 = some (Int32.ofNat 351) := lenA_sh (sh_167 hs) (by decide) (by decide)
theorem L_167 {h : pH} (hs : Sg h) {i : Nat} (hi : i < 351) : ldI h 167 (Int32.ofNat i) = some (rd h 167 i) := ldI_sh (sh_167 hs) hi (by decide)
theorem T_167 {h : pH} (hs : Sg h) {i : Nat} (hi : i < 351) (x : Int32) : stI h 167 (Int32.ofNat i) x = some (wr h 167 i x) := stI_sh x (sh_167 hs) hi (by decide)
theorem W_167 {h : pH} (hs : Sg h) (i : Nat) (x : Int32) : rd (wr h 167 i x) 167 i = x := rd_wr_eq x (by rw [sh_167 hs]; rfl)
theorem sh_168 {h : pH} (hs : Sg h) : sh h 168 = some (1, 800, []) := (hs.1 168 (by decide) (by decide) (by decide) (by decide)).trans (by decide +kernel)
theorem n_168 {h : pH} (hs : Sg h) : lenA h 168 = some (Int32.ofNat 800) := lenA_sh (sh_168 hs) (by decide) (by decide)
theorem L_168 {h : pH} (hs : Sg h) {i : Nat} (hi : i < 800) : ldI h 168 (Int32.ofNat i) = some (rd h 168 i) := ldI_sh (sh_168 hs) hi (by decide)
theorem T_168 {h : pH} (hs : Sg h) {i : Nat} (hi : i < 800) (x : Int32) : stI h 168 (Int32.ofNat i) x = some (wr h 168 i x) := stI_sh x (sh_168 hs) hi (by decide)
theorem W_168 {h : pH} (hs : Sg h) (i : Nat) (x : Int32) : rd (wr h 168 i x) 168 i = x := rd_wr_eq x (by rw [sh_168 hs]; rfl)
theorem sh_169 {h : pH} (hs : Sg h) : sh h 169 = some (1, 800, []) := (hs.1 169 (by decide) (by decide) (by decide) (by decide)).trans (by decide +kernel)
theorem n_169 {h : pH} (hs : Sg h) : lenA h 169 = some (Int32.ofNat 800) := lenA_sh (sh_169 hs) (by decide) (by decide)
theorem L_169 {h : pH} (hs : Sg h) {i : Nat} (hi : i < 800) : ldI h 169 (Int32.ofNat i) = some (rd h 169 i) := ldI_sh (sh_169 hs) hi (by decide)
theorem T_169 {h : pH} (hs : Sg h) {i : Nat} (hi : i < 800) (x : Int32) : stI h 169 (Int32.ofNat i) x = some (wr h 169 i x) := stI_sh x (sh_169 hs) hi (by decide)
theorem W_169 {h : pH} (hs : Sg h) (i : Nat) (x : Int32) : rd (wr h 169 i x) 169 i = x := rd_wr_eq x (by rw [sh_169 hs]; rfl)
theorem sh_170 {h : pH} (hs : Sg h) : sh h 170 = some (1, 800, []) := (hs.1 170 (by decide) (by decide) (by decide) (by decide)).trans (by decide +kernel)
theorem n_170 {h : pH} (hs : Sg h) : lenA h 170 = some (Int32.ofNat 800) := lenA_sh (sh_170 hs) (by decide) (by decide)
theorem L_170 {h : pH} (hs : Sg h) {i : Nat} (hi : i < 800) : ldI h 170 (Int32.ofNat i) = some (rd h 170 i) := ldI_sh (sh_170 hs) hi (by decide)
theorem T_170 {h : pH} (hs : Sg h) {i : Nat} (hi : i < 800) (x : Int32) : stI h 170 (Int32.ofNat i) x = some (wr h 170 i x) := stI_sh x (sh_170 hs) hi (by decide)
theorem W_170 {h : pH} (hs : Sg h) (i : Nat) (x : Int32) : rd (wr h 170 i x) 170 i = x := rd_wr_eq x (by rw [sh_170 hs]; rfl)
theorem sh_171 {h : pH} (hs : Sg h) : sh h 171 = some (9, 800, []) := (hs.1 171 (by decide) (by decide) (by decide) (by decide)).trans (by decide +kernel)
theorem n_171 {h : pH} (hs : Sg h) : lenA h 171 = some (Int32.ofNat 800) := lenA_sh (sh_171 hs) (by decide) (by decide)
theorem L_171 {h : pH} (hs : Sg h) {i : Nat} (hi : i < 800) : ldZ h 171 (Int32.ofNat i) = some (rd h 171 i) := ldZ_sh (sh_171 hs) hi (by decide)
theorem T_171 {h : pH} (hs : Sg h) {i : Nat} (hi : i < 800) {x : Int32} (hx : x = 0 ∨ x = 1) : stZ h 171 (Int32.ofNat i) x = some (wr h 171 i x) := stZ_sh hx (sh_171 hs) hi (by decide)
theorem W_171 {h : pH} (hs : Sg h) (i : Nat) (x : Int32) : rd (wr h 171 i x) 171 i = x := rd_wr_eq x (by rw [sh_171 hs]; rfl)
theorem sh_172 {h : pH} (hs : Sg h) : sh h 172 = some (1, 801, []) := (hs.1 172 (by decide) (by decide) (by decide) (by decide)).trans (by decide +kernel)
theorem n_172 {h : pH} (hs : Sg h) : lenA h 172 = some (Int32.ofNat 801) := lenA_sh (sh_172 hs) (by decide) (by decide)
theorem L_172 {h : pH} (hs : Sg h) {i : Nat} (hi : i < 801) : ldI h 172 (Int32.ofNat i) = some (rd h 172 i) := ldI_sh (sh_172 hs) hi (by decide)
theorem T_172 {h : pH} (hs : Sg h) {i : Nat} (hi : i < 801) (x : Int32) : stI h 172 (Int32.ofNat i) x = some (wr h 172 i x) := stI_sh x (sh_172 hs) hi (by decide)
theorem W_172 {h : pH} (hs : Sg h) (i : Nat) (x : Int32) : rd (wr h 172 i x) 172 i = x := rd_wr_eq x (by rw [sh_172 hs]; rfl)
theorem sh_173 {h : pH} (hs : Sg h) : sh h 173 = some (1, 800, []) := (hs.1 173 (by decide) (by decide) (by decide) (by decide)).trans (by decide +kernel)
theorem n_173 {h : pH} (hs : Sg h) : lenA h 173 = some (Int32.ofNat 800) := lenA_sh (sh_173 hs) (by decide) (by decide)
theorem L_173 {h : pH} (hs : Sg h) {i : Nat} (hi : i < 800) : ldI h 173 (Int32.ofNat i) = some (rd h 173 i) := ldI_sh (sh_173 hs) hi (by decide)
theorem T_173 {h : pH} (hs : Sg h) {i : Nat} (hi : i < 800) (x : Int32) : stI h 173 (Int32.ofNat i) x = some (wr h 173 i x) := stI_sh x (sh_173 hs) hi (by decide)
theorem W_173 {h : pH} (hs : Sg h) (i : Nat) (x : Int32) : rd (wr h 173 i x) 173 i = x := rd_wr_eq x (by rw [sh_173 hs]; rfl)
theorem sh_174 {h : pH} (hs : Sg h) : sh h 174 = some (1, 800, []) := (hs.1 174 (by decide) (by decide) (by decide) (by decide)).trans (by decide +kernel)
theorem n_174 {h : pH} (hs : Sg h) : lenA h 174 = some (Int32.ofNat 800) := lenA_sh (sh_174 hs) (by decide) (by decide)
theorem L_174 {h : pH} (hs : Sg h) {i : Nat} (hi : i < 800) : ldI h 174 (Int32.ofNat i) = some (rd h 174 i) := ldI_sh (sh_174 hs) hi (by decide)
theorem T_174 {h : pH} (hs : Sg h) {i : Nat} (hi : i < 800) (x : Int32) : stI h 174 (Int32.ofNat i) x = some (wr h 174 i x) := stI_sh x (sh_174 hs) hi (by decide)
theorem W_174 {h : pH} (hs : Sg h) (i : Nat) (x : Int32) : rd (wr h 174 i x) 174 i = x := rd_wr_eq x (by rw [sh_174 hs]; rfl)
theorem sh_175 {h : pH} (hs : Sg h) : sh h 175 = some (1, 800, []) := (hs.1 175 (by decide) (by decide) (by decide) (by decide)).trans (by decide +kernel)
theorem n_175 {h : pH} (hs : Sg h) : lenA h 175 = some (Int32.ofNat 800) := lenA_sh (sh_175 hs) (by decide) (by decide)
theorem L_175 {h : pH} (hs : Sg h) {i : Nat} (hi : i < 800) : ldI h 175 (Int32.ofNat i) = some (rd h 175 i) := ldI_sh (sh_175 hs) hi (by decide)
theorem T_175 {h : pH} (hs : Sg h) {i : Nat} (hi : i < 800) (x : Int32) : stI h 175 (Int32.ofNat i) x = some (wr h 175 i x) := stI_sh x (sh_175 hs) hi (by decide)
theorem W_175 {h : pH} (hs : Sg h) (i : Nat) (x : Int32) : rd (wr h 175 i x) 175 i = x := rd_wr_eq x (by rw [sh_175 hs]; rfl)
theorem sh_176 {h : pH} (hs : Sg h) : sh h 176 = some (1, 900, []) := (hs.1 176 (by decide) (by decide) (by decide) (by decide)).trans (by decide +kernel)
theorem n_176 {h : pH} (hs : Sg h) : lenA h 176 = some (Int32.ofNat 900) := lenA_sh (sh_176 hs) (by decide) (by decide)
theorem L_176 {h : pH} (hs : Sg h) {i : Nat} (hi : i < 900) : ldI h 176 (Int32.ofNat i) = some (rd h 176 i) := ldI_sh (sh_176 hs) hi (by decide)
theorem T_176 {h : pH} (hs : Sg h) {i : Nat} (hi : i < 900) (x : Int32) : stI h 176 (Int32.ofNat i) x = some (wr h 176 i x) := stI_sh x (sh_176 hs) hi (by decide)
theorem W_176 {h : pH} (hs : Sg h) (i : Nat) (x : Int32) : rd (wr h 176 i x) 176 i = x := rd_wr_eq x (by rw [sh_176 hs]; rfl)
theorem sh_177 {h : pH} (hs : Sg h) : sh h 177 = some (1, 900, []) := (hs.1 177 (by decide) (by decide) (by decide) (by decide)).trans (by decide +kernel)
theorem n_177 {h : pH} (hs : Sg h) : lenA h 177 = some (Int32.ofNat 900) := lenA_sh (sh_177 hs) (by decide) (by decide)
theorem L_177 {h : pH} (hs : Sg h) {i : Nat} (hi : i < 900) : ldI h 177 (Int32.ofNat i) = some (rd h 177 i) := ldI_sh (sh_177 hs) hi (by decide)
theorem T_177 {h : pH} (hs : Sg h) {i : Nat} (hi : i < 900) (x : Int32) : stI h 177 (Int32.ofNat i) x = some (wr h 177 i x) := stI_sh x (sh_177 hs) hi (by decide)
theorem W_177 {h : pH} (hs : Sg h) (i : Nat) (x : Int32) : rd (wr h 177 i x) 177 i = x := rd_wr_eq x (by rw [sh_177 hs]; rfl)
theorem sh_178 {h : pH} (hs : Sg h) : sh h 178 = some (1, 1000, []) := (hs.1 178 (by decide) (by decide) (by decide) (by decide)).trans (by decide +kernel)
theorem n_178 {h : pH} (hs : Sg h) : lenA h 178 = some (Int32.ofNat 1000) := lenA_sh (sh_178 hs) (by decide) (by decide)
theorem L_178 {h : pH} (hs : Sg h) {i : Nat} (hi : i < 1000) : ldI h 178 (Int32.ofNat i) = some (rd h 178 i) := ldI_sh (sh_178 hs) hi (by decide)
theorem T_178 {h : pH} (hs : Sg h) {i : Nat} (hi : i < 1000) (x : Int32) : stI h 178 (Int32.ofNat i) x = some (wr h 178 i x) := stI_sh x (sh_178 hs) hi (by decide)
theorem W_178 {h : pH} (hs : Sg h) (i : Nat) (x : Int32) : rd (wr h 178 i x) 178 i = x := rd_wr_eq x (by rw [sh_178 hs]; rfl)
theorem sh_179 {h : pH} (hs : Sg h) : sh h 179 = some (1, 1000, []) := (hs.1 179 (by decide) (by decide) (by decide) (by decide)).trans (by decide +kernel)
theorem n_179 {h : pH} (hs : Sg h) : lenA h 179 = some (Int32.ofNat 1000) := lenA_sh (sh_179 hs) (by decide) (by decide)
theorem L_179 {h : pH} (hs : Sg h) {i : Nat} (hi : i < 1000) : ldI h 179 (Int32.ofNat i) = some (rd h 179 i) := ldI_sh (sh_179 hs) hi (by decide)
theorem T_179 {h : pH} (hs : Sg h) {i : Nat} (hi : i < 1000) (x : Int32) : stI h 179 (Int32.ofNat i) x = some (wr h 179 i x) := stI_sh x (sh_179 hs) hi (by decide)
theorem W_179 {h : pH} (hs : Sg h) (i : Nat) (x : Int32) : rd (wr h 179 i x) 179 i = x := rd_wr_eq x (by rw [sh_179 hs]; rfl)
theorem sh_180 {h : pH} (hs : Sg h) : sh h 180 = some (9, 1000, []) := (hs.1 180 (by decide) (by decide) (by decide) (by decide)).trans (by decide +kernel)
theorem n_180 {h : pH} (hs : Sg h) : lenA h 180 = some (Int32.ofNat 1000) := lenA_sh (sh_180 hs) (by decide) (by decide)
theorem L_180 {h : pH} (hs : Sg h) {i : Nat} (hi : i < 1000) : ldZ h 180 (Int32.ofNat i) = some (rd h 180 i) := ldZ_sh (sh_180 hs) hi (by decide)
theorem T_180 {h : pH} (hs : Sg h) {i : Nat} (hi : i < 1000) {x : Int32} (hx : x = 0 ∨ x = 1) : stZ h 180 (Int32.ofNat i) x = some (wr h 180 i x) := stZ_sh hx (sh_180 hs) hi (by decide)
theorem W_180 {h : pH} (hs : Sg h) (i : Nat) (x : Int32) : rd (wr h 180 i x) 180 i = x := rd_wr_eq x (by rw [sh_180 hs]; rfl)
theorem sh_181 {h : pH} (hs : Sg h) : sh h 181 = some (9, 100000, []) := (hs.1 181 (by decide) (by decide) (by decide) (by decide)).trans (by decide +kernel)
theorem n_181 {h : pH} (hs : Sg h) : lenA h 181 = some (Int32.ofNat 100000) := lenA_sh (sh_181 hs) (by decide) (by decide)
theorem L_181 {h : pH} (hs : Sg h) {i : Nat} (hi : i < 100000) : ldZ h 181 (Int32.ofNat i) = some (rd h 181 i) := ldZ_sh (sh_181 hs) hi (by decide)
theorem T_181 {h : pH} (hs : Sg h) {i : Nat} (hi : i < 100000) {x : Int32} (hx : x = 0 ∨ x = 1) : stZ h 181 (Int32.ofNat i) x = some (wr h 181 i x) := stZ_sh hx (sh_181 hs) hi (by decide)
theorem W_181 {h : pH} (hs : Sg h) (i : Nat) (x : Int32) : rd (wr h 181 i x) 181 i = x := rd_wr_eq x (by rw [sh_181 hs]; rfl)
theorem sh_182 {h : pH} (hs : Sg h) : sh h 182 = some (1, 3200, []) := (hs.1 182 (by decide) (by decide) (by decide) (by decide)).trans (by decide +kernel)
theorem n_182 {h : pH} (hs : Sg h) : lenA h 182 = some (Int32.ofNat 3200) := lenA_sh (sh_182 hs) (by decide) (by decide)
theorem L_182 {h : pH} (hs : Sg h) {i : Nat} (hi : i < 3200) : ldI h 182 (Int32.ofNat i) = some (rd h 182 i) := ldI_sh (sh_182 hs) hi (by decide)
theorem T_182 {h : pH} (hs : Sg h) {i : Nat} (hi : i < 3200) (x : Int32) : stI h 182 (Int32.ofNat i) x = some (wr h 182 i x) := stI_sh x (sh_182 hs) hi (by decide)
theorem W_182 {h : pH} (hs : Sg h) (i : Nat) (x : Int32) : rd (wr h 182 i x) 182 i = x := rd_wr_eq x (by rw [sh_182 hs]; rfl)
theorem sh_183 {h : pH} (hs : Sg h) : sh h 183 = some (1, 500, []) := (hs.1 183 (by decide) (by decide) (by decide) (by decide)).trans (by decide +kernel)
theorem n_183 {h : pH} (hs : Sg h) : lenA h 183 = some (Int32.ofNat 500) := lenA_sh (sh_183 hs) (by decide) (by decide)
theorem L_183 {h : pH} (hs : Sg h) {i : Nat} (hi : i < 500) : ldI h 183 (Int32.ofNat i) = some (rd h 183 i) := ldI_sh (sh_183 hs) hi (by decide)
theorem T_183 {h : pH} (hs : Sg h) {i : Nat} (hi : i < 500) (x : Int32) : stI h 183 (Int32.ofNat i) x = some (wr h 183 i x) := stI_sh x (sh_183 hs) hi (by decide)
theorem W_183 {h : pH} (hs : Sg h) (i : Nat) (x : Int32) : rd (wr h 183 i x) 183 i = x := rd_wr_eq x (by rw [sh_183 hs]; rfl)
theorem sh_184 {h : pH} (hs : Sg h) : sh h 184 = some (1, 300, []) := (hs.1 184 (by decide) (by decide) (by decide) (by decide)).trans (by decide +kernel)
theorem n_184 {h : pH} (hs : Sg h) : lenA h 184 = some (Int32.ofNat 300) := lenA_sh (sh_184 hs) (by decide) (by decide)
theorem L_184 {h : pH} (hs : Sg h) {i : Nat} (hi : i < 300) : ldI h 184 (Int32.ofNat i) = some (rd h 184 i) := ldI_sh (sh_184 hs) hi (by decide)
theorem T_184 {h : pH} (hs : Sg h) {i : Nat} (hi : i < 300) (x : Int32) : stI h 184 (Int32.ofNat i) x = some (wr h 184 i x) := stI_sh x (sh_184 hs) hi (by decide)
theorem W_184 {h : pH} (hs : Sg h) (i : Nat) (x : Int32) : rd (wr h 184 i x) 184 i = x := rd_wr_eq x (by rw [sh_184 hs]; rfl)
theorem sh_185 {h : pH} (hs : Sg h) : sh h 185 = some (1, 5200, []) := (hs.1 185 (by decide) (by decide) (by decide) (by decide)).trans (by decide +kernel)
theorem n_185 {h : pH} (hs : Sg h) : lenA h 185 = some (Int32.ofNat 5200) := lenA_sh (sh_185 hs) (by decide) (by decide)
theorem L_185 {h : pH} (hs : Sg h) {i : Nat} (hi : i < 5200) : ldI h 185 (Int32.ofNat i) = some (rd h 185 i) := ldI_sh (sh_185 hs) hi (by decide)
theorem T_185 {h : pH} (hs : Sg h) {i : Nat} (hi : i < 5200) (x : Int32) : stI h 185 (Int32.ofNat i) x = some (wr h 185 i x) := stI_sh x (sh_185 hs) hi (by decide)
theorem W_185 {h : pH} (hs : Sg h) (i : Nat) (x : Int32) : rd (wr h 185 i x) 185 i = x := rd_wr_eq x (by rw [sh_185 hs]; rfl)
theorem sh_186 {h : pH} (hs : Sg h) : sh h 186 = some (1, 5200, []) := (hs.1 186 (by decide) (by decide) (by decide) (by decide)).trans (by decide +kernel)
theorem n_186 {h : pH} (hs : Sg h) : lenA h 186 = some (Int32.ofNat 5200) := lenA_sh (sh_186 hs) (by decide) (by decide)
theorem L_186 {h : pH} (hs : Sg h) {i : Nat} (hi : i < 5200) : ldI h 186 (Int32.ofNat i) = some (rd h 186 i) := ldI_sh (sh_186 hs) hi (by decide)
theorem T_186 {h : pH} (hs : Sg h) {i : Nat} (hi : i < 5200) (x : Int32) : stI h 186 (Int32.ofNat i) x = some (wr h 186 i x) := stI_sh x (sh_186 hs) hi (by decide)
theorem W_186 {h : pH} (hs : Sg h) (i : Nat) (x : Int32) : rd (wr h 186 i x) 186 i = x := rd_wr_eq x (by rw [sh_186 hs]; rfl)
theorem sh_187 {h : pH} (hs : Sg h) : sh h 187 = some (1, 5200, []) := (hs.1 187 (by decide) (by decide) (by decide) (by decide)).trans (by decide +kernel)
theorem n_187 {h : pH} (hs : Sg h) : lenA h 187 = some (Int32.ofNat 5200) := lenA_sh (sh_187 hs) (by decide) (by decide)
theorem L_187 {h : pH} (hs : Sg h) {i : Nat} (hi : i < 5200) : ldI h 187 (Int32.ofNat i) = some (rd h 187 i) := ldI_sh (sh_187 hs) hi (by decide)
theorem T_187 {h : pH} (hs : Sg h) {i : Nat} (hi : i < 5200) (x : Int32) : stI h 187 (Int32.ofNat i) x = some (wr h 187 i x) := stI_sh x (sh_187 hs) hi (by decide)
theorem W_187 {h : pH} (hs : Sg h) (i : Nat) (x : Int32) : rd (wr h 187 i x) 187 i = x := rd_wr_eq x (by rw [sh_187 hs]; rfl)
theorem sh_188 {h : pH} (hs : Sg h) : sh h 188 = some (9, 5200, []) := (hs.1 188 (by decide) (by decide) (by decide) (by decide)).trans (by decide +kernel)
theorem n_188 {h : pH} (hs : Sg h) : lenA h 188 = some (Int32.ofNat 5200) := lenA_sh (sh_188 hs) (by decide) (by decide)
theorem L_188 {h : pH} (hs : Sg h) {i : Nat} (hi : i < 5200) : ldZ h 188 (Int32.ofNat i) = some (rd h 188 i) := ldZ_sh (sh_188 hs) hi (by decide)
theorem T_188 {h : pH} (hs : Sg h) {i : Nat} (hi : i < 5200) {x : Int32} (hx : x = 0 ∨ x = 1) : stZ h 188 (Int32.ofNat i) x = some (wr h 188 i x) := stZ_sh hx (sh_188 hs) hi (by decide)
theorem W_188 {h : pH} (hs : Sg h) (i : Nat) (x : Int32) : rd (wr h 188 i x) 188 i = x := rd_wr_eq x (by rw [sh_188 hs]; rfl)
theorem sh_189 {h : pH} (hs : Sg h) : sh h 189 = some (1, 5200, []) := (hs.1 189 (by decide) (by decide) (by decide) (by decide)).trans (by decide +kernel)
theorem n_189 {h : pH} (hs : Sg h) : lenA h 189 = some (Int32.ofNat 5200) := lenA_sh (sh_189 hs) (by decide) (by decide)
theorem L_189 {h : pH} (hs : Sg h) {i : Nat} (hi : i < 5200) : ldI h 189 (Int32.ofNat i) = some (rd h 189 i) := ldI_sh (sh_189 hs) hi (by decide)
theorem T_189 {h : pH} (hs : Sg h) {i : Nat} (hi : i < 5200) (x : Int32) : stI h 189 (Int32.ofNat i) x = some (wr h 189 i x) := stI_sh x (sh_189 hs) hi (by decide)
theorem W_189 {h : pH} (hs : Sg h) (i : Nat) (x : Int32) : rd (wr h 189 i x) 189 i = x := rd_wr_eq x (by rw [sh_189 hs]; rfl)
theorem sh_190 {h : pH} (hs : Sg h) : sh h 190 = some (1, 5200, []) := (hs.1 190 (by decide) (by decide) (by decide) (by decide)).trans (by decide +kernel)
theorem n_190 {h : pH} (hs : Sg h) : lenA h 190 = some (Int32.ofNat 5200) := lenA_sh (sh_190 hs) (by decide) (by decide)
theorem L_190 {h : pH} (hs : Sg h) {i : Nat} (hi : i < 5200) : ldI h 190 (Int32.ofNat i) = some (rd h 190 i) := ldI_sh (sh_190 hs) hi (by decide)
theorem T_190 {h : pH} (hs : Sg h) {i : Nat} (hi : i < 5200) (x : Int32) : stI h 190 (Int32.ofNat i) x = some (wr h 190 i x) := stI_sh x (sh_190 hs) hi (by decide)
theorem W_190 {h : pH} (hs : Sg h) (i : Nat) (x : Int32) : rd (wr h 190 i x) 190 i = x := rd_wr_eq x (by rw [sh_190 hs]; rfl)
theorem sh_191 {h : pH} (hs : Sg h) : sh h 191 = some (1, 12000, []) := (hs.1 191 (by decide) (by decide) (by decide) (by decide)).trans (by decide +kernel)
theorem n_191 {h : pH} (hs : Sg h) : lenA h 191 = some (Int32.ofNat 12000) := lenA_sh (sh_191 hs) (by decide) (by decide)
theorem L_191 {h : pH} (hs : Sg h) {i : Nat} (hi : i < 12000) : ldI h 191 (Int32.ofNat i) = some (rd h 191 i) := ldI_sh (sh_191 hs) hi (by decide)
theorem T_191 {h : pH} (hs : Sg h) {i : Nat} (hi : i < 12000) (x : Int32) : stI h 191 (Int32.ofNat i) x = some (wr h 191 i x) := stI_sh x (sh_191 hs) hi (by decide)
theorem W_191 {h : pH} (hs : Sg h) (i : Nat) (x : Int32) : rd (wr h 191 i x) 191 i = x := rd_wr_eq x (by rw [sh_191 hs]; rfl)
theorem sh_192 {h : pH} (hs : Sg h) : sh h 192 = some (9, 12000, []) := (hs.1 192 (by decide) (by decide) (by decide) (by decide)).trans (by decide +kernel)
theorem n_192 {h : pH} (hs : Sg h) : lenA h 192 = some (Int32.ofNat 12000) := lenA_sh (sh_192 hs) (by decide) (by decide)
theorem L_192 {h : pH} (hs : Sg h) {i : Nat} (hi : i < 12000) : ldZ h 192 (Int32.ofNat i) = some (rd h 192 i) := ldZ_sh (sh_192 hs) hi (by decide)
theorem T_192 {h : pH} (hs : Sg h) {i : Nat} (hi : i < 12000) {x : Int32} (hx : x = 0 ∨ x = 1) : stZ h 192 (Int32.ofNat i) x = some (wr h 192 i x) := stZ_sh hx (sh_192 hs) hi (by decide)
theorem W_192 {h : pH} (hs : Sg h) (i : Nat) (x : Int32) : rd (wr h 192 i x) 192 i = x := rd_wr_eq x (by rw [sh_192 hs]; rfl)
theorem sh_193 {h : pH} (hs : Sg h) : sh h 193 = some (1, 101, []) := (hs.1 193 (by decide) (by decide) (by decide) (by decide)).trans (by decide +kernel)
theorem n_193 {h : pH} (hs : Sg h) : lenA h 193 = some (Int32.ofNat 101) := lenA_sh (sh_193 hs) (by decide) (by decide)
theorem L_193 {h : pH} (hs : Sg h) {i : Nat} (hi : i < 101) : ldI h 193 (Int32.ofNat i) = some (rd h 193 i) := ldI_sh (sh_193 hs) hi (by decide)
theorem T_193 {h : pH} (hs : Sg h) {i : Nat} (hi : i < 101) (x : Int32) : stI h 193 (Int32.ofNat i) x = some (wr h 193 i x) := stI_sh x (sh_193 hs) hi (by decide)
theorem W_193 {h : pH} (hs : Sg h) (i : Nat) (x : Int32) : rd (wr h 193 i x) 193 i = x := rd_wr_eq x (by rw [sh_193 hs]; rfl)
theorem sh_194 {h : pH} (hs : Sg h) : sh h 194 = some (1, 101, []) := (hs.1 194 (by decide) (by decide) (by decide) (by decide)).trans (by decide +kernel)
theorem n_194 {h : pH} (hs : Sg h) : lenA h 194 = some (Int32.ofNat 101) := lenA_sh (sh_194 hs) (by decide) (by decide)
theorem L_194 {h : pH} (hs : Sg h) {i : Nat} (hi : i < 101) : ldI h 194 (Int32.ofNat i) = some (rd h 194 i) := ldI_sh (sh_194 hs) hi (by decide)
theorem T_194 {h : pH} (hs : Sg h) {i : Nat} (hi : i < 101) (x : Int32) : stI h 194 (Int32.ofNat i) x = some (wr h 194 i x) := stI_sh x (sh_194 hs) hi (by decide)
theorem W_194 {h : pH} (hs : Sg h) (i : Nat) (x : Int32) : rd (wr h 194 i x) 194 i = x := rd_wr_eq x (by rw [sh_194 hs]; rfl)
theorem sh_195 {h : pH} (hs : Sg h) : sh h 195 = some (1, 101, []) := (hs.1 195 (by decide) (by decide) (by decide) (by decide)).trans (by decide +kernel)
theorem n_195 {h : pH} (hs : Sg h) : lenA h 195 = some (Int32.ofNat 101) := lenA_sh (sh_195 hs) (by decide) (by decide)
theorem L_195 {h : pH} (hs : Sg h) {i : Nat} (hi : i < 101) : ldI h 195 (Int32.ofNat i) = some (rd h 195 i) := ldI_sh (sh_195 hs) hi (by decide)
theorem T_195 {h : pH} (hs : Sg h) {i : Nat} (hi : i < 101) (x : Int32) : stI h 195 (Int32.ofNat i) x = some (wr h 195 i x) := stI_sh x (sh_195 hs) hi (by decide)
theorem W_195 {h : pH} (hs : Sg h) (i : Nat) (x : Int32) : rd (wr h 195 i x) 195 i = x := rd_wr_eq x (by rw [sh_195 hs]; rfl)
theorem sh_196 {h : pH} (hs : Sg h) : sh h 196 = some (1, 101, []) := (hs.1 196 (by decide) (by decide) (by decide) (by decide)).trans (by decide +kernel)
theorem n_196 {h : pH} (hs : Sg h) : lenA h 196 = some (Int32.ofNat 101) := lenA_sh (sh_196 hs) (by decide) (by decide)
theorem L_196 {h : pH} (hs : Sg h) {i : Nat} (hi : i < 101) : ldI h 196 (Int32.ofNat i) = some (rd h 196 i) := ldI_sh (sh_196 hs) hi (by decide)
theorem T_196 {h : pH} (hs : Sg h) {i : Nat} (hi : i < 101) (x : Int32) : stI h 196 (Int32.ofNat i) x = some (wr h 196 i x) := stI_sh x (sh_196 hs) hi (by decide)
theorem W_196 {h : pH} (hs : Sg h) (i : Nat) (x : Int32) : rd (wr h 196 i x) 196 i = x := rd_wr_eq x (by rw [sh_196 hs]; rfl)
theorem sh_197 {h : pH} (hs : Sg h) : sh h 197 = some (1, 90000, []) := (hs.1 197 (by decide) (by decide) (by decide) (by decide)).trans (by decide +kernel)
theorem n_197 {h : pH} (hs : Sg h) : lenA h 197 = some (Int32.ofNat 90000) := lenA_sh (sh_197 hs) (by decide) (by decide)
theorem L_197 {h : pH} (hs : Sg h) {i : Nat} (hi : i < 90000) : ldI h 197 (Int32.ofNat i) = some (rd h 197 i) := ldI_sh (sh_197 hs) hi (by decide)
theorem T_197 {h : pH} (hs : Sg h) {i : Nat} (hi : i < 90000) (x : Int32) : stI h 197 (Int32.ofNat i) x = some (wr h 197 i x) := stI_sh x (sh_197 hs) hi (by decide)
theorem W_197 {h : pH} (hs : Sg h) (i : Nat) (x : Int32) : rd (wr h 197 i x) 197 i = x := rd_wr_eq x (by rw [sh_197 hs]; rfl)
theorem sh_198 {h : pH} (hs : Sg h) : sh h 198 = some (9, 90000, []) := (hs.1 198 (by decide) (by decide) (by decide) (by decide)).trans (by decide +kernel)
theorem n_198 {h : pH} (hs : Sg h) : lenA h 198 = some (Int32.ofNat 90000) := lenA_sh (sh_198 hs) (by decide) (by decide)
theorem L_198 {h : pH} (hs : Sg h) {i : Nat} (hi : i < 90000) : ldZ h 198 (Int32.ofNat i) = some (rd h 198 i) := ldZ_sh (sh_198 hs) hi (by decide)
theorem T_198 {h : pH} (hs : Sg h) {i : Nat} (hi : i < 90000) {x : Int32} (hx : x = 0 ∨ x = 1) : stZ h 198 (Int32.ofNat i) x = some (wr h 198 i x) := stZ_sh hx (sh_198 hs) hi (by decide)
theorem W_198 {h : pH} (hs : Sg h) (i : Nat) (x : Int32) : rd (wr h 198 i x) 198 i = x := rd_wr_eq x (by rw [sh_198 hs]; rfl)
theorem sh_199 {h : pH} (hs : Sg h) : sh h 199 = some (1, 200000, []) := (hs.1 199 (by decide) (by decide) (by decide) (by decide)).trans (by decide +kernel)
theorem n_199 {h : pH} (hs : Sg h) : lenA h 199 = some (Int32.ofNat 200000) := lenA_sh (sh_199 hs) (by decide) (by decide)
theorem L_199 {h : pH} (hs : Sg h) {i : Nat} (hi : i < 200000) : ldI h 199 (Int32.ofNat i) = some (rd h 199 i) := ldI_sh (sh_199 hs) hi (by decide)
theorem T_199 {h : pH} (hs : Sg h) {i : Nat} (hi : i < 200000) (x : Int32) : stI h 199 (Int32.ofNat i) x = some (wr h 199 i x) := stI_sh x (sh_199 hs) hi (by decide)
theorem W_199 {h : pH} (hs : Sg h) (i : Nat) (x : Int32) : rd (wr h 199 i x) 199 i = x := rd_wr_eq x (by rw [sh_199 hs]; rfl)
theorem sh_200 {h : pH} (hs : Sg h) : sh h 200 = some (9, 200000, []) := (hs.1 200 (by decide) (by decide) (by decide) (by decide)).trans (by decide +kernel)
theorem n_200 {h : pH} (hs : Sg h) : lenA h 200 = some (Int32.ofNat 200000) := lenA_sh (sh_200 hs) (by decide) (by decide)
theorem L_200 {h : pH} (hs : Sg h) {i : Nat} (hi : i < 200000) : ldZ h 200 (Int32.ofNat i) = some (rd h 200 i) := ldZ_sh (sh_200 hs) hi (by decide)
theorem T_200 {h : pH} (hs : Sg h) {i : Nat} (hi : i < 200000) {x : Int32} (hx : x = 0 ∨ x = 1) : stZ h 200 (Int32.ofNat i) x = some (wr h 200 i x) := stZ_sh hx (sh_200 hs) hi (by decide)
theorem W_200 {h : pH} (hs : Sg h) (i : Nat) (x : Int32) : rd (wr h 200 i x) 200 i = x := rd_wr_eq x (by rw [sh_200 hs]; rfl)
theorem sh_201 {h : pH} (hs : Sg h) : sh h 201 = some (1, 400000, []) := (hs.1 201 (by decide) (by decide) (by decide) (by decide)).trans (by decide +kernel)
theorem n_201 {h : pH} (hs : Sg h) : lenA h 201 = some (Int32.ofNat 400000) := lenA_sh (sh_201 hs) (by decide) (by decide)
theorem L_201 {h : pH} (hs : Sg h) {i : Nat} (hi : i < 400000) : ldI h 201 (Int32.ofNat i) = some (rd h 201 i) := ldI_sh (sh_201 hs) hi (by decide)
theorem T_201 {h : pH} (hs : Sg h) {i : Nat} (hi : i < 400000) (x : Int32) : stI h 201 (Int32.ofNat i) x = some (wr h 201 i x) := stI_sh x (sh_201 hs) hi (by decide)
theorem W_201 {h : pH} (hs : Sg h) (i : Nat) (x : Int32) : rd (wr h 201 i x) 201 i = x := rd_wr_eq x (by rw [sh_201 hs]; rfl)
theorem sh_202 {h : pH} (hs : Sg h) : sh h 202 = some (1, 400000, []) := (hs.1 202 (by decide) (by decide) (by decide) (by decide)).trans (by decide +kernel)
theorem n_202 {h : pH} (hs : Sg h) : lenA h 202 = some (Int32.ofNat 400000) := lenA_sh (sh_202 hs) (by decide) (by decide)
theorem L_202 {h : pH} (hs : Sg h) {i : Nat} (hi : i < 400000) : ldI h 202 (Int32.ofNat i) = some (rd h 202 i) := ldI_sh (sh_202 hs) hi (by decide)
theorem T_202 {h : pH} (hs : Sg h) {i : Nat} (hi : i < 400000) (x : Int32) : stI h 202 (Int32.ofNat i) x = some (wr h 202 i x) := stI_sh x (sh_202 hs) hi (by decide)
theorem W_202 {h : pH} (hs : Sg h) (i : Nat) (x : Int32) : rd (wr h 202 i x) 202 i = x := rd_wr_eq x (by rw [sh_202 hs]; rfl)
theorem sh_203 {h : pH} (hs : Sg h) : sh h 203 = some (1, 6000, []) := (hs.1 203 (by decide) (by decide) (by decide) (by decide)).trans (by decide +kernel)
theorem n_203 {h : pH} (hs : Sg h) : lenA h 203 = some (Int32.ofNat 6000) := lenA_sh (sh_203 hs) (by decide) (by decide)
theorem L_203 {h : pH} (hs : Sg h) {i : Nat} (hi : i < 6000) : ldI h 203 (Int32.ofNat i) = some (rd h 203 i) := ldI_sh (sh_203 hs) hi (by decide)
theorem T_203 {h : pH} (hs : Sg h) {i : Nat} (hi : i < 6000) (x : Int32) : stI h 203 (Int32.ofNat i) x = some (wr h 203 i x) := stI_sh x (sh_203 hs) hi (by decide)
theorem W_203 {h : pH} (hs : Sg h) (i : Nat) (x : Int32) : rd (wr h 203 i x) 203 i = x := rd_wr_eq x (by rw [sh_203 hs]; rfl)
theorem sh_204 {h : pH} (hs : Sg h) : sh h 204 = some (1, 6000, []) := (hs.1 204 (by decide) (by decide) (by decide) (by decide)).trans (by decide +kernel)
theorem n_204 {h : pH} (hs : Sg h) : lenA h 204 = some (Int32.ofNat 6000) := lenA_sh (sh_204 hs) (by decide) (by decide)
theorem L_204 {h : pH} (hs : Sg h) {i : Nat} (hi : i < 6000) : ldI h 204 (Int32.ofNat i) = some (rd h 204 i) := ldI_sh (sh_204 hs) hi (by decide)
theorem T_204 {h : pH} (hs : Sg h) {i : Nat} (hi : i < 6000) (x : Int32) : stI h 204 (Int32.ofNat i) x = some (wr h 204 i x) := stI_sh x (sh_204 hs) hi (by decide)
theorem W_204 {h : pH} (hs : Sg h) (i : Nat) (x : Int32) : rd (wr h 204 i x) 204 i = x := rd_wr_eq x (by rw [sh_204 hs]; rfl)
