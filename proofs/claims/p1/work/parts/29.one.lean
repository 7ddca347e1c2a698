/-! ===== ONE CALL on fresh objects ===== -/
theorem two_some {α β : Type} {f : Option (Int32 × α)} {g : α → Option (Int32 × β)} {x y : Int32} (h : (f.bind fun q => (g q.2).map fun r => (q.1, r.1)) = some (x, y)) : ∃ a b, f = some (x, a) ∧ g a = some (y, b) := by
  obtain ⟨q, e1, h2⟩ := Option.bind_eq_some_iff.mp h
  obtain ⟨r, e2, e3⟩ := Option.map_eq_some_iff.mp h2
  obtain ⟨q1, q2⟩ := q
  obtain ⟨r1, r2⟩ := r
  cases e3
  exact ⟨q2, r2, e1, e2⟩
def prg0 : Option (Int32 × Int32) := (fX11_program pN 6 h0).bind fun q => (fX12_program pN 138 q.2).map fun r => (q.1, r.1)
set_option maxRecDepth 1000000 in
theorem prg0_eq : prg0 = some (-1, -1) := by decide +kernel
set_option maxRecDepth 1000000 in
theorem input0 : (fun a b c : Int32 => (fX11_input pN 6 a b c h0).bind fun q => (fX12_input pN 138 a b c q.2).map fun r => (q.1, r.1)) = fun _ _ _ => some (3, 3) := by eq_refl
/-! the tapes -/
def hG (t hs rd : Int32) (f : Nat → Int32) (R : pH) : pH := .inl (11, [.ref 7, .ref 8, .ref 17, .ref 46, .ref 50, .ref 51, .ref 126, .ref 128, .int t, .int hs, .int rd]) :: .inr (0, 3000, .inl f) :: R
theorem i_nn {T : Nat} (h : T < 2 ^ 31) : ¬ (Int32.ofNat T < 0) := fun q => by
  have := (Int32.ofNat_lt_ofNat h (by decide : (0 : Nat) < 2 ^ 31)).mp q
  omega
theorem i_cl {T : Nat} (h : T < 2 ^ 31) : (Int32.ofNat T).toNatClampNeg = T := Int32.toNatClampNeg_ofNat_of_lt h
theorem i_out {T n : Nat} (hT : T < n) (hn : n < 2 ^ 31) : ¬ (Int32.ofNat T < 0 ∨ n ≤ (Int32.ofNat T).toNatClampNeg) := by
  rw [i_cl (by omega)]
  rintro (h | h)
  · exact i_nn (by omega) h
  · omega
theorem i_add1 (T : Nat) : Int32.ofNat T + 1 = Int32.ofNat (T + 1) := by rw [Int32.ofNat_add]; rfl
theorem hG_st {T : Nat} {hs rd x : Int32} {f : Nat → Int32} {R : pH} (hT : T < 3000) : stI (hG (Int32.ofNat T) hs rd f R) 7 (Int32.ofNat T) x = some (hG (Int32.ofNat T) hs rd (upd f T x) R) := by
  show (if Int32.ofNat T < 0 ∨ 3000 ≤ (Int32.ofNat T).toNatClampNeg then none else some (pPut (hG (Int32.ofNat T) hs rd f R) 7 (.inr (0, 3000, .inl (upd f (Int32.ofNat T).toNatClampNeg x))))) = _
  rw [if_neg (i_out hT (by decide)), i_cl (by omega)]
  rfl
theorem putFour_step {N n T : Nat} {v s hs rd : Int32} {f : Nat → Int32} {R : pH} (hT : T < 3000) (hs0 : ¬ s < 0) : ∃ g, fX11_putFour_3 N (n + 1) 6 v s (hG (Int32.ofNat T) hs rd f R) = fX11_putFour_3 N n 6 v (s + (-8 : Int32)) (hG (Int32.ofNat (T + 1)) hs rd g R) := by
  refine ⟨upd f T (((v.toUInt32 >>> (s.toUInt32 &&& Int32.toUInt32 31)).toInt32) &&& (255 : Int32)), ?_⟩
  rw [fX11_putFour_3, if_neg hs0]
  rw [show getI (hG (Int32.ofNat T) hs rd f R) 6 11 8 = some (Int32.ofNat T) from rfl]
  rw [Option.bind_some, if_neg (by rw [show (3000 : Int32) = Int32.ofNat 3000 from rfl, Int32.ofNat_le_ofNat (by decide) (by omega)]; omega)]
  rw [show getR (hG (Int32.ofNat T) hs rd f R) 6 11 0 = some 7 from rfl]
  rw [Option.bind_some, Option.bind_some, hG_st hT, Option.bind_some]
  rw [show ∀ g : Nat → Int32, getI (hG (Int32.ofNat T) hs rd g R) 6 11 8 = some (Int32.ofNat T) from fun _ => rfl]
  rw [Option.bind_some, show ∀ (g : Nat → Int32) (x : Int32), putI (hG (Int32.ofNat T) hs rd g R) 6 11 8 x = some (hG x hs rd g R) from fun _ _ => rfl]
  rw [Option.bind_some, i_add1]
theorem putFour_ok {N T : Nat} {v hs rd : Int32} {f : Nat → Int32} {R : pH} (hT : T + 4 ≤ 3000) (hN : 5 ≤ N) : ∃ g, fX11_putFour N 6 v (hG (Int32.ofNat T) hs rd f R) = some (hG (Int32.ofNat (T + 4)) hs rd g R) := by
  obtain ⟨n, rfl⟩ : ∃ n, N = n + 5 := ⟨N - 5, by omega⟩
  unfold fX11_putFour
  rw [if_pos (show isO (hG (Int32.ofNat T) hs rd f R) 6 11 = true from rfl)]
  obtain ⟨g1, e1⟩ := putFour_step (N := n + 5) (n := n + 4) (T := T) (v := v) (s := 24) (hs := hs) (rd := rd) (f := f) (R := R) (by omega) (by decide)
  obtain ⟨g2, e2⟩ := putFour_step (N := n + 5) (n := n + 3) (T := T + 1) (v := v) (s := 24 + (-8)) (hs := hs) (rd := rd) (f := g1) (R := R) (by omega) (by decide)
  obtain ⟨g3, e3⟩ := putFour_step (N := n + 5) (n := n + 2) (T := T + 2) (v := v) (s := 24 + (-8) + (-8)) (hs := hs) (rd := rd) (f := g2) (R := R) (by omega) (by decide)
  obtain ⟨g4, e4⟩ := putFour_step (N := n + 5) (n := n + 1) (T := T + 3) (v := v) (s := 24 + (-8) + (-8) + (-8)) (hs := hs) (rd := rd) (f := g3) (R := R) (by omega) (by decide)
  refine ⟨g4, ?_⟩
  rw [e1, e2, e3, e4, fX11_putFour_3, if_pos (by decide)]
theorem feed_ok {N T : Nat} {a b c d e hs rd : Int32} {f : Nat → Int32} {R : pH} (hT : T ≤ 2980) (hN : 5 ≤ N) : ∃ g, fX11_feed N 6 a b c d e (hG (Int32.ofNat T) hs rd f R) = some (Int32.ofNat (T + 20), hG (Int32.ofNat (T + 20)) hs rd g R) := by
  unfold fX11_feed
  rw [if_pos (show isO (hG (Int32.ofNat T) hs rd f R) 6 11 = true from rfl)]
  rw [show getI (hG (Int32.ofNat T) hs rd f R) 6 11 8 = some (Int32.ofNat T) from rfl, Option.bind_some]
  rw [if_pos (by rw [show (2980 : Int32) = Int32.ofNat 2980 from rfl, Int32.ofNat_le_ofNat (by omega) (by decide)]; exact hT)]
  obtain ⟨g1, e1⟩ := putFour_ok (N := N) (T := T) (v := a) (hs := hs) (rd := rd) (f := f) (R := R) (by omega) hN
  obtain ⟨g2, e2⟩ := putFour_ok (N := N) (T := T + 4) (v := b) (hs := hs) (rd := rd) (f := g1) (R := R) (by omega) hN
  obtain ⟨g3, e3⟩ := putFour_ok (N := N) (T := T + 4 + 4) (v := c) (hs := hs) (rd := rd) (f := g2) (R := R) (by omega) hN
  obtain ⟨g4, e4⟩ := putFour_ok (N := N) (T := T + 4 + 4 + 4) (v := d) (hs := hs) (rd := rd) (f := g3) (R := R) (by omega) hN
  obtain ⟨g5, e5⟩ := putFour_ok (N := N) (T := T + 4 + 4 + 4 + 4) (v := e) (hs := hs) (rd := rd) (f := g4) (R := R) (by omega) hN
  refine ⟨g5, ?_⟩
  rw [e1, Option.bind_some, e2, Option.bind_some, e3, Option.bind_some, e4, Option.bind_some, e5, Option.bind_some]
  rfl
def hQ (A : pH) (t : Int32) (g : Nat → Int32) (fs : List Value) (B : pH) : pH := A ++ (.inl (12, .ref 139 :: .int t :: fs) :: .inr (0, 3000, .inl g) :: B)
theorem pAt_app {A l : pH} (hA : A.length = 132) (j : Nat) : pAt (A ++ l) (138 + j) = l[j]? := by
  unfold pAt
  rw [if_neg (by omega), List.getElem?_append_right (by omega), hA, show 138 + j - 6 - 132 = j by omega]
theorem pPut_app {A l : pH} (hA : A.length = 132) (j : Nat) (e : pE) : pPut (A ++ l) (138 + j) e = A ++ l.set j e := by
  unfold pPut
  rw [List.set_append_right _ _ (by omega), hA, show 138 + j - 6 - 132 = j by omega]
theorem hQ_0 {A : pH} (hA : A.length = 132) (t : Int32) (g : Nat → Int32) (fs : List Value) (B : pH) : pAt (hQ A t g fs B) 138 = some (.inl (12, .ref 139 :: .int t :: fs)) := pAt_app hA 0
theorem hQ_1 {A : pH} (hA : A.length = 132) (t : Int32) (g : Nat → Int32) (fs : List Value) (B : pH) : pAt (hQ A t g fs B) 139 = some (.inr (0, 3000, .inl g)) := pAt_app hA 1
theorem hQ_o {A : pH} (hA : A.length = 132) (t : Int32) (g : Nat → Int32) (fs : List Value) (B : pH) : isO (hQ A t g fs B) 138 12 = true := by
  unfold isO pIs
  dsimp only
  rw [if_neg (by decide), hQ_0 hA]
  rfl
theorem hQ_t {A : pH} (hA : A.length = 132) (t : Int32) (g : Nat → Int32) (fs : List Value) (B : pH) : getI (hQ A t g fs B) 138 12 1 = some t := by
  unfold getI
  rw [hQ_0 hA]
  rfl
theorem hQ_r {A : pH} (hA : A.length = 132) (t : Int32) (g : Nat → Int32) (fs : List Value) (B : pH) : getR (hQ A t g fs B) 138 12 0 = some 139 := by
  unfold getR
  rw [hQ_0 hA]
  rfl
theorem hQ_p {A : pH} (hA : A.length = 132) (t x : Int32) (g : Nat → Int32) (fs : List Value) (B : pH) : putI (hQ A t g fs B) 138 12 1 x = some (hQ A x g fs B) := by
  unfold putI putV
  rw [hQ_0 hA]
  show (if 12 = 12 ∧ 1 < (Value.ref 139 :: Value.int t :: fs).length then some (pPut (hQ A t g fs B) 138 (.inl (12, (Value.ref 139 :: Value.int t :: fs).set 1 (.int x)))) else none) = _
  rw [if_pos ⟨rfl, by simp⟩]
  exact congrArg some (pPut_app hA 0 _)
theorem hQ_st {A : pH} (hA : A.length = 132) {T : Nat} (t x : Int32) (g : Nat → Int32) (fs : List Value) (B : pH) (hT : T < 3000) : stI (hQ A t g fs B) 139 (Int32.ofNat T) x = some (hQ A t (upd g T x) fs B) := by
  unfold stI
  rw [hQ_1 hA]
  show (if Int32.ofNat T < 0 ∨ 3000 ≤ (Int32.ofNat T).toNatClampNeg then none else some (pPut (hQ A t g fs B) 139 (.inr (0, 3000, .inl (upd g (Int32.ofNat T).toNatClampNeg x))))) = _
  rw [if_neg (i_out hT (by decide)), i_cl (by omega)]
  exact congrArg some (pPut_app hA 1 _)
theorem feed71 {A : pH} (hA : A.length = 132) {N T K : Nat} {k18 : Nat → Int32 → Int32 → Int32 → Int32 → Int32 → Int32 → pH → Option (Int32 × pH)} {a b c d e s0 : Int32} {g : Nat → Int32} {fs : List Value} {B : pH} (hT : T < 3000) : ∃ g', fX12_feed_71 N k18 138 a b c d e (Int32.ofNat K) s0 (hQ A (Int32.ofNat T) g fs B) = k18 138 a b c d e (Int32.ofNat (K + 1)) (hQ A (Int32.ofNat (T + 1)) g' fs B) := by
  refine ⟨upd g T ((s0 >>> (((24 : Int32) - ((8 : Int32) * (Int32.ofNat K - Int32.ofNat K / (4 : Int32) * (4 : Int32)))) &&& 31)) &&& (255 : Int32)), ?_⟩
  unfold fX12_feed_71
  rw [hQ_r hA, Option.bind_some, hQ_t hA, Option.bind_some, hQ_st hA _ _ _ _ _ hT, Option.bind_some, hQ_t hA, Option.bind_some, hQ_p hA, Option.bind_some, i_add1, i_add1]
theorem feed18 {A : pH} (hA : A.length = 132) {N : Nat} {a b c d e : Int32} {fs : List Value} {B : pH} : ∀ (m n K T : Nat) (g : Nat → Int32), K + m = 20 → T + m ≤ 3000 → ∃ g', fX12_feed_18 N (n + m + 1) 138 a b c d e (Int32.ofNat K) (hQ A (Int32.ofNat T) g fs B) = some (Int32.ofNat (T + m), hQ A (Int32.ofNat (T + m)) g' fs B)
  | 0, n, K, T, g, hK, hT => by
    obtain rfl : K = 20 := by omega
    refine ⟨g, ?_⟩
    rw [fX12_feed_18, if_pos (by decide), hQ_t hA]
    rfl
  | m + 1, n, K, T, g, hK, hT => by
    have key : ∀ s0 : Int32, ∃ g', fX12_feed_71 N (fX12_feed_18 N (n + (m + 1))) 138 a b c d e (Int32.ofNat K) s0 (hQ A (Int32.ofNat T) g fs B) = some (Int32.ofNat (T + (m + 1)), hQ A (Int32.ofNat (T + (m + 1))) g' fs B) := by
      intro s0
      obtain ⟨g1, e1⟩ := feed71 hA (N := N) (T := T) (K := K) (k18 := fX12_feed_18 N (n + (m + 1))) (a := a) (b := b) (c := c) (d := d) (e := e) (s0 := s0) (g := g) (fs := fs) (B := B) (by omega)
      obtain ⟨g2, e2⟩ := feed18 hA (N := N) (a := a) (b := b) (c := c) (d := d) (e := e) (fs := fs) (B := B) m n (K + 1) (T + 1) g1 (by omega) (by omega)
      refine ⟨g2, ?_⟩
      rw [e1]
      rw [show n + (m + 1) = n + m + 1 by omega, e2, show T + 1 + m = T + (m + 1) by omega]
    rw [fX12_feed_18, if_neg (by rw [show (20 : Int32) = Int32.ofNat 20 from rfl, Int32.ofNat_le_ofNat (by decide) (by omega)]; omega)]
    split
    · split
      · split
        · split
          · exact key _
          · exact key _
        · exact key _
      · exact key _
    · exact key _
theorem feedR_ok {A : pH} (hA : A.length = 132) {N T : Nat} {a b c d e : Int32} {g : Nat → Int32} {fs : List Value} {B : pH} (hN : 21 ≤ N) (hT : T + 20 ≤ 3000) : ∃ g', fX12_feed N 138 a b c d e (hQ A (Int32.ofNat T) g fs B) = some (Int32.ofNat (T + 20), hQ A (Int32.ofNat (T + 20)) g' fs B) := by
  unfold fX12_feed
  rw [if_pos (hQ_o hA _ _ _ _), hQ_t hA, Option.bind_some, if_pos (by
    rw [show (20 : Int32) = Int32.ofNat 20 from rfl, ← Int32.ofNat_add, show (3000 : Int32) = Int32.ofNat 3000 from rfl, Int32.ofNat_le_ofNat (by omega) (by decide)]
    exact hT)]
  obtain ⟨n, rfl⟩ : ∃ n, N = n + 20 + 1 := ⟨N - 21, by omega⟩
  exact feed18 hA 20 n 0 T g (by omega) hT
theorem isIn_eq (N : Nat) (x lo hi : Int32) (h : pH) : fX12_isIn N x.toInt64 lo.toInt64 hi.toInt64 h = some (if x < lo ∨ hi < x then 0 else 1, h) := by
  have l1 : ∀ a b : Int32, a.toInt64 < b.toInt64 ↔ a < b := fun a b => by rw [Int64.lt_iff_toInt_lt, Int32.lt_iff_toInt_lt, Int32.toInt_toInt64, Int32.toInt_toInt64]
  have l2 : ∀ a b : Int64, lg_cmp a b < 0 ↔ a < b := fun a b => by
    unfold lg_cmp
    by_cases h1 : a > b
    · rw [if_pos h1]
      refine ⟨fun q => absurd q (by decide), fun q => ?_⟩
      rw [gt_iff_lt, Int64.lt_iff_toInt_lt] at h1
      rw [Int64.lt_iff_toInt_lt] at q
      omega
    · rw [if_neg h1]
      by_cases h2 : a = b
      · rw [if_pos h2]
        refine ⟨fun q => absurd q (by decide), fun q => ?_⟩
        rw [h2, Int64.lt_iff_toInt_lt] at q
        omega
      · rw [if_neg h2]
        refine ⟨fun _ => ?_, fun _ => by decide⟩
        rw [gt_iff_lt, Int64.lt_iff_toInt_lt] at h1
        rw [Int64.lt_iff_toInt_lt]
        have h3 : a.toInt ≠ b.toInt := fun q => h2 (Int64.toInt_inj.mp q)
        omega
  have l3 : ∀ a b : Int64, 0 < lg_cmp a b ↔ b < a := fun a b => by
    unfold lg_cmp
    by_cases h1 : a > b
    · rw [if_pos h1]
      exact ⟨fun _ => h1, fun _ => by decide⟩
    · rw [if_neg h1]
      by_cases h2 : a = b
      · rw [if_pos h2]
        exact ⟨fun q => absurd q (by decide), fun q => absurd q h1⟩
      · rw [if_neg h2]
        exact ⟨fun q => absurd q (by decide), fun q => absurd q h1⟩
  unfold fX12_isIn
  rw [ite_congr (propext (l2 _ _)) (fun _ => rfl) (fun _ => rfl), ite_congr (propext (l1 _ _)) (fun _ => rfl) (fun _ => rfl)]
  by_cases h1 : x < lo
  · rw [if_pos h1, if_pos (Or.inl h1)]
  · rw [if_neg h1, ite_congr (propext (l3 _ _)) (fun _ => rfl) (fun _ => rfl), ite_congr (propext (l1 _ _)) (fun _ => rfl) (fun _ => rfl)]
    by_cases h2 : hi < x
    · rw [if_pos h2, if_pos (Or.inr h2)]
    · rw [if_neg h2, if_neg (fun q => q.elim h1 h2)]
