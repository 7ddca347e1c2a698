/-! ===== THE REFERENCE moves: new numbers, frames, pile ===== -/
def asB : List Nat → Nat → Nat → Nat
  | [], _, j => j
  | i :: L, n, j => if j = i then n else asB L (n + 1) j
def asO (hp : List Ob) : List Nat → Nat → Nat → Nat
  | [], _, _ => 0
  | i :: L, a, j => if j = i then a else asO hp L (a + obL hp i) j
theorem LyR.cong {hp : List Ob} {B O B' O' : Nat → Nat} : ∀ {L : List Nat} {n a : Nat}, (∀ j, j ∈ L → B' j = B j ∧ O' j = O j) → LyR hp B O L n a → LyR hp B' O' L n a
  | [], _, _, _, _ => trivial
  | i :: L, n, a, h, q => by
    obtain ⟨q1, q2, q3, q4, q5, q6⟩ := q
    obtain ⟨e1, e2⟩ := h i (List.mem_cons_self ..)
    exact ⟨e1.trans q1, e2.trans q2, q3, q4, q5, LyR.cong (fun j hj => h j (List.mem_cons_of_mem _ hj)) q6⟩
theorem LyR.mk {hp : List Ob} : ∀ {L : List Nat} {n a : Nat}, L.Nodup → (∀ i, i ∈ L → 5 ≤ i ∧ i < hp.length) → LyR hp (asB L n) (asO hp L a) L n a
  | [], _, _, _, _ => trivial
  | i :: L, n, a, hn, h => by
    obtain ⟨n1, n2⟩ := List.nodup_cons.mp hn
    obtain ⟨h5, hl⟩ := h i (List.mem_cons_self ..)
    refine ⟨if_pos rfl, if_pos rfl, n1, h5, hl, LyR.cong (fun j hj => ?_) (LyR.mk n2 (fun j hj => h j (List.mem_cons_of_mem _ hj)))⟩
    have hji : j ≠ i := fun z => n1 (z ▸ hj)
    exact ⟨if_neg hji, if_neg hji⟩
theorem asB_no : ∀ {L : List Nat} {n j : Nat}, j ∉ L → asB L n j = j
  | [], _, _, _ => rfl
  | i :: L, n, j, h => by
    show (if j = i then n else asB L (n + 1) j) = j
    rw [if_neg (fun (z : j = i) => h (by rw [z]; exact List.mem_cons_self ..)), asB_no (fun z => h (List.mem_cons_of_mem _ z))]
theorem asO_no {hp : List Ob} : ∀ {L : List Nat} {a j : Nat}, j ∉ L → asO hp L a j = 0
  | [], _, _, _ => rfl
  | i :: L, a, j, h => by
    show (if j = i then a else asO hp L (a + obL hp i) j) = 0
    rw [if_neg (fun (z : j = i) => h (by rw [z]; exact List.mem_cons_self ..)), asO_no (fun z => h (List.mem_cons_of_mem _ z))]
theorem LyR.nd {hp : List Ob} {B O : Nat → Nat} : ∀ {L : List Nat} {n a : Nat}, LyR hp B O L n a → L.Nodup
  | [], _, _, _ => List.nodup_nil
  | i :: L, n, a, q => List.nodup_cons.mpr ⟨q.2.2.1, LyR.nd q.2.2.2.2.2⟩
def kp (bl : List Nat) (L : List Nat) : List Nat := L.filter (fun i => decide (i ∈ bl))
theorem kp_pos {bl L : List Nat} {i : Nat} (h : i ∈ bl) : kp bl (i :: L) = i :: kp bl L := List.filter_cons_of_pos (by rw [decide_eq_true h])
theorem kp_neg {bl L : List Nat} {i : Nat} (h : i ∉ bl) : kp bl (i :: L) = kp bl L := List.filter_cons_of_neg (by rw [decide_eq_false h]; decide)
theorem kp_mem {bl L : List Nat} {i : Nat} : i ∈ kp bl L ↔ i ∈ L ∧ i ∈ bl := by
  unfold kp
  rw [List.mem_filter]
  exact ⟨fun z => ⟨z.1, of_decide_eq_true z.2⟩, fun z => ⟨z.1, decide_eq_true z.2⟩⟩
section SW
variable {P : Pgm} {hp : List Ob} {H N : Nat} {B O B' O' : Nat → Nat} {L L' bl : List Nat} {h0 : pH}
/-- the first five keep their numbers -/
theorem num_5 : ∀ (r k d : Nat) (h : pH), k + r = 5 → Sg h → (∃ n, rd h 138 82 = Int32.ofNat n ∧ 5 ≤ n ∧ n < 5200) → ∃ h', fX12_sweep_4 N (d + r) 138 5 (Int32.ofNat k) h = fX12_sweep_4 N d 138 5 (Int32.ofNat 5) h' ∧ Sg h' ∧ Chg (fun a j => a = 189 ∧ k ≤ j) h h' ∧ ∀ j, k ≤ j → j < 5 → rd h' 189 j = Int32.ofNat j
  | 0, k, d, h, hk, sg, h82 => by
    obtain rfl : k = 5 := by omega
    exact ⟨h, rfl, sg, Chg.refl _ _, fun j h1 h2 => absurd h1 (by omega)⟩
  | r + 1, k, d, h, hk, sg, h82 => by
    have s1 := sg.wr 189 k (Int32.ofNat k)
    obtain ⟨n, n1, n2, n3⟩ := h82
    obtain ⟨h', a1, a2, a3, a4⟩ := num_5 r (k + 1) d (wr h 189 k (Int32.ofNat k)) (by omega) s1 ⟨n, by rw [rd_wr_ne _ _ (by omega)]; exact n1, n2, n3⟩
    refine ⟨h', ?_, a2, (Chg.wr h 189 k _ ⟨rfl, by omega⟩).trans (a3.mono (fun a j z => ⟨z.1, by omega⟩)), fun j h1 h2 => ?_⟩
    · rw [← a1]
      show fX12_sweep_4 N (d + r + 1) 138 5 (Int32.ofNat k) h = _
      rw [fX12_sweep_4, g_138_82 sg, Option.bind_some, n1, if_neg (by rw [iLe (by omega) (by omega)]; omega), R_138_87 sg, Option.bind_some, if_neg (show ¬ (5 : Int32) ≤ Int32.ofNat k by rw [show (5 : Int32) = Int32.ofNat 5 from rfl, iLe (by omega) (by omega)]; omega), if_neg (by decide)]
      unfold fX12_sweep_27
      rw [T_189 sg (by omega), Option.bind_some, if_pos (show Int32.ofNat k < (5 : Int32) by rw [show (5 : Int32) = Int32.ofNat 5 from rfl, iLt (by omega) (by omega)]; omega)]
      unfold fX12_sweep_47 fX12_sweep_48
      rw [i_add1]
      rfl
    · by_cases hj : j = k
      · subst hj
        rw [a3.2.2.1 _ _ (by omega), W_189 sg]
      · exact a4 j (by omega) h2
/-- the others are numbered anew -/
theorem num_L : ∀ (M : List Nat) (n a c w d : Nat) (h : pH), LyR hp B O M n a → LyR hp B' O' (kp bl M) c w → 5 ≤ n → n + M.length < 5200 → c ≤ n → Sg h → rd h 138 82 = Int32.ofNat (n + M.length) → (∀ i, i ∈ M → rd h 188 (B i) = if i ∈ bl then 1 else 0) → ∃ h', fX12_sweep_4 N (d + M.length) 138 (Int32.ofNat c) (Int32.ofNat n) h = fX12_sweep_4 N d 138 (Int32.ofNat (c + (kp bl M).length)) (Int32.ofNat (n + M.length)) h' ∧ Sg h' ∧ Chg (fun a j => a = 189 ∧ n ≤ j) h h' ∧ ∀ i, i ∈ kp bl M → rd h' 189 (B i) = Int32.ofNat (B' i)
  | [], n, a, c, w, d, h, q, q', h5, hl, hcn, sg, h82, hm => ⟨h, rfl, sg, Chg.refl _ _, fun i hi => (by cases hi)⟩
  | i :: M, n, a, c, w, d, h, q, q', h5, hl, hcn, sg, h82, hm => by
    rw [List.length_cons] at hl h82
    obtain ⟨q1, q2, q3, q4, q5, q6⟩ := q
    have e188 : rd h 188 n = if i ∈ bl then 1 else 0 := by rw [← q1]; exact hm i (List.mem_cons_self ..)
    have s1 := sg.wr 189 n (Int32.ofNat c)
    have hm1 : ∀ j, j ∈ M → rd (wr h 189 n (Int32.ofNat c)) 188 (B j) = if j ∈ bl then 1 else 0 := fun j hj => by
      rw [rd_wr_ne _ _ (by omega)]
      exact hm j (List.mem_cons_of_mem _ hj)
    have h82' : rd (wr h 189 n (Int32.ofNat c)) 138 82 = Int32.ofNat (n + 1 + M.length) := by
      rw [rd_wr_ne _ _ (by omega), h82]
      congr 1
      omega
    have estep : fX12_sweep_4 N (d + (i :: M).length) 138 (Int32.ofNat c) (Int32.ofNat n) h = fX12_sweep_4 N (d + M.length) 138 (Int32.ofNat (c + (if i ∈ bl then 1 else 0))) (Int32.ofNat (n + 1)) (wr h 189 n (Int32.ofNat c)) := by
      show fX12_sweep_4 N (d + M.length + 1) 138 (Int32.ofNat c) (Int32.ofNat n) h = _
      rw [fX12_sweep_4, g_138_82 sg, Option.bind_some, h82, if_neg (by rw [iLe (by omega) (by omega)]; omega), R_138_87 sg, Option.bind_some, if_pos (show (5 : Int32) ≤ Int32.ofNat n by rw [show (5 : Int32) = Int32.ofNat 5 from rfl, iLe (by omega) (by omega)]; omega), if_neg (by decide)]
      unfold fX12_sweep_27
      rw [T_189 sg (by omega), Option.bind_some, if_neg (show ¬ Int32.ofNat n < (5 : Int32) by rw [show (5 : Int32) = Int32.ofNat 5 from rfl, iLt (by omega) (by omega)]; omega), R_138_86 s1, Option.bind_some, L_188 s1 (by omega), Option.bind_some, rd_wr_ne _ _ (by omega), e188]
      by_cases hi : i ∈ bl
      · rw [if_pos hi, if_neg (by decide), if_pos hi]
        unfold fX12_sweep_48
        rw [i_add1, i_add1]
      · rw [if_neg hi, if_pos rfl, if_neg hi]
        unfold fX12_sweep_47 fX12_sweep_48
        rw [i_add1, Int32.add_zero]
        rfl
    have hM : ∀ j, j ∈ M → j ≠ i := fun j hj z => q3 (z ▸ hj)
    have hBn : ∀ j, j ∈ M → n + 1 ≤ B j := fun j hj => (q6.bd j hj).1
    by_cases hi : i ∈ bl
    · rw [kp_pos hi] at q' ⊢
      obtain ⟨p1, p2, p3, p4, p5, p6⟩ := q'
      obtain ⟨h', a1, a2, a3, a4⟩ := num_L M (n + 1) _ (c + 1) _ d (wr h 189 n (Int32.ofNat c)) q6 p6 (by omega) (by omega) (by omega) s1 h82' hm1
      refine ⟨h', ?_, a2, (Chg.wr h 189 n _ ⟨rfl, by omega⟩).trans (a3.mono (fun a j z => ⟨z.1, by omega⟩)), fun j hj => ?_⟩
      · rw [estep, if_pos hi, a1, List.length_cons, List.length_cons, show c + 1 + (kp bl M).length = c + ((kp bl M).length + 1) by omega, show n + 1 + M.length = n + (M.length + 1) by omega]
      · rcases List.mem_cons.mp hj with rfl | hj
        · rw [q1, p1, a3.2.2.1 _ _ (by omega), W_189 sg]
        · exact a4 j hj
    · rw [kp_neg hi] at q' ⊢
      obtain ⟨h', a1, a2, a3, a4⟩ := num_L M (n + 1) _ c _ d (wr h 189 n (Int32.ofNat c)) q6 q' (by omega) (by omega) (by omega) s1 h82' hm1
      refine ⟨h', ?_, a2, (Chg.wr h 189 n _ ⟨rfl, by omega⟩).trans (a3.mono (fun a j z => ⟨z.1, by omega⟩)), a4⟩
      rw [estep, if_neg hi, Nat.add_zero, a1, List.length_cons, show n + 1 + M.length = n + (M.length + 1) by omega]
/-- words are moved -/
def mvx (h : pH) (x : Int32) : Int32 := if 0 ≤ x then rd h 189 x.toNatClampNeg else -1
def mvs (h : pH) (f x : Int32) : Int32 := if f = 0 then x else mvx h x
def Okw (x f : Int32) : Prop := f = 0 ∨ x = -1 ∨ ∃ b, b < 5200 ∧ x = Int32.ofNat b
theorem mvx_of {h : pH} {b : Nat} (hb : b < 5200) : mvx h (Int32.ofNat b) = rd h 189 b := by
  unfold mvx
  rw [if_pos (i_nn0 (by omega))]
  congr 1
  exact Int32.toNatClampNeg_ofNat_of_lt (by omega)
theorem r_moved {h : pH} {x : Int32} (sg : Sg h) (hx : x = -1 ∨ ∃ b, b < 5200 ∧ x = Int32.ofNat b) : fX12_moved N 138 x h = some (mvx h x, h) := by
  unfold fX12_moved
  rw [if_pos (o_138 sg)]
  rcases hx with rfl | ⟨b, hb, rfl⟩
  · rw [if_neg (by decide)]
    rfl
  · rw [if_pos (i_nn0 (by omega)), R_138_87 sg, Option.bind_some, L_189 sg hb, Option.bind_some, mvx_of hb]
theorem RV.okw {hp : List Ob} {H : Nat} {B O : Nat → Nat} {L : List Nat} {h : pH} {x f : Int32} {v : Vl} (q : HpR hp H B O L h) (hv : RV B L x f v) : Okw x f := by
  match v, hv with
  | .inl n, hv => exact Or.inl hv.2
  | .inr none, hv => exact Or.inr (Or.inl hv.1)
  | .inr (some i), hv =>
    obtain ⟨e1, e2, e3⟩ := hv
    obtain ⟨b1, -, -⟩ := q.at e3
    exact Or.inr (Or.inr ⟨B i, by omega, e1⟩)
/-- a word that stands for what stays -/
theorem RV.mvd {h : pH} {x f : Int32} {v : Vl} (hB : ∀ i, i ∈ bl → B i < 5200 ∧ rd h 189 (B i) = Int32.ofNat (B' i) ∧ (i ∈ L' ∨ i < 5)) (hv : RV B L x f v) (hr : ∀ i, v = .inr (some i) → i ∈ bl) : RV B' L' (mvs h f x) f v := by
  match v, hv, hr with
  | .inl n, hv, hr =>
    refine ⟨?_, hv.2⟩
    unfold mvs
    rw [if_pos hv.2]
    exact hv.1
  | .inr none, hv, hr =>
    refine ⟨?_, hv.2⟩
    unfold mvs
    rw [hv.2, if_neg (by decide), hv.1]
    rfl
  | .inr (some i), hv, hr =>
    obtain ⟨e1, e2, e3⟩ := hv
    obtain ⟨b1, b2, b3⟩ := hB i (hr i rfl)
    refine ⟨?_, e2, b3⟩
    unfold mvs
    rw [e2, if_neg (by decide), e1, mvx_of b1, b2]
end SW
