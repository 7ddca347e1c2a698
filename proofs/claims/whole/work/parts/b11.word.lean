/-! ===== THE CLASS' WORDS and its two rows of cells ===== -/
def wN (n : Int32) : Int64 := n.toInt64 &&& (4294967295 : Int64)
def wO (a : Nat) : Int64 := (4294967296 : Int64) ||| (Int32.ofNat a).toInt64
def Wd (A : Nat → Nat) : Vl → Int64
  | .inl n => wN n
  | .inr none => 0
  | .inr (some i) => wO (A i)
theorem wN_to (n : Int32) : (wN n).toInt32 = n := by
  unfold wN
  rw [Int64.toInt32_and, Int32.toInt32_toInt64, show (4294967295 : Int64).toInt32 = -1 by decide, Int32.and_neg_one]
theorem wO_to (a : Nat) : (wO a).toInt32 = Int32.ofNat a := by
  unfold wO
  rw [Int64.toInt32_or, Int32.toInt32_toInt64, show (4294967296 : Int64).toInt32 = 0 by decide, Int32.zero_or]
theorem wN_and (n : Int32) : wN n &&& (4294967296 : Int64) = 0 := by
  unfold wN
  rw [Int64.and_assoc, show (4294967295 : Int64) &&& (4294967296 : Int64) = 0 by decide, Int64.and_zero]
theorem bv_abs (x y : BitVec 64) : (x ||| y) &&& x = x := by
  apply BitVec.eq_of_getLsbD_eq
  intro i hi
  rw [BitVec.getLsbD_and, BitVec.getLsbD_or]
  cases x.getLsbD i <;> cases y.getLsbD i <;> rfl
theorem wO_and (a : Nat) : wO a &&& (4294967296 : Int64) = (4294967296 : Int64) := by
  unfold wO
  apply Int64.toBitVec_inj.mp
  rw [Int64.toBitVec_and, Int64.toBitVec_or]
  exact bv_abs _ _
theorem wO_ne (a : Nat) : wO a ≠ 0 := fun z => by
  have := wO_and a
  rw [z] at this
  exact absurd this (by decide)
theorem wN_inj {m n : Int32} (h : wN m = wN n) : m = n := by rw [← wN_to m, ← wN_to n, h]
theorem wO_inj {a b : Nat} (ha : a < 2 ^ 31) (hb : b < 2 ^ 31) (h : wO a = wO b) : a = b := (iEq ha hb).mp (by rw [← wO_to a, ← wO_to b, h])
theorem wN_0 : wN 0 = 0 := by decide
theorem wN_1 : wN 1 = 1 := by decide
theorem lc0 (a b : Int64) : lg_cmp a b = 0 ↔ a = b := by
  unfold lg_cmp
  by_cases h1 : a > b
  · rw [if_pos h1]
    refine ⟨fun q => absurd q (by decide), fun q => ?_⟩
    rw [q, gt_iff_lt, Int64.lt_iff_toInt_lt] at h1
    omega
  · rw [if_neg h1]
    by_cases h2 : a = b
    · rw [if_pos h2]
      exact ⟨fun _ => h2, fun _ => rfl⟩
    · rw [if_neg h2]
      exact ⟨fun q => absurd q (by decide), fun q => absurd q h2⟩
theorem lc0_eq (a b : Int64) : (lg_cmp a b = 0) = (a = b) := propext (lc0 a b)
theorem wN_eq0 (n : Int32) : wN n = 0 ↔ n = 0 := ⟨fun h => wN_inj (h.trans wN_0.symm), fun h => by rw [h]; exact wN_0⟩
/-- what stands for an object, or for what is no object -/
def okV (L : List Nat) (v : Vl) : Prop := ∀ i, v = .inr (some i) → i ∈ L ∨ i < 5
def Ww (A : Nat → Nat) (L : List Nat) (w : Int64) (v : Vl) : Prop := w = Wd A v ∧ okV L v
theorem okV_inl (L : List Nat) (n : Int32) : okV L (.inl n) := fun i h => by cases h
theorem okV_nul (L : List Nat) : okV L (.inr none) := fun i h => by cases h
theorem okV_ob {L : List Nat} {i : Nat} (h : i ∈ L ∨ i < 5) : okV L (.inr (some i)) := fun j e => by cases e; exact h
theorem Ww.num {A : Nat → Nat} {L : List Nat} (n : Int32) : Ww A L (wN n) (.inl n) := ⟨rfl, okV_inl L n⟩
theorem Ww.nul {A : Nat → Nat} {L : List Nat} : Ww A L 0 (.inr none) := ⟨rfl, okV_nul L⟩
theorem Ww.mono {A A' : Nat → Nat} {L L' : List Nat} {w : Int64} {v : Vl} (h : Ww A L w v) (hL : ∀ i, i ∈ L ∨ i < 5 → (i ∈ L' ∨ i < 5) ∧ A' i = A i) : Ww A' L' w v := by
  obtain ⟨h1, h2⟩ := h
  refine ⟨?_, fun i hi => (hL i (h2 i hi)).1⟩
  rw [h1]
  match v, h2 with
  | .inl n, _ => rfl
  | .inr none, _ => rfl
  | .inr (some i), h2 => exact (congrArg wO (hL i (h2 i rfl)).2).symm
/-- the rows: the one in use, the other -/
def cR (h : pH) : Nat := match sh h 129 with
  | some (_, _, some r :: _) => r - 1
  | _ => 0
def oR (h : pH) : Nat := match sh h 129 with
  | some (_, _, _ :: some r :: _) => r - 1
  | _ => 0
theorem Sg.rows {h : pH} (hs : Sg h) : ((cR h = 130 ∧ oR h = 131) ∨ (cR h = 131 ∧ oR h = 130)) ∧ sh h 129 = some (4 * 3, 4, [some (cR h + 1), some (oR h + 1), none, none]) := by
  obtain ⟨b, e⟩ := sh_129 hs
  cases b with
  | true =>
    have e : sh h 129 = some (4 * 3, 4, [some 131, some 132, none, none]) := e
    have e1 : cR h = 130 := by unfold cR; rw [e]
    have e2 : oR h = 131 := by unfold oR; rw [e]
    rw [e1, e2]
    exact ⟨Or.inl ⟨rfl, rfl⟩, e⟩
  | false =>
    have e : sh h 129 = some (4 * 3, 4, [some 132, some 131, none, none]) := e
    have e1 : cR h = 131 := by unfold cR; rw [e]
    have e2 : oR h = 130 := by unfold oR; rw [e]
    rw [e1, e2]
    exact ⟨Or.inr ⟨rfl, rfl⟩, e⟩
theorem R_129_0 {h : pH} (hs : Sg h) : getR h 129 3 0 = some (cR h) := getR_sh hs.rows.2 rfl
theorem R_129_1 {h : pH} (hs : Sg h) : getR h 129 3 1 = some (oR h) := getR_sh hs.rows.2 rfl
theorem sh_c {h : pH} (hs : Sg h) : sh h (cR h) = some (6, 10006, []) := by
  rcases hs.rows.1 with ⟨e, _⟩ | ⟨e, _⟩
  · rw [e]; exact sh_130 hs
  · rw [e]; exact sh_131 hs
theorem sh_oR {h : pH} (hs : Sg h) : sh h (oR h) = some (6, 10006, []) := by
  rcases hs.rows.1 with ⟨_, e⟩ | ⟨_, e⟩
  · rw [e]; exact sh_131 hs
  · rw [e]; exact sh_130 hs
theorem L_c {h : pH} (hs : Sg h) {i : Nat} (hi : i < 10006) : ldJ h (cR h) (Int32.ofNat i) = some (rdJ h (cR h) i) := ldJ_sh (sh_c hs) hi (by decide)
theorem T_c {h : pH} (hs : Sg h) {i : Nat} (hi : i < 10006) (x : Int64) : stJ h (cR h) (Int32.ofNat i) x = some (wrJ h (cR h) i x) := stJ_sh x (sh_c hs) hi (by decide)
theorem W_c {h : pH} (hs : Sg h) (i : Nat) (x : Int64) : rdJ (wrJ h (cR h) i x) (cR h) i = x := rdJ_wrJ_eq x (sh_c hs)
theorem L_oR {h : pH} (hs : Sg h) {i : Nat} (hi : i < 10006) : ldJ h (oR h) (Int32.ofNat i) = some (rdJ h (oR h) i) := ldJ_sh (sh_oR hs) hi (by decide)
theorem T_oR {h : pH} (hs : Sg h) {i : Nat} (hi : i < 10006) (x : Int64) : stJ h (oR h) (Int32.ofNat i) x = some (wrJ h (oR h) i x) := stJ_sh x (sh_oR hs) hi (by decide)
theorem W_oR {h : pH} (hs : Sg h) (i : Nat) (x : Int64) : rdJ (wrJ h (oR h) i x) (oR h) i = x := rdJ_wrJ_eq x (sh_oR hs)
theorem n_p {h : pH} (hs : Sg h) : lenA h (pileR h) = some (Int32.ofNat (pileN h)) := lenA_sh hs.pile.2.1 (by decide) (by have := hs.pile.2.2.2.2; omega)
theorem L_p {h : pH} (hs : Sg h) {i : Nat} (hi : i < pileN h) : ldJ h (pileR h) (Int32.ofNat i) = some (rdJ h (pileR h) i) := ldJ_sh hs.pile.2.1 hi (by have := hs.pile.2.2.2.2; omega)
theorem T_p {h : pH} (hs : Sg h) {i : Nat} (hi : i < pileN h) (x : Int64) : stJ h (pileR h) (Int32.ofNat i) x = some (wrJ h (pileR h) i x) := stJ_sh x hs.pile.2.1 hi (by have := hs.pile.2.2.2.2; omega)
theorem W_p {h : pH} (hs : Sg h) (i : Nat) (x : Int64) : rdJ (wrJ h (pileR h) i x) (pileR h) i = x := rdJ_wrJ_eq x hs.pile.2.1
theorem Sg.apart {h : pH} (hs : Sg h) : pileR h ≠ 130 ∧ pileR h ≠ 131 ∧ pileR h ≠ 136 ∧ pileR h ≠ cR h ∧ pileR h ≠ oR h ∧ cR h ≠ 136 ∧ oR h ≠ 136 ∧ cR h ≠ oR h := by
  have h1 := hs.pile.2.2.1
  have h2 := hs.rows.1
  omega
/-- little has changed: the pile's height, the pile's words of T -/
def Ch (T : Nat → Prop) (h h' : pH) : Prop := (∀ b, sh h' b = sh h b) ∧ h'.length = h.length ∧ (∀ a k, ¬ (a = 128 ∧ k = 6) → rd h' a k = rd h a k) ∧ ∀ a k, ¬ (a = pileR h ∧ T k) → rdJ h' a k = rdJ h a k
theorem pileR_of {h h' : pH} (e : ∀ b, sh h' b = sh h b) : pileR h' = pileR h := by unfold pileR; rw [e]
theorem pileN_of {h h' : pH} (e : ∀ b, sh h' b = sh h b) : pileN h' = pileN h := by unfold pileN; rw [pileR_of e, e]
theorem cR_of {h h' : pH} (e : ∀ b, sh h' b = sh h b) : cR h' = cR h := by unfold cR; rw [e]
theorem oR_of {h h' : pH} (e : ∀ b, sh h' b = sh h b) : oR h' = oR h := by unfold oR; rw [e]
theorem Ch.sg {T : Nat → Prop} {h h' : pH} (q : Ch T h h') (hs : Sg h) : Sg h' := hs.of q.1
theorem Ch.refl (T : Nat → Prop) (h : pH) : Ch T h h := ⟨fun _ => rfl, rfl, fun _ _ _ => rfl, fun _ _ _ => rfl⟩
theorem Ch.trans {T : Nat → Prop} {h h1 h2 : pH} (q1 : Ch T h h1) (q2 : Ch T h1 h2) : Ch T h h2 := ⟨fun b => (q2.1 b).trans (q1.1 b), q2.2.1.trans q1.2.1, fun a k n => (q2.2.2.1 a k n).trans (q1.2.2.1 a k n), fun a k n => (q2.2.2.2 a k (by rw [pileR_of q1.1]; exact n)).trans (q1.2.2.2 a k n)⟩
theorem Ch.mono {T T' : Nat → Prop} {h h' : pH} (q : Ch T h h') (ht : ∀ k, T k → T' k) : Ch T' h h' := ⟨q.1, q.2.1, q.2.2.1, fun a k n => q.2.2.2 a k (fun z => n ⟨z.1, ht k z.2⟩)⟩
theorem iZ {a : Nat} (ha : a < 2 ^ 31) : (Int32.ofNat a = 0) = (a = 0) := iEq (b := 0) ha (by decide)
theorem e5_push {h : pH} (hs : Sg h) {t : Nat} (ht : rd h 128 6 = Int32.ofNat t) (hl : t < pileN h) (N : Nat) (w : Int64) : ∃ h', fX5_push N 128 w h = some h' ∧ Ch (fun k => k = t) h h' ∧ rd h' 128 6 = Int32.ofNat (t + 1) ∧ rdJ h' (pileR h) t = w := by
  have hp := hs.pile.2.2.2.2
  have s1 : Sg (wrJ h (pileR h) t w) := hs.wrJ _ _ _
  refine ⟨wr (wrJ h (pileR h) t w) 128 6 (Int32.ofNat (t + 1)), ?_, ⟨fun b => (sh_wr _ _ _ _ b).trans (sh_wrJ _ _ _ _ b), (wr_len _ _ _ _).trans (wrJ_len _ _ _ _), ?_, ?_⟩, w_128_6 s1 _, ?_⟩
  · unfold fX5_push
    rw [if_pos (o_128 hs), g_128_6 hs, Option.bind_some, R_128_5 hs, Option.bind_some, n_p hs, Option.bind_some, ht, if_neg (by rw [iLe (by omega) (by omega)]; omega), Option.bind_some, Option.bind_some, T_p hs hl, Option.bind_some, g_128_6 s1, Option.bind_some, rd_wrJ, ht, i_add1, p_128_6 s1, Option.bind_some]
  · intro a k n
    rw [rd_wr_ne _ _ (fun z => n ⟨z.1.symm, z.2.symm⟩), rd_wrJ]
  · intro a k n
    rw [rdJ_wr, rdJ_wrJ_ne _ _ (fun z => n ⟨z.1.symm, z.2.symm⟩)]
  · rw [rdJ_wr, W_p hs]
theorem e5_pop {h : pH} (hs : Sg h) {t : Nat} (ht : rd h 128 6 = Int32.ofNat (t + 1)) (hl : t < pileN h) (N : Nat) : ∃ h', fX5_pop N 128 h = some (rdJ h (pileR h) t, h') ∧ Ch (fun _ => False) h h' ∧ rd h' 128 6 = Int32.ofNat t := by
  have hp := hs.pile.2.2.2.2
  have s1 : Sg (wr h 128 6 (Int32.ofNat t)) := hs.wr _ _ _
  refine ⟨wr h 128 6 (Int32.ofNat t), ?_, ⟨fun b => sh_wr _ _ _ _ b, wr_len _ _ _ _, ?_, ?_⟩, w_128_6 hs _⟩
  · unfold fX5_pop
    rw [if_pos (o_128 hs), g_128_6 hs, Option.bind_some, ht, if_neg (by rw [iZ (by omega)]; omega), Option.bind_some, i_sub1, p_128_6 hs, Option.bind_some, R_128_5 s1, Option.bind_some, pileR_wr, g_128_6 s1, Option.bind_some, w_128_6 hs]
    have := L_p s1 (i := t) (by rw [pileN_wr]; exact hl)
    rw [pileR_wr, rdJ_wr] at this
    rw [this, Option.bind_some]
  · intro a k n
    rw [rd_wr_ne _ _ (fun z => n ⟨z.1.symm, z.2.symm⟩)]
  · intro a k n
    rw [rdJ_wr]
