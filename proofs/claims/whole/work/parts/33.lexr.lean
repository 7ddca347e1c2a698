/-! ===== THE REFERENCE'S WORDS ===== -/
theorem i64_lit (n : Nat) (h : n < 2 ^ 31) : (Int64.ofNat n) = (Int32.ofNat n).toInt64 := by
  apply Int64.toInt_inj.mp
  rw [Int32.toInt_toInt64, Int64.toInt_ofNat_of_lt (by omega), Int32.toInt_ofNat_of_lt h]
theorem ret01 {c : Prop} [Decidable c] : pRet .boolean (if c then (0 : Int32) else 1) = true := by
  by_cases h : c
  · rw [if_pos h]; decide
  · rw [if_neg h]; decide
def isDg (c : Int32) : Prop := ¬ (c < 48 ∨ 57 < c)
def isLt (c : Int32) : Prop := ¬ ((c < 97 ∨ 122 < c) ∧ (c < 65 ∨ 90 < c))
theorem e12_isDigit (N : Nat) (c : Int32) (h : pH) : fX12_isDigit N c h = some (if c < 48 ∨ 57 < c then 0 else 1, h) := by
  unfold fX12_isDigit
  rw [show (48 : Int64) = (48 : Int32).toInt64 from by decide, show (57 : Int64) = (57 : Int32).toInt64 from by decide, isIn_eq, Option.bind_some]
  dsimp only
  rw [if_pos ret01]
theorem e12_isLetter (N : Nat) (c : Int32) (h : pH) : fX12_isLetter N c h = some (if (c < 97 ∨ 122 < c) ∧ (c < 65 ∨ 90 < c) then 0 else 1, h) := by
  unfold fX12_isLetter
  rw [show (97 : Int64) = (97 : Int32).toInt64 from by decide, show (122 : Int64) = (122 : Int32).toInt64 from by decide, show (65 : Int64) = (65 : Int32).toInt64 from by decide, show (90 : Int64) = (90 : Int32).toInt64 from by decide, isIn_eq, Option.bind_some]
  dsimp only
  by_cases h1 : c < 97 ∨ 122 < c
  · rw [if_pos h1, if_pos rfl, isIn_eq, Option.bind_some]
    dsimp only
    by_cases h2 : c < 65 ∨ 90 < c
    · rw [if_pos h2, if_pos rfl, if_pos ⟨h1, h2⟩]
    · rw [if_neg h2, if_neg (by decide), if_neg (fun q => h2 q.2)]
  · rw [if_neg h1, if_neg (by decide), if_neg (fun q => h1 q.1)]
/-- the text: the bytes that the reference reads -/
abbrev tx (h : pH) (i : Nat) : Int32 := rd h 140 i
def tl (h : pH) : Nat := (rd h 138 3).toNatClampNeg
/-- the text's length is a number up to 3000 -/
def tOk (h : pH) : Prop := Sg h ∧ rd h 138 3 = Int32.ofNat (tl h) ∧ tl h ≤ 3000
theorem tOk_of {h : pH} {L : Nat} (hs : Sg h) (hL : L ≤ 3000) (e : rd h 138 3 = Int32.ofNat L) : tOk h ∧ tl h = L := by
  have : tl h = L := by unfold tl; rw [e, i_cl (by omega)]
  exact ⟨⟨hs, by rw [this]; exact e, by omega⟩, this⟩
theorem e12_byteAt {N p : Nat} {h : pH} (ht : tOk h) (hp : p ≤ 3001) : fX12_byteAt N 138 (Int32.ofNat p) h = some (if tl h ≤ p then 0 else tx h p, h) := by
  obtain ⟨hs, e, hl⟩ := ht
  unfold fX12_byteAt
  rw [if_pos (o_138 hs), g_138_3 hs, Option.bind_some, e]
  by_cases hc : tl h ≤ p
  · rw [if_pos ((Int32.ofNat_le_ofNat (by omega) (by omega)).mpr hc), if_pos hc]
  · rw [if_neg (fun q => hc ((Int32.ofNat_le_ofNat (by omega) (by omega)).mp q)), if_neg hc, R_138_2 hs, Option.bind_some, L_140 hs (by omega), Option.bind_some]
/-- what changes nothing but what A says -/
def Chg (A : Nat → Nat → Prop) (h h' : pH) : Prop := (∀ b, sh h' b = sh h b) ∧ h'.length = h.length ∧ (∀ a k, ¬ A a k → rd h' a k = rd h a k) ∧ ∀ a k, rdJ h' a k = rdJ h a k
theorem Chg.refl (A : Nat → Nat → Prop) (h : pH) : Chg A h h := ⟨fun _ => rfl, rfl, fun _ _ _ => rfl, fun _ _ => rfl⟩
theorem Chg.trans {A : Nat → Nat → Prop} {h h1 h2 : pH} (q1 : Chg A h h1) (q2 : Chg A h1 h2) : Chg A h h2 :=
  ⟨fun b => (q2.1 b).trans (q1.1 b), q2.2.1.trans q1.2.1, fun a k hn => (q2.2.2.1 a k hn).trans (q1.2.2.1 a k hn), fun a k => (q2.2.2.2 a k).trans (q1.2.2.2 a k)⟩
theorem Chg.mono {A B : Nat → Nat → Prop} {h h' : pH} (q : Chg A h h') (hAB : ∀ a k, A a k → B a k) : Chg B h h' := ⟨q.1, q.2.1, fun a k hn => q.2.2.1 a k (fun z => hn (hAB a k z)), q.2.2.2⟩
theorem Chg.wr {A : Nat → Nat → Prop} (h : pH) (a k : Nat) (x : Int32) (hA : A a k) : Chg A h (wr h a k x) := ⟨sh_wr h a k x, wr_len h a k x, fun b j hn => rd_wr_ne h x (fun z => hn (z.1 ▸ z.2 ▸ hA)), rdJ_wr h a k x⟩
theorem Chg.sg {A : Nat → Nat → Prop} {h h' : pH} (q : Chg A h h') (hs : Sg h) : Sg h' := hs.of q.1
theorem e12_isSignByte (N : Nat) (c : Int32) (h : pH) : fX12_isSignByte N c h = some (if c = 123 ∨ c = 125 ∨ c = 40 ∨ c = 41 ∨ c = 91 ∨ c = 93 ∨ c = 59 ∨ c = 44 ∨ c = 46 ∨ c = 58 ∨ c = 61 ∨ c = 60 ∨ c = 43 ∨ c = 45 ∨ c = 42 ∨ c = 47 ∨ c = 37 ∨ c = 33 then 1 else 0, h) := by
  unfold fX12_isSignByte
  by_cases h1 : c = 123
  · rw [if_pos h1, if_pos (by simp [h1])]
  rw [if_neg h1]
  by_cases h2 : c = 125
  · rw [if_pos h2, if_pos (by simp [h2])]
  rw [if_neg h2]
  by_cases h3 : c = 40
  · rw [if_pos h3, if_pos (by simp [h3])]
  rw [if_neg h3]
  by_cases h4 : c = 41
  · rw [if_pos h4, if_pos (by simp [h4])]
  rw [if_neg h4]
  by_cases h5 : c = 91
  · rw [if_pos h5, if_pos (by simp [h5])]
  rw [if_neg h5]
  by_cases h6 : c = 93
  · rw [if_pos h6, if_pos (by simp [h6])]
  rw [if_neg h6]
  by_cases h7 : c = 59
  · rw [if_pos h7, if_pos (by simp [h7])]
  rw [if_neg h7]
  by_cases h8 : c = 44
  · rw [if_pos h8, if_pos (by simp [h8])]
  rw [if_neg h8]
  by_cases h9 : c = 46
  · rw [if_pos h9, if_pos (by simp [h9])]
  rw [if_neg h9]
  by_cases h10 : c = 58
  · rw [if_pos h10, if_pos (by simp [h10])]
  rw [if_neg h10]
  by_cases h11 : c = 61
  · rw [if_pos h11, if_pos (by simp [h11])]
  rw [if_neg h11]
  by_cases h12 : c = 60
  · rw [if_pos h12, if_pos (by simp [h12])]
  rw [if_neg h12]
  by_cases h13 : c = 43
  · rw [if_pos h13, if_pos (by simp [h13])]
  rw [if_neg h13]
  by_cases h14 : c = 45
  · rw [if_pos h14, if_pos (by simp [h14])]
  rw [if_neg h14]
  by_cases h15 : c = 42
  · rw [if_pos h15, if_pos (by simp [h15])]
  rw [if_neg h15]
  by_cases h16 : c = 47
  · rw [if_pos h16, if_pos (by simp [h16])]
  rw [if_neg h16]
  by_cases h17 : c = 37
  · rw [if_pos h17, if_pos (by simp [h17])]
  rw [if_neg h17]
  by_cases h18 : c = 33
  · rw [if_pos h18, if_pos (by simp [h18])]
  rw [if_neg h18, if_neg (by simp [h1, h2, h3, h4, h5, h6, h7, h8, h9, h10, h11, h12, h13, h14, h15, h16, h17, h18])]
/-- the word at hand: where it begins, how long it is -/
def wOk (h : pH) (P n : Nat) : Prop := Sg h ∧ rd h 138 6 = Int32.ofNat P ∧ rd h 138 7 = Int32.ofNat n ∧ P + n ≤ 3000
theorem i_add2 (T : Nat) : Int32.ofNat T + 2 = Int32.ofNat (T + 2) := by rw [Int32.ofNat_add]; rfl
theorem i_add3 (T : Nat) : Int32.ofNat T + 3 = Int32.ofNat (T + 3) := by rw [Int32.ofNat_add]; rfl
theorem i_add4 (T : Nat) : Int32.ofNat T + 4 = Int32.ofNat (T + 4) := by rw [Int32.ofNat_add]; rfl
theorem i_add5 (T : Nat) : Int32.ofNat T + 5 = Int32.ofNat (T + 5) := by rw [Int32.ofNat_add]; rfl
theorem i_add6 (T : Nat) : Int32.ofNat T + 6 = Int32.ofNat (T + 6) := by rw [Int32.ofNat_add]; rfl
theorem iAdd (a b : Nat) : Int32.ofNat a + Int32.ofNat b = Int32.ofNat (a + b) := (Int32.ofNat_add a b).symm
theorem iLt {a b : Nat} (ha : a < 2 ^ 31) (hb : b < 2 ^ 31) : (Int32.ofNat a < Int32.ofNat b) = (a < b) := propext (Int32.ofNat_lt_ofNat ha hb)
theorem iLe {a b : Nat} (ha : a < 2 ^ 31) (hb : b < 2 ^ 31) : (Int32.ofNat a ≤ Int32.ofNat b) = (a ≤ b) := propext (Int32.ofNat_le_ofNat ha hb)
theorem iEq {a b : Nat} (ha : a < 2 ^ 31) (hb : b < 2 ^ 31) : (Int32.ofNat a = Int32.ofNat b) = (a = b) := propext ⟨fun e => by
  have := congrArg Int32.toInt e
  rw [Int32.toInt_ofNat_of_lt ha, Int32.toInt_ofNat_of_lt hb] at this
  omega, fun e => by rw [e]⟩
/-- is the word at P of n bytes this text? (c, d, e, f: 0 behind its end) -/
abbrev isTx (h : pH) (P n m : Nat) (a b c d e f : Int32) : Prop := n = m ∧ tx h P = a ∧ tx h (P + 1) = b ∧ (m < 3 ∨ tx h (P + 2) = c) ∧ (m < 4 ∨ tx h (P + 3) = d) ∧ (m < 5 ∨ tx h (P + 4) = e) ∧ (m < 6 ∨ tx h (P + 5) = f)
theorem e12_isText139 {N P m : Nat} {h : pH} (hs : Sg h) (hb : P + m ≤ 3000) (hm : m ≤ 6) (f : Int32) : fX12_isText_139 N 138 f (Int32.ofNat m) (Int32.ofNat P) h = some (if m < 6 ∨ tx h (P + 5) = f then 1 else 0, h) := by
  unfold fX12_isText_139
  by_cases h1 : m < 6
  · rw [if_pos (show Int32.ofNat m < 6 from (Int32.ofNat_lt_ofNat (by omega) (by decide : 6 < 2 ^ 31)).mpr h1), if_pos (Or.inl h1)]
  · rw [if_neg (show ¬ Int32.ofNat m < 6 from fun q => h1 ((Int32.ofNat_lt_ofNat (by omega) (by decide : 6 < 2 ^ 31)).mp q)), R_138_2 hs, Option.bind_some, i_add5, L_140 hs (by omega), Option.bind_some]
    by_cases h2 : rd h 140 (P + 5) = f
    · rw [if_pos h2, if_pos (show m < 6 ∨ tx h (P + 5) = f from Or.inr h2)]
    · rw [if_neg h2, if_neg (fun q => q.elim h1 h2)]
theorem e12_isText119 {N P m : Nat} {h : pH} (hs : Sg h) (hb : P + m ≤ 3000) (hm : m ≤ 6) (e f : Int32) : fX12_isText_119 N 138 e f (Int32.ofNat m) (Int32.ofNat P) h = some (if (m < 5 ∨ tx h (P + 4) = e) ∧ (m < 6 ∨ tx h (P + 5) = f) then 1 else 0, h) := by
  unfold fX12_isText_119
  by_cases h1 : m < 5
  · rw [if_pos (show Int32.ofNat m < 5 from (Int32.ofNat_lt_ofNat (by omega) (by decide : 5 < 2 ^ 31)).mpr h1), e12_isText139 hs hb hm, if_pos (Or.inl (by omega)), if_pos ⟨Or.inl h1, Or.inl (by omega)⟩]
  · rw [if_neg (show ¬ Int32.ofNat m < 5 from fun q => h1 ((Int32.ofNat_lt_ofNat (by omega) (by decide : 5 < 2 ^ 31)).mp q)), R_138_2 hs, Option.bind_some, i_add4, L_140 hs (by omega), Option.bind_some]
    by_cases h2 : rd h 140 (P + 4) = e
    · rw [if_pos h2, e12_isText139 hs hb hm]
      by_cases h3 : m < 6 ∨ tx h (P + 5) = f
      · rw [if_pos h3, if_pos ⟨Or.inr h2, h3⟩]
      · rw [if_neg h3, if_neg (fun q => h3 q.2)]
    · rw [if_neg h2, if_neg (fun q => q.1.elim h1 h2)]
theorem e12_isText99 {N P m : Nat} {h : pH} (hs : Sg h) (hb : P + m ≤ 3000) (hm : m ≤ 6) (d e f : Int32) : fX12_isText_99 N 138 d e f (Int32.ofNat m) (Int32.ofNat P) h = some (if (m < 4 ∨ tx h (P + 3) = d) ∧ (m < 5 ∨ tx h (P + 4) = e) ∧ (m < 6 ∨ tx h (P + 5) = f) then 1 else 0, h) := by
  unfold fX12_isText_99
  by_cases h1 : m < 4
  · rw [if_pos (show Int32.ofNat m < 4 from (Int32.ofNat_lt_ofNat (by omega) (by decide : 4 < 2 ^ 31)).mpr h1), e12_isText119 hs hb hm, if_pos ⟨Or.inl (by omega), Or.inl (by omega)⟩, if_pos ⟨Or.inl h1, Or.inl (by omega), Or.inl (by omega)⟩]
  · rw [if_neg (show ¬ Int32.ofNat m < 4 from fun q => h1 ((Int32.ofNat_lt_ofNat (by omega) (by decide : 4 < 2 ^ 31)).mp q)), R_138_2 hs, Option.bind_some, i_add3, L_140 hs (by omega), Option.bind_some]
    by_cases h2 : rd h 140 (P + 3) = d
    · rw [if_pos h2, e12_isText119 hs hb hm]
      by_cases h3 : (m < 5 ∨ tx h (P + 4) = e) ∧ (m < 6 ∨ tx h (P + 5) = f)
      · rw [if_pos h3, if_pos ⟨Or.inr h2, h3⟩]
      · rw [if_neg h3, if_neg (fun q => h3 q.2)]
    · rw [if_neg h2, if_neg (fun q => q.1.elim h1 h2)]
theorem e12_isText37 {N P n m : Nat} {h : pH} (hw : wOk h P n) (hm2 : 2 ≤ m) (hm : m ≤ 6) (a b c d e f : Int32) : fX12_isText_37 N 138 a b c d e f (Int32.ofNat m) h = some (if isTx h P n m a b c d e f then 1 else 0, h) := by
  obtain ⟨hs, e6, e7, hb⟩ := hw
  unfold fX12_isText_37
  rw [g_138_7 hs, Option.bind_some, e7]
  by_cases h0 : n = m
  · subst h0
    rw [if_pos rfl, g_138_6 hs, Option.bind_some, e6, R_138_2 hs, Option.bind_some, L_140 hs (by omega), Option.bind_some]
    by_cases h1 : rd h 140 P = a
    · rw [if_pos h1, Option.bind_some, i_add1, L_140 hs (by omega), Option.bind_some]
      by_cases h2 : rd h 140 (P + 1) = b
      · rw [if_pos h2]
        by_cases h3 : n < 3
        · rw [if_pos (show Int32.ofNat n < 3 from (Int32.ofNat_lt_ofNat (by omega) (by decide : 3 < 2 ^ 31)).mpr h3), e12_isText99 hs hb hm, if_pos ⟨Or.inl (by omega), Or.inl (by omega), Or.inl (by omega)⟩, if_pos ⟨rfl, h1, h2, Or.inl h3, Or.inl (by omega), Or.inl (by omega), Or.inl (by omega)⟩]
        · rw [if_neg (show ¬ Int32.ofNat n < 3 from fun q => h3 ((Int32.ofNat_lt_ofNat (by omega) (by decide : 3 < 2 ^ 31)).mp q)), Option.bind_some, i_add2, L_140 hs (by omega), Option.bind_some]
          by_cases h4 : rd h 140 (P + 2) = c
          · rw [if_pos h4, e12_isText99 hs hb hm]
            by_cases h5 : (n < 4 ∨ tx h (P + 3) = d) ∧ (n < 5 ∨ tx h (P + 4) = e) ∧ (n < 6 ∨ tx h (P + 5) = f)
            · rw [if_pos h5, if_pos ⟨rfl, h1, h2, Or.inr h4, h5⟩]
            · rw [if_neg h5, if_neg (fun q => h5 q.2.2.2.2)]
          · rw [if_neg h4, if_neg (fun q => q.2.2.2.1.elim h3 h4)]
      · rw [if_neg h2, if_neg (fun q => h2 q.2.2.1)]
    · rw [if_neg h1, if_neg (fun q => h1 q.2.1)]
  · rw [if_neg (fun q => h0 ((iEq (by omega) (by omega)).mp q)), if_neg (fun q => h0 q.1)]
/-- how many bytes such a text has -/
def tmN (c d e f : Int32) : Nat := if c = 0 then 2 else if d = 0 then 3 else if e = 0 then 4 else if f = 0 then 5 else 6
theorem e12_isText {N P n : Nat} {h : pH} (hw : wOk h P n) (a b c d e f : Int32) : fX12_isText N 138 a b c d e f h = some (if isTx h P n (tmN c d e f) a b c d e f then 1 else 0, h) := by
  unfold fX12_isText tmN
  rw [if_pos (o_138 hw.1)]
  by_cases h1 : c = 0
  · rw [if_pos h1, if_pos h1]
    exact e12_isText37 hw (by decide) (by decide) a b c d e f
  rw [if_neg h1, if_neg h1]
  by_cases h2 : d = 0
  · rw [if_pos h2, if_pos h2]
    exact e12_isText37 hw (by decide) (by decide) a b c d e f
  rw [if_neg h2, if_neg h2]
  by_cases h3 : e = 0
  · rw [if_pos h3, if_pos h3]
    exact e12_isText37 hw (by decide) (by decide) a b c d e f
  rw [if_neg h3, if_neg h3]
  by_cases h4 : f = 0
  · rw [if_pos h4, if_pos h4]
    exact e12_isText37 hw (by decide) (by decide) a b c d e f
  rw [if_neg h4, if_neg h4]
  exact e12_isText37 hw (by decide) (by decide) a b c d e f
