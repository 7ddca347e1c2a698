/-! ===== MEMORY: the heap as the methods see it ===== -/
/-- an int field, an element of an array of ints or booleans -/
def rd (h : pH) (a k : Nat) : Int32 := match pAt h a with
  | some (.inl (_, fs)) => (match fs[k]? with
      | some (.int x) => x
      | _ => 0)
  | some (.inr (_, _, .inl f)) => f k
  | _ => 0
/-- an element of an array of longs -/
def rdJ (h : pH) (a k : Nat) : Int64 := match pAt h a with
  | some (.inr (_, _, .inr (.inl f))) => f k
  | _ => 0
def wr (h : pH) (a k : Nat) (x : Int32) : pH := match pAt h a with
  | some (.inl (ci, fs)) => (match fs[k]? with
      | some (.int _) => pPut h a (.inl (ci, fs.set k (.int x)))
      | _ => h)
  | some (.inr (t, n, .inl f)) => pPut h a (.inr (t, n, .inl (upd f k x)))
  | _ => h
def wrJ (h : pH) (a k : Nat) (x : Int64) : pH := match pAt h a with
  | some (.inr (t, n, .inr (.inl f))) => pPut h a (.inr (t, n, .inr (.inl (vp_updL f k x))))
  | _ => h
/-- a cell's shape: what kind it is, how long, and an object's fields: none for an int, a reference and one -/
def shv (v : Value) : Option Nat := match v with
  | .int _ => none
  | .ref r => some (r + 1)
  | _ => some 0
def shp (e : pE) : Nat × Nat × List (Option Nat) := match e with
  | .inl (ci, fs) => (4 * ci, fs.length, fs.map shv)
  | .inr (t, n, .inl _) => (4 * t + 1, n, [])
  | .inr (t, n, .inr (.inl _)) => (4 * t + 2, n, [])
  | .inr (t, n, .inr (.inr f)) => (4 * t + 3, n, (List.range n).map f)
def sh (h : pH) (a : Nat) : Option (Nat × Nat × List (Option Nat)) := (pAt h a).map shp
theorem pAt_put_ne {h : pH} {a b : Nat} {e : pE} (ha : ¬ a < 6) (hne : a ≠ b) : pAt (pPut h a e) b = pAt h b := by
  unfold pAt pPut
  by_cases hb : b < 6
  · rw [if_pos hb, if_pos hb]
  · rw [if_neg hb, if_neg hb, List.getElem?_set, if_neg (by omega)]
theorem pAt_put_eq {h : pH} {a : Nat} {e e0 : pE} (hq : pAt h a = some e0) : pAt (pPut h a e) a = some e := by
  obtain ⟨ha, h1⟩ := pAt_some hq
  unfold pAt pPut
  rw [if_neg ha, List.getElem?_set, if_pos rfl, if_pos (List.getElem?_eq_some_iff.mp h1).1]
theorem sh_put {h : pH} {a : Nat} {e e0 : pE} (hq : pAt h a = some e0) (hs : shp e = shp e0) (b : Nat) : sh (pPut h a e) b = sh h b := by
  unfold sh
  by_cases hb : a = b
  · subst hb
    rw [pAt_put_eq hq, hq]
    exact congrArg some hs
  · rw [pAt_put_ne (pAt_some hq).1 hb]
theorem put_len (h : pH) (a : Nat) (e : pE) : (pPut h a e).length = h.length := by simp [pPut]
theorem map_set_shv {fs : List Value} {k : Nat} {x y : Int32} (hk : fs[k]? = some (.int y)) : (fs.set k (.int x)).map shv = fs.map shv := by
  apply List.ext_getElem?
  intro j
  rw [List.getElem?_map, List.getElem?_map, List.getElem?_set]
  by_cases hj : k = j
  · subst hj
    rw [if_pos rfl, if_pos (List.getElem?_eq_some_iff.mp hk).1, hk]
    rfl
  · rw [if_neg hj]
theorem sh_wr (h : pH) (a k : Nat) (x : Int32) (b : Nat) : sh (wr h a k x) b = sh h b := by
  unfold wr
  split
  · rename_i ci fs hq
    split
    · rename_i y hk
      refine sh_put hq ?_ b
      show (4 * ci, (fs.set k (.int x)).length, (fs.set k (.int x)).map shv) = (4 * ci, fs.length, fs.map shv)
      rw [map_set_shv hk, List.length_set]
    · rfl
  · rename_i t n f hq
    exact sh_put (e := .inr (t, n, .inl (upd f k x))) hq rfl b
  · rfl
theorem sh_wrJ (h : pH) (a k : Nat) (x : Int64) (b : Nat) : sh (wrJ h a k x) b = sh h b := by
  unfold wrJ
  split
  · rename_i t n f hq
    exact sh_put (e := .inr (t, n, .inr (.inl (vp_updL f k x)))) hq rfl b
  · rfl
theorem wr_len (h : pH) (a k : Nat) (x : Int32) : (wr h a k x).length = h.length := by
  unfold wr
  split
  · split
    · exact put_len _ _ _
    · rfl
  · exact put_len _ _ _
  · rfl
theorem wrJ_len (h : pH) (a k : Nat) (x : Int64) : (wrJ h a k x).length = h.length := by
  unfold wrJ
  split
  · exact put_len _ _ _
  · rfl
theorem rd_wr_ne (h : pH) {a k b j : Nat} (x : Int32) (hne : ¬ (a = b ∧ k = j)) : rd (wr h a k x) b j = rd h b j := by
  unfold wr
  split
  · rename_i ci fs hq
    split
    · rename_i y hk
      by_cases hb : a = b
      · subst hb
        unfold rd
        rw [pAt_put_eq hq, hq]
        show (match (fs.set k (.int x))[j]? with | some (.int x) => x | _ => 0) = (match fs[j]? with | some (.int x) => x | _ => 0)
        rw [List.getElem?_set, if_neg (fun z => hne ⟨rfl, z⟩)]
      · unfold rd
        rw [pAt_put_ne (pAt_some hq).1 hb]
    · rfl
  · rename_i t n f hq
    by_cases hb : a = b
    · subst hb
      unfold rd
      rw [pAt_put_eq hq, hq]
      show upd f k x j = f j
      unfold upd
      rw [if_neg (fun z => hne ⟨rfl, z.symm⟩)]
    · unfold rd
      rw [pAt_put_ne (pAt_some hq).1 hb]
  · rfl
/-- may this place be written as an int? -/
def okK (s : Option (Nat × Nat × List (Option Nat))) (k : Nat) : Bool := match s with
  | some (q, _, l) => if q % 4 = 0 then l[k]? == some none else q % 4 == 1
  | none => false
theorem rd_wr_eq {h : pH} {a k : Nat} (x : Int32) (ok : okK (sh h a) k = true) : rd (wr h a k x) a k = x := by
  unfold sh at ok
  cases hq : pAt h a with
  | none => rw [hq] at ok; cases ok
  | some e =>
    rw [hq] at ok
    rcases e with ⟨ci, fs⟩ | ⟨t, n, f | f | f⟩
    · have ok : (if 4 * ci % 4 = 0 then (fs.map shv)[k]? == some none else 4 * ci % 4 == 1) = true := ok
      rw [if_pos (by omega), List.getElem?_map] at ok
      cases hk : fs[k]? with
      | none => rw [hk] at ok; cases ok
      | some v =>
        rw [hk] at ok
        cases v with
        | int y =>
          have e1 : wr h a k x = pPut h a (.inl (ci, fs.set k (.int x))) := by unfold wr; rw [hq]; dsimp only; rw [hk]
          rw [e1]
          unfold rd
          rw [pAt_put_eq hq]
          show (match (fs.set k (.int x))[k]? with | some (.int x) => x | _ => 0) = x
          rw [List.getElem?_set, if_pos rfl, if_pos (List.getElem?_eq_some_iff.mp hk).1]
        | ref r => cases ok
        | _ => cases ok
    · have e1 : wr h a k x = pPut h a (.inr (t, n, .inl (upd f k x))) := by unfold wr; rw [hq]
      rw [e1]
      unfold rd
      rw [pAt_put_eq hq]
      show upd f k x k = x
      unfold upd
      rw [if_pos rfl]
    · have ok : (if (4 * t + 2) % 4 = 0 then ([] : List (Option Nat))[k]? == some none else (4 * t + 2) % 4 == 1) = true := ok
      rw [if_neg (by omega), show (4 * t + 2) % 4 = 2 by omega] at ok
      cases ok
    · have ok : (if (4 * t + 3) % 4 = 0 then ((List.range n).map f)[k]? == some none else (4 * t + 3) % 4 == 1) = true := ok
      rw [if_neg (by omega), show (4 * t + 3) % 4 = 3 by omega] at ok
      cases ok
theorem rdJ_wr (h : pH) (a k : Nat) (x : Int32) (b j : Nat) : rdJ (wr h a k x) b j = rdJ h b j := by
  unfold wr
  split
  · rename_i ci fs hq
    split
    · by_cases hb : a = b
      · subst hb
        unfold rdJ
        rw [pAt_put_eq hq, hq]
      · unfold rdJ
        rw [pAt_put_ne (pAt_some hq).1 hb]
    · rfl
  · rename_i t n f hq
    by_cases hb : a = b
    · subst hb
      unfold rdJ
      rw [pAt_put_eq hq, hq]
    · unfold rdJ
      rw [pAt_put_ne (pAt_some hq).1 hb]
  · rfl
theorem rd_wrJ (h : pH) (a k : Nat) (x : Int64) (b j : Nat) : rd (wrJ h a k x) b j = rd h b j := by
  unfold wrJ
  split
  · rename_i t n f hq
    by_cases hb : a = b
    · subst hb
      unfold rd
      rw [pAt_put_eq hq, hq]
    · unfold rd
      rw [pAt_put_ne (pAt_some hq).1 hb]
  · rfl
theorem rdJ_wrJ_ne (h : pH) {a k b j : Nat} (x : Int64) (hne : ¬ (a = b ∧ k = j)) : rdJ (wrJ h a k x) b j = rdJ h b j := by
  unfold wrJ
  split
  · rename_i t n f hq
    by_cases hb : a = b
    · subst hb
      unfold rdJ
      rw [pAt_put_eq hq, hq]
      show vp_updL f k x j = f j
      unfold vp_updL
      rw [if_neg (fun z => hne ⟨rfl, z.symm⟩)]
    · unfold rdJ
      rw [pAt_put_ne (pAt_some hq).1 hb]
  · rfl
theorem sh_some {h : pH} {a : Nat} {s : Nat × Nat × List (Option Nat)} (hs : sh h a = some s) : ∃ e, pAt h a = some e ∧ shp e = s := Option.map_eq_some_iff.mp hs
theorem sh_obj {h : pH} {a ci n : Nat} {l : List (Option Nat)} (hs : sh h a = some (4 * ci, n, l)) : ∃ fs : List Value, pAt h a = some (.inl (ci, fs)) ∧ fs.map shv = l := by
  obtain ⟨e, hq, he⟩ := sh_some hs
  rcases e with ⟨cj, fs⟩ | ⟨t, m, f | f | f⟩
  · have he : (4 * cj, fs.length, fs.map shv) = (4 * ci, n, l) := he
    have h1 := congrArg (fun q => q.1) he
    have h3 := congrArg (fun q => q.2.2) he
    dsimp only at h1 h3
    obtain rfl : cj = ci := by omega
    exact ⟨fs, hq, h3⟩
  · have h1 : 4 * t + 1 = 4 * ci := congrArg (fun q => q.1) he
    omega
  · have h1 : 4 * t + 2 = 4 * ci := congrArg (fun q => q.1) he
    omega
  · have h1 : 4 * t + 3 = 4 * ci := congrArg (fun q => q.1) he
    omega
theorem sh_ints {h : pH} {a t n : Nat} {l : List (Option Nat)} (hs : sh h a = some (4 * t + 1, n, l)) : ∃ f : Nat → Int32, pAt h a = some (.inr (t, n, .inl f)) := by
  obtain ⟨e, hq, he⟩ := sh_some hs
  rcases e with ⟨cj, fs⟩ | ⟨t', m, f | f | f⟩
  · have h1 : 4 * cj = 4 * t + 1 := congrArg (fun q => q.1) he
    omega
  · have h1 : 4 * t' + 1 = 4 * t + 1 := congrArg (fun q => q.1) he
    have h2 : m = n := congrArg (fun q => q.2.1) he
    obtain rfl : t' = t := by omega
    subst h2
    exact ⟨f, hq⟩
  · have h1 : 4 * t' + 2 = 4 * t + 1 := congrArg (fun q => q.1) he
    omega
  · have h1 : 4 * t' + 3 = 4 * t + 1 := congrArg (fun q => q.1) he
    omega
theorem sh_longs {h : pH} {a t n : Nat} {l : List (Option Nat)} (hs : sh h a = some (4 * t + 2, n, l)) : ∃ f : Nat → Int64, pAt h a = some (.inr (t, n, .inr (.inl f))) := by
  obtain ⟨e, hq, he⟩ := sh_some hs
  rcases e with ⟨cj, fs⟩ | ⟨t', m, f | f | f⟩
  · have h1 : 4 * cj = 4 * t + 2 := congrArg (fun q => q.1) he
    omega
  · have h1 : 4 * t' + 1 = 4 * t + 2 := congrArg (fun q => q.1) he
    omega
  · have h1 : 4 * t' + 2 = 4 * t + 2 := congrArg (fun q => q.1) he
    have h2 : m = n := congrArg (fun q => q.2.1) he
    obtain rfl : t' = t := by omega
    subst h2
    exact ⟨f, hq⟩
  · have h1 : 4 * t' + 3 = 4 * t + 2 := congrArg (fun q => q.1) he
    omega
theorem fs_int {fs : List Value} {l : List (Option Nat)} {k : Nat} (hm : fs.map shv = l) (hk : l[k]? = some none) : ∃ x, fs[k]? = some (.int x) := by
  subst hm
  rw [List.getElem?_map] at hk
  obtain ⟨v, h1, h2⟩ := Option.map_eq_some_iff.mp hk
  cases v with
  | int x => exact ⟨x, h1⟩
  | _ => cases h2
theorem fs_ref {fs : List Value} {l : List (Option Nat)} {k r : Nat} (hm : fs.map shv = l) (hk : l[k]? = some (some (r + 1))) : fs[k]? = some (.ref r) := by
  subst hm
  rw [List.getElem?_map] at hk
  obtain ⟨v, h1, h2⟩ := Option.map_eq_some_iff.mp hk
  cases v with
  | ref q =>
    have : q + 1 = r + 1 := Option.some.inj h2
    rw [h1, show q = r from Nat.succ.inj this]
  | int x => cases h2
  | _ => exact absurd (Option.some.inj h2) (by simp)
theorem isO_sh {h : pH} {a ci n : Nat} {l : List (Option Nat)} (h6 : ¬ a < 2) (hs : sh h a = some (4 * ci, n, l)) : isO h a ci = true := by
  obtain ⟨fs, hq, -⟩ := sh_obj hs
  unfold isO pIs
  dsimp only
  rw [if_neg h6, hq]
  exact decide_eq_true rfl
theorem getI_sh {h : pH} {a ci k n : Nat} {l : List (Option Nat)} (hs : sh h a = some (4 * ci, n, l)) (hk : l[k]? = some none) : getI h a ci k = some (rd h a k) := by
  obtain ⟨fs, hq, hm⟩ := sh_obj hs
  obtain ⟨x, hx⟩ := fs_int hm hk
  unfold getI rd
  rw [hq]
  dsimp only
  rw [if_pos rfl, hx]
theorem getR_sh {h : pH} {a ci k n r : Nat} {l : List (Option Nat)} (hs : sh h a = some (4 * ci, n, l)) (hk : l[k]? = some (some (r + 1))) : getR h a ci k = some r := by
  obtain ⟨fs, hq, hm⟩ := sh_obj hs
  have hx := fs_ref hm hk
  unfold getR
  rw [hq]
  dsimp only
  rw [if_pos rfl, hx]
theorem putI_sh {h : pH} {a ci k n : Nat} {l : List (Option Nat)} (x : Int32) (hs : sh h a = some (4 * ci, n, l)) (hk : l[k]? = some none) : putI h a ci k x = some (wr h a k x) := by
  obtain ⟨fs, hq, hm⟩ := sh_obj hs
  obtain ⟨y, hy⟩ := fs_int hm hk
  unfold putI putV wr
  rw [hq]
  dsimp only
  rw [if_pos ⟨rfl, (List.getElem?_eq_some_iff.mp hy).1⟩, hy]
theorem putZ_sh {h : pH} {a ci k n : Nat} {l : List (Option Nat)} {x : Int32} (hx : x = 0 ∨ x = 1) (hs : sh h a = some (4 * ci, n, l)) (hk : l[k]? = some none) : putZ h a ci k x = some (wr h a k x) := by
  unfold putZ
  rw [if_pos hx]
  exact putI_sh x hs hk
theorem ldI_sh {h : pH} {a i n : Nat} {l : List (Option Nat)} (hs : sh h a = some (1, n, l)) (hi : i < n) (hn : n < 2 ^ 31) : ldI h a (Int32.ofNat i) = some (rd h a i) := by
  obtain ⟨f, hq⟩ := sh_ints (t := 0) hs
  unfold ldI rd
  rw [hq]
  show (if Int32.ofNat i < 0 ∨ n ≤ (Int32.ofNat i).toNatClampNeg then none else some (f (Int32.ofNat i).toNatClampNeg)) = some (f i)
  rw [if_neg (i_out hi hn), i_cl (by omega)]
theorem stI_sh {h : pH} {a i n : Nat} {l : List (Option Nat)} (x : Int32) (hs : sh h a = some (1, n, l)) (hi : i < n) (hn : n < 2 ^ 31) : stI h a (Int32.ofNat i) x = some (wr h a i x) := by
  obtain ⟨f, hq⟩ := sh_ints (t := 0) hs
  unfold stI wr
  rw [hq]
  show (if Int32.ofNat i < 0 ∨ n ≤ (Int32.ofNat i).toNatClampNeg then none else some (pPut h a (.inr (0, n, .inl (upd f (Int32.ofNat i).toNatClampNeg x))))) = some (pPut h a (.inr (0, n, .inl (upd f i x))))
  rw [if_neg (i_out hi hn), i_cl (by omega)]
theorem ldZ_sh {h : pH} {a i n : Nat} {l : List (Option Nat)} (hs : sh h a = some (9, n, l)) (hi : i < n) (hn : n < 2 ^ 31) : ldZ h a (Int32.ofNat i) = some (rd h a i) := by
  obtain ⟨f, hq⟩ := sh_ints (t := 2) hs
  unfold ldZ rd
  rw [hq]
  show (if Int32.ofNat i < 0 ∨ n ≤ (Int32.ofNat i).toNatClampNeg then none else some (f (Int32.ofNat i).toNatClampNeg)) = some (f i)
  rw [if_neg (i_out hi hn), i_cl (by omega)]
theorem nar0 : vp_nar .boolean 0 = 0 := by decide
theorem nar1 : vp_nar .boolean 1 = 1 := by decide
theorem stZ_sh {h : pH} {a i n : Nat} {l : List (Option Nat)} {x : Int32} (hx : x = 0 ∨ x = 1) (hs : sh h a = some (9, n, l)) (hi : i < n) (hn : n < 2 ^ 31) : stZ h a (Int32.ofNat i) x = some (wr h a i x) := by
  obtain ⟨f, hq⟩ := sh_ints (t := 2) hs
  unfold stZ wr
  rw [hq]
  show (if Int32.ofNat i < 0 ∨ n ≤ (Int32.ofNat i).toNatClampNeg then none else some (pPut h a (.inr (2, n, .inl (upd f (Int32.ofNat i).toNatClampNeg (vp_nar .boolean x)))))) = some (pPut h a (.inr (2, n, .inl (upd f i x))))
  rw [if_neg (i_out hi hn), i_cl (by omega)]
  rcases hx with rfl | rfl
  · rw [nar0]
  · rw [nar1]
theorem ldJ_sh {h : pH} {a i n : Nat} {l : List (Option Nat)} (hs : sh h a = some (6, n, l)) (hi : i < n) (hn : n < 2 ^ 31) : ldJ h a (Int32.ofNat i) = some (rdJ h a i) := by
  obtain ⟨f, hq⟩ := sh_longs (t := 1) hs
  unfold ldJ rdJ
  rw [hq]
  show (if Int32.ofNat i < 0 ∨ n ≤ (Int32.ofNat i).toNatClampNeg then none else some (f (Int32.ofNat i).toNatClampNeg)) = some (f i)
  rw [if_neg (i_out hi hn), i_cl (by omega)]
theorem stJ_sh {h : pH} {a i n : Nat} {l : List (Option Nat)} (x : Int64) (hs : sh h a = some (6, n, l)) (hi : i < n) (hn : n < 2 ^ 31) : stJ h a (Int32.ofNat i) x = some (wrJ h a i x) := by
  obtain ⟨f, hq⟩ := sh_longs (t := 1) hs
  unfold stJ wrJ
  rw [hq]
  show (if Int32.ofNat i < 0 ∨ n ≤ (Int32.ofNat i).toNatClampNeg then none else some (pPut h a (.inr (1, n, .inr (.inl (vp_updL f (Int32.ofNat i).toNatClampNeg x)))))) = some (pPut h a (.inr (1, n, .inr (.inl (vp_updL f i x)))))
  rw [if_neg (i_out hi hn), i_cl (by omega)]
theorem rdJ_wrJ_eq {h : pH} {a k n : Nat} {l : List (Option Nat)} (x : Int64) (hs : sh h a = some (6, n, l)) : rdJ (wrJ h a k x) a k = x := by
  obtain ⟨f, hq⟩ := sh_longs (t := 1) hs
  have e1 : wrJ h a k x = pPut h a (.inr (1, n, .inr (.inl (vp_updL f k x)))) := by unfold wrJ; rw [hq]
  rw [e1]
  unfold rdJ
  rw [pAt_put_eq hq]
  show vp_updL f k x k = x
  unfold vp_updL
  rw [if_pos rfl]
theorem lenA_sh {h : pH} {a q n : Nat} {l : List (Option Nat)} (hs : sh h a = some (q, n, l)) (hq : q % 4 ≠ 0) (hq2 : q < 16) : lenA h a = some (Int32.ofNat n) := by
  obtain ⟨e, h1, he⟩ := sh_some hs
  unfold lenA
  rw [h1]
  rcases e with ⟨cj, fs⟩ | ⟨t', m, f | f | f⟩
  · have h1 : 4 * cj = q := congrArg (fun q => q.1) he
    omega
  · have h1 : 4 * t' + 1 = q := congrArg (fun q => q.1) he
    have h2 : m = n := congrArg (fun q => q.2.1) he
    dsimp only
    rw [if_pos (by omega), h2]
  · have h1 : 4 * t' + 2 = q := congrArg (fun q => q.1) he
    have h2 : m = n := congrArg (fun q => q.2.1) he
    dsimp only
    rw [if_pos (by omega), h2]
  · have h1 : 4 * t' + 3 = q := congrArg (fun q => q.1) he
    have h2 : m = n := congrArg (fun q => q.2.1) he
    dsimp only
    rw [if_pos (by omega), h2]
