/-! ===== RUN: the interpreter's runs, as long as they take; one row an instruction ===== -/
/-- what a body n deep may call -/
def pcf (X : pX) (K : Nat) : Nat → Nat → List Value → pH → Option pR
  | 0 => fun _ _ _ => none
  | n + 1 => pcall X K n
def pnat : Nat → Bool
  | 0 => false
  | _ + 1 => true
theorem pcall_eq (X : pX) (K n mn : Nat) (as : List Value) (h : pH) : pcall X K n mn as h = pbody X K (pcf X K n) (pnat n) mn as h := by
  cases n <;> rfl
def Run (X : pX) (n cls : Nat) (ini : Bool) (cc : ByteArray) (nL : Nat) (ret : Option FieldType) (pc : Nat) (lv : pL) (st : List Value) (h : pH) (nc ns : Nat) (r : pR) : Prop :=
  ∃ K0, ∀ K, K0 ≤ K → ∀ k, K0 ≤ k → prun X (pcf X K n) (pnat n) cls ini cc nL ret k pc lv st h nc ns = some r
def Calls (X : pX) (n mn : Nat) (as : List Value) (h : pH) (r : pR) : Prop := ∃ K0, ∀ K, K0 ≤ K → pcall X K n mn as h = some r
/-! fields and arrays, as a method sees them -/
def getI (h : pH) (a ci k : Nat) : Option Int32 := match pAt h a with
  | some (.inl (cj, fs)) => if cj = ci then (match fs[k]? with
      | some (.int x) => some x
      | _ => none) else none
  | _ => none
def getR (h : pH) (a ci k : Nat) : Option Nat := match pAt h a with
  | some (.inl (cj, fs)) => if cj = ci then (match fs[k]? with
      | some (.ref x) => some x
      | _ => none) else none
  | _ => none
def putV (h : pH) (a ci k : Nat) (v : Value) : Option pH := match pAt h a with
  | some (.inl (cj, fs)) => if cj = ci ∧ k < fs.length then some (pPut h a (.inl (ci, fs.set k v))) else none
  | _ => none
def putI (h : pH) (a ci k : Nat) (x : Int32) : Option pH := putV h a ci k (.int x)
def putZ (h : pH) (a ci k : Nat) (x : Int32) : Option pH := if x = 0 ∨ x = 1 then putV h a ci k (.int x) else none
def putR (h : pH) (a ci k : Nat) (x : Nat) : Option pH := if x = 4 then none else putV h a ci k (.ref x)
def ldI (h : pH) (a : Nat) (i : Int32) : Option Int32 := match pAt h a with
  | some (.inr (0, n, .inl f)) => if i < 0 ∨ n ≤ i.toNatClampNeg then none else some (f i.toNatClampNeg)
  | _ => none
def ldZ (h : pH) (a : Nat) (i : Int32) : Option Int32 := match pAt h a with
  | some (.inr (2, n, .inl f)) => if i < 0 ∨ n ≤ i.toNatClampNeg then none else some (f i.toNatClampNeg)
  | _ => none
def ldJ (h : pH) (a : Nat) (i : Int32) : Option Int64 := match pAt h a with
  | some (.inr (1, n, .inr (.inl f))) => if i < 0 ∨ n ≤ i.toNatClampNeg then none else some (f i.toNatClampNeg)
  | _ => none
def ldA (h : pH) (a : Nat) (i : Int32) : Option Nat := match pAt h a with
  | some (.inr (3, n, .inr (.inr f))) => if i < 0 ∨ n ≤ i.toNatClampNeg then none else (match f i.toNatClampNeg with
      | some b => if b < 6 then none else some b
      | none => none)
  | _ => none
def stI (h : pH) (a : Nat) (i x : Int32) : Option pH := match pAt h a with
  | some (.inr (0, n, .inl f)) => if i < 0 ∨ n ≤ i.toNatClampNeg then none else some (pPut h a (.inr (0, n, .inl (upd f i.toNatClampNeg x))))
  | _ => none
def stZ (h : pH) (a : Nat) (i x : Int32) : Option pH := match pAt h a with
  | some (.inr (2, n, .inl f)) => if i < 0 ∨ n ≤ i.toNatClampNeg then none else some (pPut h a (.inr (2, n, .inl (upd f i.toNatClampNeg (vp_nar .boolean x)))))
  | _ => none
def stJ (h : pH) (a : Nat) (i : Int32) (x : Int64) : Option pH := match pAt h a with
  | some (.inr (1, n, .inr (.inl f))) => if i < 0 ∨ n ≤ i.toNatClampNeg then none else some (pPut h a (.inr (1, n, .inr (.inl (vp_updL f i.toNatClampNeg x)))))
  | _ => none
def lenA (h : pH) (a : Nat) : Option Int32 := match pAt h a with
  | some (.inr (t, n, _)) => if t < 4 then some (Int32.ofNat n) else none
  | _ => none
/-- the law's script, a string's byte, its field -/
def ldS (X : pX) (i : Int32) : Option Int32 := if i < 0 ∨ X.1 ≤ i.toNatClampNeg then none else some (X.2 i.toNatClampNeg)
def ldB (a : Nat) (i : Int32) : Option Int32 := if a = 2 ∨ a = 3 then (if i < 0 ∨ pLen1.getD (a - 2) 0 ≤ i.toNatClampNeg then none else some ((pByt.getD (a - 2) []).getD i.toNatClampNeg 0)) else none
def lenB (a : Nat) : Option Int32 := if a = 2 ∨ a = 3 then some (Int32.ofNat (pLen1.getD (a - 2) 0)) else none
def getSv (a : Nat) : Option Nat := if a < 2 then some (a + 2) else none
def getSc (a : Nat) : Option Int32 := if a < 2 then some 0 else none
def copyA (h : pH) (a0 : Nat) (sp : Int32) (a : Nat) (dp n : Int32) : Option pH := (pCopy [.int n, .int dp, .ref a, .int sp, .ref a0] h).map (fun q => q.2)
section RUN
variable {X : pX} {n cls : Nat} {ini : Bool} {cc : ByteArray} {nL : Nat} {ret : Option FieldType} {pc : Nat} {lv : pL} {st : List Value} {h : pH} {nc ns : Nat} {r : pR}
theorem r_step {i : Instr} {len : Nat} {pc' : Nat} {lv' : pL} {st' : List Value} {h' : pH} (hd : decode cc pc = .ok (i, len)) (hl : pLenOk i len = true) (hr : pret ret i st = none) (hs : pstep X cls ini nL i pc lv st h = some (pc', lv', st', h')) (K : Run X n cls ini cc nL ret pc' lv' st' h' nc ns r) : Run X n cls ini cc nL ret pc lv st h nc ns r := by
  obtain ⟨K0, hK⟩ := K
  refine ⟨K0 + 1, fun K h1 k h2 => ?_⟩
  obtain ⟨j, rfl⟩ : ∃ j, k = j + 1 := ⟨k - 1, by omega⟩
  unfold prun
  rw [hd]
  dsimp only
  rw [if_pos hl, hr]
  dsimp only
  rw [hs]
  exact hK K (by omega) j (by omega)
theorem r_ret {i : Instr} {v : Option Value} (hd : decode cc pc = .ok (i, 1)) (hl : pLenOk i 1 = true) (hr : pret ret i st = some v) : Run X n cls ini cc nL ret pc lv st h nc ns (v, h, nc, ns) := by
  refine ⟨1, fun K h1 k h2 => ?_⟩
  obtain ⟨j, rfl⟩ : ∃ j, k = j + 1 := ⟨k - 1, by omega⟩
  unfold prun
  rw [hd]
  dsimp only
  rw [if_pos hl, hr]
theorem r_make {i : Instr} {len : Nat} {pc' : Nat} {st' : List Value} {h' : pH} {dc ds : Nat} (hd : decode cc pc = .ok (i, len)) (hl : pLenOk i len = true) (hr : pret ret i st = none) (hs : pstep X cls ini nL i pc lv st h = none) (hm : pmake cls i pc st h = some (pc', st', h', dc, ds)) (K : Run X n cls ini cc nL ret pc' lv st' h' (nc + dc) (ns + ds) r) : Run X n cls ini cc nL ret pc lv st h nc ns r := by
  obtain ⟨K0, hK⟩ := K
  refine ⟨K0 + 1, fun K h1 k h2 => ?_⟩
  obtain ⟨j, rfl⟩ : ∃ j, k = j + 1 := ⟨k - 1, by omega⟩
  unfold prun
  rw [hd]
  dsimp only
  rw [if_pos hl, hr]
  dsimp only
  rw [hs]
  dsimp only
  rw [hm]
  exact hK K (by omega) j (by omega)
theorem r_calls {i : Instr} {st' : List Value} {h' : pH} {dc ds : Nat} (hd : decode cc pc = .ok (i, 3)) (hl : pLenOk i 3 = true) (hr : pret ret i st = none) (hs : pstep X cls ini nL i pc lv st h = none) (hm : pmake cls i pc st h = none) (hc : ∃ K1, ∀ K, K1 ≤ K → pcalls (pcf X K n) (pnat n) cls i st h = some (st', h', dc, ds)) (K : Run X n cls ini cc nL ret (pc + 3) lv st' h' (nc + dc) (ns + ds) r) : Run X n cls ini cc nL ret pc lv st h nc ns r := by
  obtain ⟨K0, hK⟩ := K
  obtain ⟨K1, hc⟩ := hc
  refine ⟨K0 + K1 + 1, fun K h1 k h2 => ?_⟩
  obtain ⟨j, rfl⟩ : ∃ j, k = j + 1 := ⟨k - 1, by omega⟩
  unfold prun
  rw [hd]
  dsimp only
  rw [if_pos hl, hr]
  dsimp only
  rw [hs]
  dsimp only
  rw [hm]
  dsimp only
  rw [hc K (by omega)]
  exact hK K (by omega) j (by omega)
theorem pInvoke_eq {call : Nat → List Value → pH → Option pR} {idx kd mn P : Nat} {M : pMr × Nat × Nat × Nat × Nat} {as rest : List Value} {v : Option Value} {h' : pH} {dc ds : Nat} (hq : pFind pMl cls idx = some (mn, P)) (hM : pMq[mn]? = some M) (hk : M.1.2.2.2.2.2 = kd) (hA : pArgs M.1.2.2.2.2.1 kd st = some (as, rest)) (hw : (rest.map fun v => v.category).sum ≤ 8) (hi : kd = 1 ∨ pIs h M.1.2.1 (as.headD .null) = true) (hc : call mn as h = some (v, h', dc, ds)) : pInvoke call cls idx kd st h = some (v.toList ++ rest, h', dc, ds) := by
  unfold pInvoke
  rw [hq]
  dsimp only
  rw [hM]
  dsimp only
  rw [if_pos hk, hA]
  dsimp only
  rw [if_neg (fun q => q.elim (fun q => by omega) (fun q => hi.elim (fun z => q.1 z) (fun z => by rw [z] at q; exact absurd q.2 (by decide)))), hc]
  rfl
/-- an object of this class -/
def isO (h : pH) (a c : Nat) : Bool := pIs h c (.ref a)
theorem r_virtual {idx mn P : Nat} {M : pMr × Nat × Nat × Nat × Nat} {a : Nat} {as0 rest : List Value} {v : Option Value} {h' : pH} {dc ds : Nat} (hd : decode cc pc = .ok (.invokevirtual idx, 3)) (hq : pFind pMl cls idx = some (mn, P)) (hM : pMq[mn]? = some M) (hk : M.1.2.2.2.2.2 = 0) (hA : pArgs M.1.2.2.2.2.1 0 st = some (.ref a :: as0, rest)) (hw : (rest.map fun v => v.category).sum ≤ 8) (hi : isO h a M.1.2.1 = true) (hc : Calls X n mn (.ref a :: as0) h (v, h', dc, ds)) (K : Run X (n + 1) cls ini cc nL ret (pc + 3) lv (v.toList ++ rest) h' (nc + dc) (ns + ds) r) : Run X (n + 1) cls ini cc nL ret pc lv st h nc ns r := by
  obtain ⟨K1, hc⟩ := hc
  exact r_calls hd rfl rfl rfl rfl ⟨K1, fun K h1 => pInvoke_eq hq hM hk hA hw (Or.inr hi) (hc K h1)⟩ K
theorem r_static {idx mn P : Nat} {M : pMr × Nat × Nat × Nat × Nat} {as rest : List Value} {v : Option Value} {h' : pH} {dc ds : Nat} (hd : decode cc pc = .ok (.invokestatic idx, 3)) (hac : pFind pAc cls idx = none) (hmx : pFind pMx cls idx = none) (hq : pFind pMl cls idx = some (mn, P)) (hM : pMq[mn]? = some M) (hk : M.1.2.2.2.2.2 = 1) (hA : pArgs M.1.2.2.2.2.1 1 st = some (as, rest)) (hw : (rest.map fun v => v.category).sum ≤ 8) (hc : Calls X n mn as h (v, h', dc, ds)) (K : Run X (n + 1) cls ini cc nL ret (pc + 3) lv (v.toList ++ rest) h' (nc + dc) (ns + ds) r) : Run X (n + 1) cls ini cc nL ret pc lv st h nc ns r := by
  obtain ⟨K1, hc⟩ := hc
  refine r_calls hd rfl rfl rfl rfl ⟨K1, fun K h1 => ?_⟩ K
  unfold pcalls
  dsimp only
  rw [hac]
  dsimp only
  rw [hmx]
  exact pInvoke_eq hq hM hk hA hw (Or.inl rfl) (hc K h1)
theorem r_copy {idx P : Nat} {h' : pH} {a a0 : Nat} {sp dp m : Int32} {rest : List Value} (hd : decode cc pc = .ok (.invokestatic idx, 3)) (hac : pFind pAc cls idx = some P) (hw : (rest.map fun v => v.category).sum ≤ 8) (hc : copyA h a0 sp a dp m = some h') (K : Run X (n + 1) cls ini cc nL ret (pc + 3) lv rest h' nc ns r) : Run X (n + 1) cls ini cc nL ret pc lv (.int m :: .int dp :: .ref a :: .int sp :: .ref a0 :: rest) h nc ns r := by
  refine r_calls (st' := rest) (h' := h') (dc := 0) (ds := 0) hd rfl rfl rfl rfl ⟨0, fun K h1 => ?_⟩ K
  unfold pcalls
  dsimp only
  rw [hac]
  dsimp only
  rw [if_pos (show pnat (n + 1) = true from rfl)]
  unfold copyA at hc
  obtain ⟨q, h1, rfl⟩ := Option.map_eq_some_iff.mp hc
  have : pCopy (.int m :: .int dp :: .ref a :: .int sp :: .ref a0 :: rest) h = some (rest, q.2) := by
    unfold pCopy at h1 ⊢
    dsimp only at h1 ⊢
    split at h1
    · cases h1
    · rename_i hc
      rw [if_neg (fun z => hc (z.elim Or.inl (fun z => z.elim (fun z => Or.inr (Or.inl z)) (fun z => z.elim (fun z => Or.inr (Or.inr (Or.inl z))) (fun z => by omega)))))]
      split at h1
      · split at h1
        · cases h1; rename_i e1 e2 hb; rw [if_pos hb]
        · cases h1
      · split at h1
        · cases h1; rename_i e1 e2 hb; rw [if_pos hb]
        · cases h1
      · cases h1
  rw [this]
  rfl
theorem r_max {idx P : Nat} {x y : Int32} {rest : List Value} (hd : decode cc pc = .ok (.invokestatic idx, 3)) (hac : pFind pAc cls idx = none) (hmx : pFind pMx cls idx = some (0, P)) (hw : (rest.map fun v => v.category).sum ≤ 8) (K : Run X (n + 1) cls ini cc nL ret (pc + 3) lv (.int (if x < y then y else x) :: rest) h nc ns r) : Run X (n + 1) cls ini cc nL ret pc lv (.int y :: .int x :: rest) h nc ns r := by
  refine r_calls (st' := .int (if x < y then y else x) :: rest) (h' := h) (dc := 0) (ds := 0) hd rfl rfl rfl rfl ⟨0, fun K h1 => ?_⟩ K
  unfold pcalls
  dsimp only
  rw [hac]
  dsimp only
  rw [hmx]
  dsimp only
  rw [if_pos (show pnat (n + 1) = true from rfl)]
  unfold pMaxMin
  dsimp only
  rw [if_pos hw]
  rfl
theorem r_min {idx P : Nat} {x y : Int32} {rest : List Value} (hd : decode cc pc = .ok (.invokestatic idx, 3)) (hac : pFind pAc cls idx = none) (hmx : pFind pMx cls idx = some (1, P)) (hw : (rest.map fun v => v.category).sum ≤ 8) (K : Run X (n + 1) cls ini cc nL ret (pc + 3) lv (.int (if y < x then y else x) :: rest) h nc ns r) : Run X (n + 1) cls ini cc nL ret pc lv (.int y :: .int x :: rest) h nc ns r := by
  refine r_calls (st' := .int (if y < x then y else x) :: rest) (h' := h) (dc := 0) (ds := 0) hd rfl rfl rfl rfl ⟨0, fun K h1 => ?_⟩ K
  unfold pcalls
  dsimp only
  rw [hac]
  dsimp only
  rw [hmx]
  dsimp only
  rw [if_pos (show pnat (n + 1) = true from rfl)]
  unfold pMaxMin
  dsimp only
  rw [if_pos hw]
  rfl
end RUN
