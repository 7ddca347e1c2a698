/-! ===== rows for what constructors do ===== -/
def newI (x : Int32) (h : pH) : Option (Nat × pH × Nat) := if x < 0 ∨ 60000000 < x.toNatClampNeg then none else some (6 + h.length, h ++ [.inr (0, x.toNatClampNeg, .inl (fun _ => 0))], x.toNatClampNeg)
theorem r_newI {X : pX} {n cls : Nat} {ini : Bool} {cc : ByteArray} {nL : Nat} {ret : Option FieldType} {pc : Nat} {lv : pL} {st : List Value} {h : pH} {nc ns : Nat} {r : pR} {x : Int32} {q : Nat × pH × Nat} (hd : decode cc pc = .ok (.newarray .int, 2)) (hg : newI x h = some q) (K : Run X n cls ini cc nL ret (pc + 2) lv (.ref q.1 :: st) q.2.1 (nc + 1) (ns + q.2.2) r) : Run X n cls ini cc nL ret pc lv (.int x :: st) h nc ns r := by
  unfold newI at hg
  by_cases hx : x < 0 ∨ 60000000 < x.toNatClampNeg
  · rw [if_pos hx] at hg; cases hg
  · rw [if_neg hx] at hg
    have hq := Option.some.inj hg
    subst hq
    refine r_make hd rfl rfl rfl (st' := .ref (6 + h.length) :: st) (h' := h ++ [.inr (0, x.toNatClampNeg, .inl (fun _ => 0))]) (dc := 1) (ds := x.toNatClampNeg) ?_ K
    unfold pmake pNewa
    dsimp only
    rw [if_neg hx]
    rfl
def newZ (x : Int32) (h : pH) : Option (Nat × pH × Nat) := if x < 0 ∨ 60000000 < x.toNatClampNeg then none else some (6 + h.length, h ++ [.inr (2, x.toNatClampNeg, .inl (fun _ => 0))], x.toNatClampNeg)
theorem r_newZ {X : pX} {n cls : Nat} {ini : Bool} {cc : ByteArray} {nL : Nat} {ret : Option FieldType} {pc : Nat} {lv : pL} {st : List Value} {h : pH} {nc ns : Nat} {r : pR} {x : Int32} {q : Nat × pH × Nat} (hd : decode cc pc = .ok (.newarray .boolean, 2)) (hg : newZ x h = some q) (K : Run X n cls ini cc nL ret (pc + 2) lv (.ref q.1 :: st) q.2.1 (nc + 1) (ns + q.2.2) r) : Run X n cls ini cc nL ret pc lv (.int x :: st) h nc ns r := by
  unfold newZ at hg
  by_cases hx : x < 0 ∨ 60000000 < x.toNatClampNeg
  · rw [if_pos hx] at hg; cases hg
  · rw [if_neg hx] at hg
    have hq := Option.some.inj hg
    subst hq
    refine r_make hd rfl rfl rfl (st' := .ref (6 + h.length) :: st) (h' := h ++ [.inr (2, x.toNatClampNeg, .inl (fun _ => 0))]) (dc := 1) (ds := x.toNatClampNeg) ?_ K
    unfold pmake pNewa
    dsimp only
    rw [if_neg hx]
    rfl
def newOa (h : pH) : Nat := 6 + h.length
def newOh (ci : Nat) (h : pH) : pH := h ++ [.inl (ci, pFs0.getD ci [])]
theorem r_newO {X : pX} {n cls : Nat} {ini : Bool} {cc : ByteArray} {nL : Nat} {ret : Option FieldType} {pc : Nat} {lv : pL} {st : List Value} {h : pH} {nc ns : Nat} {r : pR} {i ci : Nat} {P : Nat × Nat × Nat} (hd : decode cc pc = .ok (.new i, 3)) (hq : pFind pNw cls i = some (ci, P)) (K : Run X n cls ini cc nL ret (pc + 3) lv (.ref (newOa h) :: st) (newOh ci h) (nc + 1) (ns + (vwCl.getD ci ("", TX0, 0)).2.2) r) : Run X n cls ini cc nL ret pc lv st h nc ns r := by
  refine r_make hd rfl rfl rfl (st' := .ref (newOa h) :: st) (h' := newOh ci h) (dc := 1) (ds := (vwCl.getD ci ("", TX0, 0)).2.2) ?_ K
  unfold pmake pNewo
  dsimp only
  rw [hq]
  rfl
def newM (n k : Int32) (h : pH) : Option (Nat × pH × Nat × Nat) := if n < 0 ∨ k < 0 ∨ 10000 < n.toNatClampNeg ∨ 10000 < k.toNatClampNeg then none else some (6 + h.length, h ++ (.inr (3, n.toNatClampNeg, .inr (.inr (fun i => if i < n.toNatClampNeg then some (6 + (h.length + 1 + i)) else none))) :: List.replicate n.toNatClampNeg (.inr (0, k.toNatClampNeg, .inl (fun _ => 0)))), 1 + n.toNatClampNeg, n.toNatClampNeg + n.toNatClampNeg * k.toNatClampNeg)
theorem r_newM {X : pX} {n cls : Nat} {ini : Bool} {cc : ByteArray} {nL : Nat} {ret : Option FieldType} {pc : Nat} {lv : pL} {st : List Value} {h : pH} {nc ns : Nat} {r : pR} {i P : Nat} {x y : Int32} {q : Nat × pH × Nat × Nat} (hd : decode cc pc = .ok (.multianewarray i 2, 4)) (hq : pFind pMn cls i = some P) (hg : newM x y h = some q) (K : Run X n cls ini cc nL ret (pc + 4) lv (.ref q.1 :: st) q.2.1 (nc + q.2.2.1) (ns + q.2.2.2) r) : Run X n cls ini cc nL ret pc lv (.int y :: .int x :: st) h nc ns r := by
  unfold newM at hg
  by_cases hx : x < 0 ∨ y < 0 ∨ 10000 < x.toNatClampNeg ∨ 10000 < y.toNatClampNeg
  · rw [if_pos hx] at hg; cases hg
  · rw [if_neg hx] at hg
    have hq9 := Option.some.inj hg
    subst hq9
    refine r_make hd rfl rfl rfl ?_ K
    unfold pmake pNewm
    dsimp only
    rw [if_pos rfl, if_neg hx, hq]
    rfl
theorem r_oinit {X : pX} {n cls : Nat} {ini : Bool} {cc : ByteArray} {nL : Nat} {ret : Option FieldType} {pc : Nat} {lv : pL} {st : List Value} {h : pH} {nc ns : Nat} {r : pR} {i P a : Nat} (hd : decode cc pc = .ok (.invokespecial i, 3)) (hq : pFind pOb cls i = some P) (ha : 6 ≤ a) (hw : (st.map fun v => v.category).sum ≤ 8) (K : Run X (n + 1) cls ini cc nL ret (pc + 3) lv st h nc ns r) : Run X (n + 1) cls ini cc nL ret pc lv (.ref a :: st) h nc ns r := by
  refine r_calls (st' := st) (h' := h) (dc := 0) (ds := 0) hd rfl rfl rfl rfl ⟨0, fun K h1 => ?_⟩ K
  unfold pcalls
  dsimp only
  rw [hq]
  dsimp only
  rw [if_pos ⟨rfl, ha, hw⟩]
theorem r_special {X : pX} {n cls : Nat} {ini : Bool} {cc : ByteArray} {nL : Nat} {ret : Option FieldType} {pc : Nat} {lv : pL} {st : List Value} {h : pH} {nc ns : Nat} {r : pR} {idx mn P : Nat} {M : pMr × Nat × Nat × Nat × Nat} {a : Nat} {as0 rest : List Value} {v : Option Value} {h' : pH} {dc ds : Nat} (hd : decode cc pc = .ok (.invokespecial idx, 3)) (hob : pFind pOb cls idx = none) (hq : pFind pMl cls idx = some (mn, P)) (hM : pMq[mn]? = some M) (hk : M.1.2.2.2.2.2 = 2) (hA : pArgs M.1.2.2.2.2.1 2 st = some (.ref a :: as0, rest)) (hw : (rest.map fun v => v.category).sum ≤ 8) (hi : isO h a M.1.2.1 = true) (hc : Calls X n mn (.ref a :: as0) h (v, h', dc, ds)) (K : Run X (n + 1) cls ini cc nL ret (pc + 3) lv (v.toList ++ rest) h' (nc + dc) (ns + ds) r) : Run X (n + 1) cls ini cc nL ret pc lv st h nc ns r := by
  obtain ⟨K1, hc⟩ := hc
  refine r_calls hd rfl rfl rfl rfl ⟨K1, fun K h1 => ?_⟩ K
  unfold pcalls
  dsimp only
  rw [hob]
  exact pInvoke_eq hq hM hk hA hw (Or.inr hi) (hc K h1)
theorem r_putVF {X : pX} {n cls : Nat} {cc : ByteArray} {nL : Nat} {ret : Option FieldType} {pc : Nat} {lv : pL} {st : List Value} {h : pH} {nc ns : Nat} {r : pR} {i ci k P a : Nat} {v : Value} {h' : pH} (hd : decode cc pc = .ok (.putfield i, 3)) (hq : pFind pFl cls i = some (ci, k, 0, P)) (hcl : ci = cls) (hf : pFits ((pTys.getD ci tyX0) k) v = true) (hg : putV h a ci k v = some h') (K : Run X n cls true cc nL ret (pc + 3) lv st h' nc ns r) : Run X n cls true cc nL ret pc lv (v :: .ref a :: st) h nc ns r := r_step hd rfl rfl (by obtain ⟨fs, h1, h2, rfl⟩ := putV_some hg; unfold pstep pPutf; dsimp only; rw [h1, hq]; dsimp only; rw [if_pos ⟨rfl, h2, hf, fun _ => ⟨rfl, hcl, rfl⟩⟩]; rfl) K
/-- a final field of this kind: 0 int, 1 a reference -/
def pFk (ci k : Nat) : Nat := match (pTys.getD ci tyX0) k with
  | .int => 0
  | .array _ => 1
  | .object _ => 1
  | _ => 2
theorem r_putIF {X : pX} {n cls : Nat} {cc : ByteArray} {nL : Nat} {ret : Option FieldType} {pc : Nat} {lv : pL} {st : List Value} {h : pH} {nc ns : Nat} {r : pR} {i ci k P a : Nat} {x : Int32} {h' : pH} (hd : decode cc pc = .ok (.putfield i, 3)) (hq : pFind pFl cls i = some (ci, k, 0, P)) (hcl : ci = cls ∧ pFk ci k = 0) (hg : putI h a ci k x = some h') (K : Run X n cls true cc nL ret (pc + 3) lv st h' nc ns r) : Run X n cls true cc nL ret pc lv (.int x :: .ref a :: st) h nc ns r := by
  refine r_putVF hd hq hcl.1 ?_ hg K
  have h2 := hcl.2
  unfold pFk at h2
  split at h2
  · rename_i e; rw [e]; rfl
  · cases h2
  · cases h2
  · cases h2
theorem r_putRF {X : pX} {n cls : Nat} {cc : ByteArray} {nL : Nat} {ret : Option FieldType} {pc : Nat} {lv : pL} {st : List Value} {h : pH} {nc ns : Nat} {r : pR} {i ci k P a x : Nat} {h' : pH} (hd : decode cc pc = .ok (.putfield i, 3)) (hq : pFind pFl cls i = some (ci, k, 0, P)) (hcl : ci = cls ∧ pFk ci k = 1) (hg : putR h a ci k x = some h') (K : Run X n cls true cc nL ret (pc + 3) lv st h' nc ns r) : Run X n cls true cc nL ret pc lv (.ref x :: .ref a :: st) h nc ns r := by
  unfold putR at hg
  by_cases hx : x = 4
  · rw [if_pos hx] at hg; cases hg
  · rw [if_neg hx] at hg
    refine r_putVF hd hq hcl.1 ?_ hg K
    have h2 := hcl.2
    unfold pFk at h2
    split at h2
    · cases h2
    · rename_i e; rw [e]; exact decide_eq_true hx
    · rename_i e; rw [e]; exact decide_eq_true hx
    · cases h2
theorem kI_6 : Int32.ofInt 6 = 6 := by decide
theorem kB_66 : (Int8.ofInt 66).toInt32 = 66 := by decide
theorem kB_67 : (Int8.ofInt 67).toInt32 = 67 := by decide
theorem kB_77 : (Int8.ofInt 77).toInt32 = 77 := by decide
theorem kB_78 : (Int8.ofInt 78).toInt32 = 78 := by decide
theorem kB_83 : (Int8.ofInt 83).toInt32 = 83 := by decide
theorem kS_350 : (Int16.ofInt 350).toInt32 = 350 := by decide
theorem kS_351 : (Int16.ofInt 351).toInt32 = 351 := by decide
theorem kS_800 : (Int16.ofInt 800).toInt32 = 800 := by decide
theorem kS_801 : (Int16.ofInt 801).toInt32 = 801 := by decide
theorem kS_900 : (Int16.ofInt 900).toInt32 = 900 := by decide
theorem kS_1600 : (Int16.ofInt 1600).toInt32 = 1600 := by decide
theorem kS_2000 : (Int16.ofInt 2000).toInt32 = 2000 := by decide
theorem kS_3200 : (Int16.ofInt 3200).toInt32 = 3200 := by decide
theorem kS_5200 : (Int16.ofInt 5200).toInt32 = 5200 := by decide
theorem kS_6000 : (Int16.ofInt 6000).toInt32 = 6000 := by decide
theorem kS_12000 : (Int16.ofInt 12000).toInt32 = 12000 := by decide
theorem L5_27 : pFind pMl 5 27 = some (13, 2181) := by decide +kernel
theorem L9_23 : pFind pMl 9 23 = some (10, 2081) := by decide +kernel
theorem L11_15 : pFind pMl 11 15 = some (1, 1032) := by decide +kernel
theorem L11_22 : pFind pMl 11 22 = some (4, 1089) := by decide +kernel
theorem L11_29 : pFind pMl 11 29 = some (5, 1136) := by decide +kernel
theorem L11_34 : pFind pMl 11 34 = some (6, 1205) := by decide +kernel
theorem L11_37 : pFind pMl 11 37 = some (7, 2019) := by decide +kernel
theorem L11_46 : pFind pMl 11 46 = some (8, 2062) := by decide +kernel
theorem L11_55 : pFind pMl 11 55 = some (9, 2075) := by decide +kernel
theorem L11_64 : pFind pMl 11 64 = some (11, 2158) := by decide +kernel
theorem L11_71 : pFind pMl 11 71 = some (12, 2175) := by decide +kernel
theorem L12_217 : pFind pMl 12 217 = some (230, 7010) := by decide +kernel
theorem L21_9 : pFind pMl 21 9 = some (0, 1024) := by decide +kernel
theorem L21_12 : pFind pMl 21 12 = some (229, 7002) := by decide +kernel
theorem L21_13 : pFind pMl 21 13 = some (14, 3059) := by decide +kernel
theorem L21_17 : pFind pMl 21 17 = some (304, 9157) := by decide +kernel
theorem L21_18 : pFind pMl 21 18 = some (16, 3067) := by decide +kernel
theorem L21_22 : pFind pMl 21 22 = some (305, 9161) := by decide +kernel
theorem L21_23 : pFind pMl 21 23 = some (17, 3071) := by decide +kernel
theorem L21_27 : pFind pMl 21 27 = some (231, 8102) := by decide +kernel
theorem L21_28 : pFind pMl 21 28 = some (164, 5196) := by decide +kernel
theorem L21_31 : pFind pMl 21 31 = some (306, 9165) := by decide +kernel
theorem L21_32 : pFind pMl 21 32 = some (165, 5200) := by decide +kernel
theorem L21_36 : pFind pMl 21 36 = some (307, 9171) := by decide +kernel
theorem L21_37 : pFind pMl 21 37 = some (168, 5212) := by decide +kernel
theorem L21_40 : pFind pMl 21 40 = some (308, 9175) := by decide +kernel
theorem L21_41 : pFind pMl 21 41 = some (185, 6055) := by decide +kernel
theorem L21_44 : pFind pMl 21 44 = some (318, 9216) := by decide +kernel
theorem L21_45 : pFind pMl 21 45 = some (223, 6215) := by decide +kernel
theorem L21_48 : pFind pMl 21 48 = some (339, 10060) := by decide +kernel
theorem L21_49 : pFind pMl 21 49 = some (224, 6219) := by decide +kernel
theorem L21_52 : pFind pMl 21 52 = some (340, 10064) := by decide +kernel
theorem L21_53 : pFind pMl 21 53 = some (226, 6227) := by decide +kernel
theorem L21_56 : pFind pMl 21 56 = some (341, 10069) := by decide +kernel
theorem M8 : pMq[8]? = some ((⟨"ClassHouse$Checker", "<init>", "(LClassHouse$Classes;LClassHouse$Members;)V"⟩, 0, 3, none, 2, 2), 2064, 2063, 0, 1008) := by rfl
theorem M1 : pMq[1]? = some ((⟨"ClassHouse$Words", "<init>", "()V"⟩, 10, 1, none, 0, 2), 1034, 1033, 0, 1002) := by rfl
theorem M0 : pMq[0]? = some ((⟨"ClassHouse", "<init>", "()V"⟩, 11, 3, none, 0, 2), 1026, 1025, 0, 1001) := by rfl
theorem M229 : pMq[229]? = some ((⟨"ClassHouseModel", "<init>", "()V"⟩, 12, 1, none, 0, 2), 7004, 7003, 0, 1014) := by rfl
theorem M4 : pMq[4]? = some ((⟨"ClassHouse$Classes", "<init>", "()V"⟩, 1, 1, none, 0, 2), 1091, 1090, 0, 1004) := by rfl
theorem M6 : pMq[6]? = some ((⟨"ClassHouse$Code", "<init>", "()V"⟩, 2, 1, none, 0, 2), 1207, 1206, 0, 1006) := by rfl
theorem M13 : pMq[13]? = some ((⟨"ClassHouse$Heap", "<init>", "()V"⟩, 3, 2, none, 0, 2), 2183, 2182, 0, 1013) := by rfl
theorem M11 : pMq[11]? = some ((⟨"ClassHouse$Input", "<init>", "()V"⟩, 4, 1, none, 0, 2), 2160, 2159, 0, 1011) := by rfl
theorem M12 : pMq[12]? = some ((⟨"ClassHouse$Machine", "<init>", "(LClassHouse$Classes;LClassHouse$Members;LClassHouse$Code;LClassHouse$Input;)V"⟩, 5, 5, none, 4, 2), 2177, 2176, 0, 1012) := by rfl
theorem M5 : pMq[5]? = some ((⟨"ClassHouse$Members", "<init>", "(LClassHouse$Classes;)V"⟩, 6, 2, none, 1, 2), 1138, 1137, 0, 1005) := by rfl
theorem M7 : pMq[7]? = some ((⟨"ClassHouse$Reader", "<init>", "(LClassHouse$Words;LClassHouse$Classes;LClassHouse$Members;LClassHouse$Code;)V"⟩, 7, 5, none, 4, 2), 2021, 2020, 0, 1007) := by rfl
theorem M10 : pMq[10]? = some ((⟨"ClassHouse$Scope", "<init>", "()V"⟩, 8, 1, none, 0, 2), 2083, 2082, 0, 1010) := by rfl
theorem M9 : pMq[9]? = some ((⟨"ClassHouse$Typer", "<init>", "(LClassHouse$Classes;LClassHouse$Members;LClassHouse$Code;)V"⟩, 9, 4, none, 3, 2), 2077, 2076, 0, 1009) := by rfl
