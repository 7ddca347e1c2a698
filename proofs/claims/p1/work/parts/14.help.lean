/-! ===== FUNCTIONS: what the functions of the methods are made of ===== -/
def newJ (x : Int32) (h : pH) : Option (Nat × pH × Nat) := if x < 0 ∨ 60000000 < x.toNatClampNeg then none else some (6 + h.length, h ++ [.inr (1, x.toNatClampNeg, .inr (.inl (fun _ => 0)))], x.toNatClampNeg)
theorem r_newJ {X : pX} {n cls : Nat} {ini : Bool} {cc : ByteArray} {nL : Nat} {ret : Option FieldType} {pc : Nat} {lv : pL} {st : List Value} {h : pH} {nc ns : Nat} {r : pR} {x : Int32} {q : Nat × pH × Nat} (hd : decode cc pc = .ok (.newarray .long, 2)) (hg : newJ x h = some q) (K : Run X n cls ini cc nL ret (pc + 2) lv (.ref q.1 :: st) q.2.1 (nc + 1) (ns + q.2.2) r) : Run X n cls ini cc nL ret pc lv (.int x :: st) h nc ns r := by
  unfold newJ at hg
  split at hg
  · cases hg
  · rename_i hx
    cases hg
    refine r_make hd rfl rfl rfl (st' := .ref (6 + h.length) :: st) (h' := h ++ [.inr (1, x.toNatClampNeg, .inr (.inl (fun _ => 0)))]) (dc := 1) (ds := x.toNatClampNeg) ?_ K
    unfold pmake pNewa
    dsimp only
    rw [if_neg hx]
    rfl
theorem isO_ne {h : pH} {a c : Nat} (q : isO h a c = true) : ¬ a = 4 := by
  intro e
  subst e
  unfold isO pIs pAt at q
  simp at q
theorem guard_of {c : Prop} [Decidable c] {x : Unit} (h : (if c then some () else none) = some x) : c := by
  by_cases q : c
  · exact q
  · rw [if_neg q] at h; cases h
def rcI (rc : Nat → List Value → pH → Option (Option Value × pH)) (mn : Nat) (as : List Value) (h : pH) : Option (Int32 × pH) := (rc mn as h).bind fun q => match q.1 with
  | some (.int v) => some (v, q.2)
  | _ => none
def rcV (rc : Nat → List Value → pH → Option (Option Value × pH)) (mn : Nat) (as : List Value) (h : pH) : Option pH := (rc mn as h).bind fun q => match q.1 with
  | none => some q.2
  | _ => none
theorem rcI_calls {X : pX} {n : Nat} {rc : Nat → List Value → pH → Option (Option Value × pH)} (hrc : ∀ mn as h q, rc mn as h = some q → Calls X n mn as h (q.1, q.2, 0, 0)) {mn : Nat} {as : List Value} {h : pH} {q : Int32 × pH} (e : rcI rc mn as h = some q) : Calls X n mn as h (some (.int q.1), q.2, 0, 0) := by
  unfold rcI at e
  obtain ⟨x, e1, e2⟩ := Option.bind_eq_some_iff.mp e
  split at e2
  · rename_i v hv
    cases e2
    have := hrc _ _ _ _ e1
    rw [hv] at this
    exact this
  · cases e2
theorem rcV_calls {X : pX} {n : Nat} {rc : Nat → List Value → pH → Option (Option Value × pH)} (hrc : ∀ mn as h q, rc mn as h = some q → Calls X n mn as h (q.1, q.2, 0, 0)) {mn : Nat} {as : List Value} {h q : pH} (e : rcV rc mn as h = some q) : Calls X n mn as h (none, q, 0, 0) := by
  unfold rcV at e
  obtain ⟨x, e1, e2⟩ := Option.bind_eq_some_iff.mp e
  split at e2
  · rename_i hv
    cases e2
    have := hrc _ _ _ _ e1
    rw [hv] at this
    exact this
  · cases e2
theorem pTable_out {dflt lo hi : Int} {offs : Array Int} {x : Int32} {cs : List Int32} (h1 : cs = (List.range (hi - lo + 1).toNat).map (fun k : Nat => Int32.ofInt (lo + (k : Int)))) (h2 : -2147483648 ≤ lo) (h3 : hi ≤ 2147483647) (h : ∀ c ∈ cs, ¬ x = c) : pTable dflt lo hi offs x = some dflt := by
  unfold pTable
  by_cases q : x.toInt < lo ∨ hi < x.toInt
  · rw [if_pos q]
  · exfalso
    refine h (Int32.ofInt x.toInt) ?_ (Int32.ofInt_toInt x).symm
    rw [h1]
    refine List.mem_map.mpr ⟨(x.toInt - lo).toNat, List.mem_range.mpr (by omega), ?_⟩
    congr 1
    omega
theorem pLookup_out {dflt : Int} {ps : Array (Int × Int)} {x : Int32} {cs : List Int32} (h0 : (ps.toList.zip (ps.toList.drop 1)).all (fun (a, next) => a.1 < next.1) = true) (h1 : cs = ps.toList.map (fun p => Int32.ofInt p.1)) (h : ∀ c ∈ cs, ¬ x = c) : pLookup dflt ps x = some dflt := by
  unfold pLookup
  rw [if_pos h0]
  congr 1
  subst h1
  generalize ps.toList = l at h
  induction l with
  | nil => rfl
  | cons p l ih =>
    obtain ⟨a, o⟩ := p
    rw [Op.lookupswitch.offset_cons, if_neg (fun e => h _ (List.mem_cons_self) (by subst e; exact (Int32.ofInt_toInt x).symm))]
    exact ih (fun c hc => h c (List.mem_cons_of_mem _ hc))
theorem r_if_eq_t {X : pX} {n cls : Nat} {ini : Bool} {cc : ByteArray} {nL : Nat} {ret : Option FieldType} {pc : Nat} {lv : pL} {st : List Value} {h : pH} {nc ns : Nat} {r : pR} {off : Int} {t : Nat} {x : Int32} (hd : decode cc pc = .ok (.ifCond .eq off, 3)) (ht : pJump pc off = some t) (hc : x = (0 : Int32)) (K : Run X n cls ini cc nL ret t lv st h nc ns r) : Run X n cls ini cc nL ret pc lv (.int x :: st) h nc ns r := r_ift hd ht (decide_eq_true hc) K
theorem r_if_eq_f {X : pX} {n cls : Nat} {ini : Bool} {cc : ByteArray} {nL : Nat} {ret : Option FieldType} {pc : Nat} {lv : pL} {st : List Value} {h : pH} {nc ns : Nat} {r : pR} {off : Int} {t : Nat} {x : Int32} (hd : decode cc pc = .ok (.ifCond .eq off, 3)) (ht : pJump pc off = some t) (hc : ¬ x = (0 : Int32)) (K : Run X n cls ini cc nL ret (pc + 3) lv st h nc ns r) : Run X n cls ini cc nL ret pc lv (.int x :: st) h nc ns r := r_iff hd ht (decide_eq_false hc) K
theorem r_icmp_eq_t {X : pX} {n cls : Nat} {ini : Bool} {cc : ByteArray} {nL : Nat} {ret : Option FieldType} {pc : Nat} {lv : pL} {st : List Value} {h : pH} {nc ns : Nat} {r : pR} {off : Int} {t : Nat} {x y : Int32} (hd : decode cc pc = .ok (.if_icmp .eq off, 3)) (ht : pJump pc off = some t) (hc : x = y) (K : Run X n cls ini cc nL ret t lv st h nc ns r) : Run X n cls ini cc nL ret pc lv (.int y :: .int x :: st) h nc ns r := r_icmpt hd ht (decide_eq_true hc) K
theorem r_icmp_eq_f {X : pX} {n cls : Nat} {ini : Bool} {cc : ByteArray} {nL : Nat} {ret : Option FieldType} {pc : Nat} {lv : pL} {st : List Value} {h : pH} {nc ns : Nat} {r : pR} {off : Int} {t : Nat} {x y : Int32} (hd : decode cc pc = .ok (.if_icmp .eq off, 3)) (ht : pJump pc off = some t) (hc : ¬ x = y) (K : Run X n cls ini cc nL ret (pc + 3) lv st h nc ns r) : Run X n cls ini cc nL ret pc lv (.int y :: .int x :: st) h nc ns r := r_icmpf hd ht (decide_eq_false hc) K
theorem r_if_ne_t {X : pX} {n cls : Nat} {ini : Bool} {cc : ByteArray} {nL : Nat} {ret : Option FieldType} {pc : Nat} {lv : pL} {st : List Value} {h : pH} {nc ns : Nat} {r : pR} {off : Int} {t : Nat} {x : Int32} (hd : decode cc pc = .ok (.ifCond .ne off, 3)) (ht : pJump pc off = some t) (hc : ¬ x = (0 : Int32)) (K : Run X n cls ini cc nL ret t lv st h nc ns r) : Run X n cls ini cc nL ret pc lv (.int x :: st) h nc ns r := r_ift hd ht (decide_eq_true hc) K
theorem r_if_ne_f {X : pX} {n cls : Nat} {ini : Bool} {cc : ByteArray} {nL : Nat} {ret : Option FieldType} {pc : Nat} {lv : pL} {st : List Value} {h : pH} {nc ns : Nat} {r : pR} {off : Int} {t : Nat} {x : Int32} (hd : decode cc pc = .ok (.ifCond .ne off, 3)) (ht : pJump pc off = some t) (hc : x = (0 : Int32)) (K : Run X n cls ini cc nL ret (pc + 3) lv st h nc ns r) : Run X n cls ini cc nL ret pc lv (.int x :: st) h nc ns r := r_iff hd ht (decide_eq_false (fun z => z hc)) K
theorem r_icmp_ne_t {X : pX} {n cls : Nat} {ini : Bool} {cc : ByteArray} {nL : Nat} {ret : Option FieldType} {pc : Nat} {lv : pL} {st : List Value} {h : pH} {nc ns : Nat} {r : pR} {off : Int} {t : Nat} {x y : Int32} (hd : decode cc pc = .ok (.if_icmp .ne off, 3)) (ht : pJump pc off = some t) (hc : ¬ x = y) (K : Run X n cls ini cc nL ret t lv st h nc ns r) : Run X n cls ini cc nL ret pc lv (.int y :: .int x :: st) h nc ns r := r_icmpt hd ht (decide_eq_true hc) K
theorem r_icmp_ne_f {X : pX} {n cls : Nat} {ini : Bool} {cc : ByteArray} {nL : Nat} {ret : Option FieldType} {pc : Nat} {lv : pL} {st : List Value} {h : pH} {nc ns : Nat} {r : pR} {off : Int} {t : Nat} {x y : Int32} (hd : decode cc pc = .ok (.if_icmp .ne off, 3)) (ht : pJump pc off = some t) (hc : x = y) (K : Run X n cls ini cc nL ret (pc + 3) lv st h nc ns r) : Run X n cls ini cc nL ret pc lv (.int y :: .int x :: st) h nc ns r := r_icmpf hd ht (decide_eq_false (fun z => z hc)) K
theorem r_if_lt_t {X : pX} {n cls : Nat} {ini : Bool} {cc : ByteArray} {nL : Nat} {ret : Option FieldType} {pc : Nat} {lv : pL} {st : List Value} {h : pH} {nc ns : Nat} {r : pR} {off : Int} {t : Nat} {x : Int32} (hd : decode cc pc = .ok (.ifCond .lt off, 3)) (ht : pJump pc off = some t) (hc : x < (0 : Int32)) (K : Run X n cls ini cc nL ret t lv st h nc ns r) : Run X n cls ini cc nL ret pc lv (.int x :: st) h nc ns r := r_ift hd ht (decide_eq_true hc) K
theorem r_if_lt_f {X : pX} {n cls : Nat} {ini : Bool} {cc : ByteArray} {nL : Nat} {ret : Option FieldType} {pc : Nat} {lv : pL} {st : List Value} {h : pH} {nc ns : Nat} {r : pR} {off : Int} {t : Nat} {x : Int32} (hd : decode cc pc = .ok (.ifCond .lt off, 3)) (ht : pJump pc off = some t) (hc : ¬ x < (0 : Int32)) (K : Run X n cls ini cc nL ret (pc + 3) lv st h nc ns r) : Run X n cls ini cc nL ret pc lv (.int x :: st) h nc ns r := r_iff hd ht (decide_eq_false hc) K
theorem r_icmp_lt_t {X : pX} {n cls : Nat} {ini : Bool} {cc : ByteArray} {nL : Nat} {ret : Option FieldType} {pc : Nat} {lv : pL} {st : List Value} {h : pH} {nc ns : Nat} {r : pR} {off : Int} {t : Nat} {x y : Int32} (hd : decode cc pc = .ok (.if_icmp .lt off, 3)) (ht : pJump pc off = some t) (hc : x < y) (K : Run X n cls ini cc nL ret t lv st h nc ns r) : Run X n cls ini cc nL ret pc lv (.int y :: .int x :: st) h nc ns r := r_icmpt hd ht (decide_eq_true hc) K
theorem r_icmp_lt_f {X : pX} {n cls : Nat} {ini : Bool} {cc : ByteArray} {nL : Nat} {ret : Option FieldType} {pc : Nat} {lv : pL} {st : List Value} {h : pH} {nc ns : Nat} {r : pR} {off : Int} {t : Nat} {x y : Int32} (hd : decode cc pc = .ok (.if_icmp .lt off, 3)) (ht : pJump pc off = some t) (hc : ¬ x < y) (K : Run X n cls ini cc nL ret (pc + 3) lv st h nc ns r) : Run X n cls ini cc nL ret pc lv (.int y :: .int x :: st) h nc ns r := r_icmpf hd ht (decide_eq_false hc) K
theorem r_if_ge_t {X : pX} {n cls : Nat} {ini : Bool} {cc : ByteArray} {nL : Nat} {ret : Option FieldType} {pc : Nat} {lv : pL} {st : List Value} {h : pH} {nc ns : Nat} {r : pR} {off : Int} {t : Nat} {x : Int32} (hd : decode cc pc = .ok (.ifCond .ge off, 3)) (ht : pJump pc off = some t) (hc : (0 : Int32) ≤ x) (K : Run X n cls ini cc nL ret t lv st h nc ns r) : Run X n cls ini cc nL ret pc lv (.int x :: st) h nc ns r := r_ift hd ht (decide_eq_true hc) K
theorem r_if_ge_f {X : pX} {n cls : Nat} {ini : Bool} {cc : ByteArray} {nL : Nat} {ret : Option FieldType} {pc : Nat} {lv : pL} {st : List Value} {h : pH} {nc ns : Nat} {r : pR} {off : Int} {t : Nat} {x : Int32} (hd : decode cc pc = .ok (.ifCond .ge off, 3)) (ht : pJump pc off = some t) (hc : ¬ (0 : Int32) ≤ x) (K : Run X n cls ini cc nL ret (pc + 3) lv st h nc ns r) : Run X n cls ini cc nL ret pc lv (.int x :: st) h nc ns r := r_iff hd ht (decide_eq_false hc) K
theorem r_icmp_ge_t {X : pX} {n cls : Nat} {ini : Bool} {cc : ByteArray} {nL : Nat} {ret : Option FieldType} {pc : Nat} {lv : pL} {st : List Value} {h : pH} {nc ns : Nat} {r : pR} {off : Int} {t : Nat} {x y : Int32} (hd : decode cc pc = .ok (.if_icmp .ge off, 3)) (ht : pJump pc off = some t) (hc : y ≤ x) (K : Run X n cls ini cc nL ret t lv st h nc ns r) : Run X n cls ini cc nL ret pc lv (.int y :: .int x :: st) h nc ns r := r_icmpt hd ht (decide_eq_true hc) K
theorem r_icmp_ge_f {X : pX} {n cls : Nat} {ini : Bool} {cc : ByteArray} {nL : Nat} {ret : Option FieldType} {pc : Nat} {lv : pL} {st : List Value} {h : pH} {nc ns : Nat} {r : pR} {off : Int} {t : Nat} {x y : Int32} (hd : decode cc pc = .ok (.if_icmp .ge off, 3)) (ht : pJump pc off = some t) (hc : ¬ y ≤ x) (K : Run X n cls ini cc nL ret (pc + 3) lv st h nc ns r) : Run X n cls ini cc nL ret pc lv (.int y :: .int x :: st) h nc ns r := r_icmpf hd ht (decide_eq_false hc) K
theorem r_if_gt_t {X : pX} {n cls : Nat} {ini : Bool} {cc : ByteArray} {nL : Nat} {ret : Option FieldType} {pc : Nat} {lv : pL} {st : List Value} {h : pH} {nc ns : Nat} {r : pR} {off : Int} {t : Nat} {x : Int32} (hd : decode cc pc = .ok (.ifCond .gt off, 3)) (ht : pJump pc off = some t) (hc : (0 : Int32) < x) (K : Run X n cls ini cc nL ret t lv st h nc ns r) : Run X n cls ini cc nL ret pc lv (.int x :: st) h nc ns r := r_ift hd ht (decide_eq_true hc) K
theorem r_if_gt_f {X : pX} {n cls : Nat} {ini : Bool} {cc : ByteArray} {nL : Nat} {ret : Option FieldType} {pc : Nat} {lv : pL} {st : List Value} {h : pH} {nc ns : Nat} {r : pR} {off : Int} {t : Nat} {x : Int32} (hd : decode cc pc = .ok (.ifCond .gt off, 3)) (ht : pJump pc off = some t) (hc : ¬ (0 : Int32) < x) (K : Run X n cls ini cc nL ret (pc + 3) lv st h nc ns r) : Run X n cls ini cc nL ret pc lv (.int x :: st) h nc ns r := r_iff hd ht (decide_eq_false hc) K
theorem r_icmp_gt_t {X : pX} {n cls : Nat} {ini : Bool} {cc : ByteArray} {nL : Nat} {ret : Option FieldType} {pc : Nat} {lv : pL} {st : List Value} {h : pH} {nc ns : Nat} {r : pR} {off : Int} {t : Nat} {x y : Int32} (hd : decode cc pc = .ok (.if_icmp .gt off, 3)) (ht : pJump pc off = some t) (hc : y < x) (K : Run X n cls ini cc nL ret t lv st h nc ns r) : Run X n cls ini cc nL ret pc lv (.int y :: .int x :: st) h nc ns r := r_icmpt hd ht (decide_eq_true hc) K
theorem r_icmp_gt_f {X : pX} {n cls : Nat} {ini : Bool} {cc : ByteArray} {nL : Nat} {ret : Option FieldType} {pc : Nat} {lv : pL} {st : List Value} {h : pH} {nc ns : Nat} {r : pR} {off : Int} {t : Nat} {x y : Int32} (hd : decode cc pc = .ok (.if_icmp .gt off, 3)) (ht : pJump pc off = some t) (hc : ¬ y < x) (K : Run X n cls ini cc nL ret (pc + 3) lv st h nc ns r) : Run X n cls ini cc nL ret pc lv (.int y :: .int x :: st) h nc ns r := r_icmpf hd ht (decide_eq_false hc) K
theorem r_if_le_t {X : pX} {n cls : Nat} {ini : Bool} {cc : ByteArray} {nL : Nat} {ret : Option FieldType} {pc : Nat} {lv : pL} {st : List Value} {h : pH} {nc ns : Nat} {r : pR} {off : Int} {t : Nat} {x : Int32} (hd : decode cc pc = .ok (.ifCond .le off, 3)) (ht : pJump pc off = some t) (hc : x ≤ (0 : Int32)) (K : Run X n cls ini cc nL ret t lv st h nc ns r) : Run X n cls ini cc nL ret pc lv (.int x :: st) h nc ns r := r_ift hd ht (decide_eq_true hc) K
theorem r_if_le_f {X : pX} {n cls : Nat} {ini : Bool} {cc : ByteArray} {nL : Nat} {ret : Option FieldType} {pc : Nat} {lv : pL} {st : List Value} {h : pH} {nc ns : Nat} {r : pR} {off : Int} {t : Nat} {x : Int32} (hd : decode cc pc = .ok (.ifCond .le off, 3)) (ht : pJump pc off = some t) (hc : ¬ x ≤ (0 : Int32)) (K : Run X n cls ini cc nL ret (pc + 3) lv st h nc ns r) : Run X n cls ini cc nL ret pc lv (.int x :: st) h nc ns r := r_iff hd ht (decide_eq_false hc) K
theorem r_icmp_le_t {X : pX} {n cls : Nat} {ini : Bool} {cc : ByteArray} {nL : Nat} {ret : Option FieldType} {pc : Nat} {lv : pL} {st : List Value} {h : pH} {nc ns : Nat} {r : pR} {off : Int} {t : Nat} {x y : Int32} (hd : decode cc pc = .ok (.if_icmp .le off, 3)) (ht : pJump pc off = some t) (hc : x ≤ y) (K : Run X n cls ini cc nL ret t lv st h nc ns r) : Run X n cls ini cc nL ret pc lv (.int y :: .int x :: st) h nc ns r := r_icmpt hd ht (decide_eq_true hc) K
theorem r_icmp_le_f {X : pX} {n cls : Nat} {ini : Bool} {cc : ByteArray} {nL : Nat} {ret : Option FieldType} {pc : Nat} {lv : pL} {st : List Value} {h : pH} {nc ns : Nat} {r : pR} {off : Int} {t : Nat} {x y : Int32} (hd : decode cc pc = .ok (.if_icmp .le off, 3)) (ht : pJump pc off = some t) (hc : ¬ x ≤ y) (K : Run X n cls ini cc nL ret (pc + 3) lv st h nc ns r) : Run X n cls ini cc nL ret pc lv (.int y :: .int x :: st) h nc ns r := r_icmpf hd ht (decide_eq_false hc) K
theorem kI_m8 : Int32.ofInt (-8) = (-8) := by decide
theorem kI_m1 : Int32.ofInt (-1) = (-1) := by decide
theorem kI_0 : Int32.ofInt 0 = 0 := by decide
theorem kI_1 : Int32.ofInt 1 = 1 := by decide
theorem kI_2 : Int32.ofInt 2 = 2 := by decide
theorem kI_3 : Int32.ofInt 3 = 3 := by decide
theorem kI_4 : Int32.ofInt 4 = 4 := by decide
theorem kI_5 : Int32.ofInt 5 = 5 := by decide
theorem kB_m6 : (Int8.ofInt (-6)).toInt32 = (-6) := by decide
theorem kB_m5 : (Int8.ofInt (-5)).toInt32 = (-5) := by decide
theorem kB_m4 : (Int8.ofInt (-4)).toInt32 = (-4) := by decide
theorem kB_m3 : (Int8.ofInt (-3)).toInt32 = (-3) := by decide
theorem kB_m2 : (Int8.ofInt (-2)).toInt32 = (-2) := by decide
theorem kB_6 : (Int8.ofInt 6).toInt32 = 6 := by decide
theorem kB_7 : (Int8.ofInt 7).toInt32 = 7 := by decide
theorem kB_8 : (Int8.ofInt 8).toInt32 = 8 := by decide
theorem kB_9 : (Int8.ofInt 9).toInt32 = 9 := by decide
theorem kB_10 : (Int8.ofInt 10).toInt32 = 10 := by decide
theorem kB_11 : (Int8.ofInt 11).toInt32 = 11 := by decide
theorem kB_12 : (Int8.ofInt 12).toInt32 = 12 := by decide
theorem kB_13 : (Int8.ofInt 13).toInt32 = 13 := by decide
theorem kB_14 : (Int8.ofInt 14).toInt32 = 14 := by decide
theorem kB_15 : (Int8.ofInt 15).toInt32 = 15 := by decide
theorem kB_16 : (Int8.ofInt 16).toInt32 = 16 := by decide
theorem kB_17 : (Int8.ofInt 17).toInt32 = 17 := by decide
theorem kB_18 : (Int8.ofInt 18).toInt32 = 18 := by decide
theorem kB_19 : (Int8.ofInt 19).toInt32 = 19 := by decide
theorem kB_20 : (Int8.ofInt 20).toInt32 = 20 := by decide
theorem kB_21 : (Int8.ofInt 21).toInt32 = 21 := by decide
theorem kB_22 : (Int8.ofInt 22).toInt32 = 22 := by decide
theorem kB_23 : (Int8.ofInt 23).toInt32 = 23 := by decide
theorem kB_24 : (Int8.ofInt 24).toInt32 = 24 := by decide
theorem kB_25 : (Int8.ofInt 25).toInt32 = 25 := by decide
theorem kB_26 : (Int8.ofInt 26).toInt32 = 26 := by decide
theorem kB_27 : (Int8.ofInt 27).toInt32 = 27 := by decide
theorem kB_28 : (Int8.ofInt 28).toInt32 = 28 := by decide
theorem kB_29 : (Int8.ofInt 29).toInt32 = 29 := by decide
theorem kB_30 : (Int8.ofInt 30).toInt32 = 30 := by decide
theorem kB_31 : (Int8.ofInt 31).toInt32 = 31 := by decide
theorem kB_32 : (Int8.ofInt 32).toInt32 = 32 := by decide
theorem kB_33 : (Int8.ofInt 33).toInt32 = 33 := by decide
theorem kB_34 : (Int8.ofInt 34).toInt32 = 34 := by decide
theorem kB_35 : (Int8.ofInt 35).toInt32 = 35 := by decide
theorem kB_36 : (Int8.ofInt 36).toInt32 = 36 := by decide
theorem kB_37 : (Int8.ofInt 37).toInt32 = 37 := by decide
theorem kB_38 : (Int8.ofInt 38).toInt32 = 38 := by decide
theorem kB_39 : (Int8.ofInt 39).toInt32 = 39 := by decide
theorem kB_40 : (Int8.ofInt 40).toInt32 = 40 := by decide
theorem kB_41 : (Int8.ofInt 41).toInt32 = 41 := by decide
theorem kB_42 : (Int8.ofInt 42).toInt32 = 42 := by decide
theorem kB_43 : (Int8.ofInt 43).toInt32 = 43 := by decide
theorem kB_44 : (Int8.ofInt 44).toInt32 = 44 := by decide
theorem kB_45 : (Int8.ofInt 45).toInt32 = 45 := by decide
theorem kB_46 : (Int8.ofInt 46).toInt32 = 46 := by decide
theorem kB_47 : (Int8.ofInt 47).toInt32 = 47 := by decide
theorem kB_48 : (Int8.ofInt 48).toInt32 = 48 := by decide
theorem kB_50 : (Int8.ofInt 50).toInt32 = 50 := by decide
theorem kB_51 : (Int8.ofInt 51).toInt32 = 51 := by decide
theorem kB_52 : (Int8.ofInt 52).toInt32 = 52 := by decide
theorem kB_53 : (Int8.ofInt 53).toInt32 = 53 := by decide
theorem kB_54 : (Int8.ofInt 54).toInt32 = 54 := by decide
theorem kB_55 : (Int8.ofInt 55).toInt32 = 55 := by decide
theorem kB_56 : (Int8.ofInt 56).toInt32 = 56 := by decide
theorem kB_57 : (Int8.ofInt 57).toInt32 = 57 := by decide
theorem kB_58 : (Int8.ofInt 58).toInt32 = 58 := by decide
theorem kB_59 : (Int8.ofInt 59).toInt32 = 59 := by decide
theorem kB_60 : (Int8.ofInt 60).toInt32 = 60 := by decide
theorem kB_61 : (Int8.ofInt 61).toInt32 = 61 := by decide
theorem kB_65 : (Int8.ofInt 65).toInt32 = 65 := by decide
theorem kB_90 : (Int8.ofInt 90).toInt32 = 90 := by decide
theorem kB_91 : (Int8.ofInt 91).toInt32 = 91 := by decide
theorem kB_93 : (Int8.ofInt 93).toInt32 = 93 := by decide
theorem kB_97 : (Int8.ofInt 97).toInt32 = 97 := by decide
theorem kB_98 : (Int8.ofInt 98).toInt32 = 98 := by decide
theorem kB_99 : (Int8.ofInt 99).toInt32 = 99 := by decide
theorem kB_100 : (Int8.ofInt 100).toInt32 = 100 := by decide
theorem kB_101 : (Int8.ofInt 101).toInt32 = 101 := by decide
theorem kB_102 : (Int8.ofInt 102).toInt32 = 102 := by decide
theorem kB_104 : (Int8.ofInt 104).toInt32 = 104 := by decide
theorem kB_105 : (Int8.ofInt 105).toInt32 = 105 := by decide
theorem kB_108 : (Int8.ofInt 108).toInt32 = 108 := by decide
theorem kB_110 : (Int8.ofInt 110).toInt32 = 110 := by decide
theorem kB_111 : (Int8.ofInt 111).toInt32 = 111 := by decide
theorem kB_112 : (Int8.ofInt 112).toInt32 = 112 := by decide
theorem kB_114 : (Int8.ofInt 114).toInt32 = 114 := by decide
theorem kB_115 : (Int8.ofInt 115).toInt32 = 115 := by decide
theorem kB_116 : (Int8.ofInt 116).toInt32 = 116 := by decide
theorem kB_117 : (Int8.ofInt 117).toInt32 = 117 := by decide
theorem kB_118 : (Int8.ofInt 118).toInt32 = 118 := by decide
theorem kB_119 : (Int8.ofInt 119).toInt32 = 119 := by decide
theorem kB_121 : (Int8.ofInt 121).toInt32 = 121 := by decide
theorem kB_122 : (Int8.ofInt 122).toInt32 = 122 := by decide
theorem kB_123 : (Int8.ofInt 123).toInt32 = 123 := by decide
theorem kB_124 : (Int8.ofInt 124).toInt32 = 124 := by decide
theorem kB_125 : (Int8.ofInt 125).toInt32 = 125 := by decide
theorem kS_m10000 : (Int16.ofInt (-10000)).toInt32 = (-10000) := by decide
theorem kS_128 : (Int16.ofInt 128).toInt32 = 128 := by decide
theorem kS_129 : (Int16.ofInt 129).toInt32 = 129 := by decide
theorem kS_130 : (Int16.ofInt 130).toInt32 = 130 := by decide
theorem kS_131 : (Int16.ofInt 131).toInt32 = 131 := by decide
theorem kS_132 : (Int16.ofInt 132).toInt32 = 132 := by decide
theorem kS_255 : (Int16.ofInt 255).toInt32 = 255 := by decide
theorem kS_256 : (Int16.ofInt 256).toInt32 = 256 := by decide
theorem kS_289 : (Int16.ofInt 289).toInt32 = 289 := by decide
theorem kS_294 : (Int16.ofInt 294).toInt32 = 294 := by decide
theorem kS_297 : (Int16.ofInt 297).toInt32 = 297 := by decide
theorem kS_300 : (Int16.ofInt 300).toInt32 = 300 := by decide
theorem kS_316 : (Int16.ofInt 316).toInt32 = 316 := by decide
theorem kS_317 : (Int16.ofInt 317).toInt32 = 317 := by decide
theorem kS_380 : (Int16.ofInt 380).toInt32 = 380 := by decide
theorem kS_400 : (Int16.ofInt 400).toInt32 = 400 := by decide
theorem kS_500 : (Int16.ofInt 500).toInt32 = 500 := by decide
theorem kS_999 : (Int16.ofInt 999).toInt32 = 999 := by decide
theorem kS_1000 : (Int16.ofInt 1000).toInt32 = 1000 := by decide
theorem kS_2980 : (Int16.ofInt 2980).toInt32 = 2980 := by decide
theorem kS_3000 : (Int16.ofInt 3000).toInt32 = 3000 := by decide
theorem kS_3099 : (Int16.ofInt 3099).toInt32 = 3099 := by decide
theorem kS_3100 : (Int16.ofInt 3100).toInt32 = 3100 := by decide
theorem kS_10000 : (Int16.ofInt 10000).toInt32 = 10000 := by decide
theorem kS_10004 : (Int16.ofInt 10004).toInt32 = 10004 := by decide
theorem kS_10005 : (Int16.ofInt 10005).toInt32 = 10005 := by decide
theorem kS_10006 : (Int16.ofInt 10006).toInt32 = 10006 := by decide
theorem kS_20000 : (Int16.ofInt 20000).toInt32 = 20000 := by decide
theorem F0_7 : pFind pFl 0 7 = some (0, 0, 0, 2066) := by decide +kernel
theorem F0_13 : pFind pFl 0 13 = some (0, 1, 0, 2067) := by decide +kernel
theorem F0_38 : pFind pFl 0 38 = some (1, 7, 1, 1115) := by decide +kernel
theorem F0_42 : pFind pFl 0 42 = some (1, 0, 1, 1094) := by decide +kernel
theorem F0_50 : pFind pFl 0 50 = some (1, 1, 1, 1096) := by decide +kernel
theorem F0_53 : pFind pFl 0 53 = some (1, 2, 1, 1098) := by decide +kernel
theorem F0_56 : pFind pFl 0 56 = some (1, 3, 1, 1100) := by decide +kernel
theorem F0_66 : pFind pFl 0 66 = some (1, 4, 1, 1104) := by decide +kernel
theorem F0_69 : pFind pFl 0 69 = some (1, 5, 1, 1108) := by decide +kernel
theorem F0_72 : pFind pFl 0 72 = some (6, 4, 1, 1150) := by decide +kernel
theorem F0_83 : pFind pFl 0 83 = some (6, 2, 1, 1144) := by decide +kernel
theorem F0_84 : pFind pFl 0 84 = some (6, 1, 1, 1142) := by decide +kernel
theorem F0_85 : pFind pFl 0 85 = some (6, 3, 1, 1147) := by decide +kernel
theorem F0_102 : pFind pFl 0 102 = some (6, 7, 1, 1156) := by decide +kernel
theorem F1_9 : pFind pFl 1 9 = some (1, 0, 0, 1093) := by decide +kernel
theorem F1_13 : pFind pFl 1 13 = some (1, 1, 0, 1095) := by decide +kernel
theorem F1_16 : pFind pFl 1 16 = some (1, 2, 0, 1097) := by decide +kernel
theorem F1_19 : pFind pFl 1 19 = some (1, 3, 0, 1099) := by decide +kernel
theorem F1_22 : pFind pFl 1 22 = some (1, 4, 0, 1102) := by decide +kernel
theorem F1_25 : pFind pFl 1 25 = some (1, 5, 0, 1106) := by decide +kernel
theorem F1_28 : pFind pFl 1 28 = some (1, 6, 0, 1110) := by decide +kernel
theorem F1_31 : pFind pFl 1 31 = some (1, 7, 0, 1113) := by decide +kernel
theorem F2_9 : pFind pFl 2 9 = some (2, 0, 0, 1209) := by decide +kernel
theorem F2_13 : pFind pFl 2 13 = some (2, 1, 0, 1212) := by decide +kernel
theorem F2_16 : pFind pFl 2 16 = some (2, 2, 0, 1216) := by decide +kernel
theorem F2_19 : pFind pFl 2 19 = some (2, 3, 0, 1219) := by decide +kernel
theorem F2_22 : pFind pFl 2 22 = some (2, 4, 0, 1222) := by decide +kernel
theorem F2_25 : pFind pFl 2 25 = some (2, 5, 0, 1224) := by decide +kernel
theorem F2_28 : pFind pFl 2 28 = some (2, 6, 0, 1227) := by decide +kernel
theorem F2_31 : pFind pFl 2 31 = some (2, 7, 0, 1229) := by decide +kernel
theorem F2_35 : pFind pFl 2 35 = some (2, 8, 0, 1232) := by decide +kernel
theorem F2_38 : pFind pFl 2 38 = some (2, 9, 0, 1234) := by decide +kernel
theorem F3_13 : pFind pFl 3 13 = some (3, 0, 0, 2185) := by decide +kernel
theorem F3_17 : pFind pFl 3 17 = some (3, 1, 0, 2186) := by decide +kernel
theorem F3_20 : pFind pFl 3 20 = some (3, 2, 0, 2187) := by decide +kernel
theorem F3_24 : pFind pFl 3 24 = some (3, 3, 0, 2188) := by decide +kernel
theorem F4_9 : pFind pFl 4 9 = some (4, 0, 0, 2162) := by decide +kernel
theorem F4_13 : pFind pFl 4 13 = some (4, 1, 0, 2163) := by decide +kernel
theorem F4_17 : pFind pFl 4 17 = some (4, 2, 0, 2164) := by decide +kernel
theorem F5_7 : pFind pFl 5 7 = some (5, 0, 0, 2199) := by decide +kernel
theorem F5_13 : pFind pFl 5 13 = some (5, 1, 0, 2200) := by decide +kernel
theorem F5_17 : pFind pFl 5 17 = some (5, 2, 0, 2201) := by decide +kernel
theorem F5_21 : pFind pFl 5 21 = some (5, 3, 0, 2202) := by decide +kernel
theorem F5_28 : pFind pFl 5 28 = some (5, 4, 0, 2203) := by decide +kernel
theorem F5_32 : pFind pFl 5 32 = some (5, 5, 0, 2204) := by decide +kernel
theorem F5_36 : pFind pFl 5 36 = some (5, 7, 0, 2206) := by decide +kernel
theorem F5_40 : pFind pFl 5 40 = some (5, 8, 0, 2207) := by decide +kernel
theorem F5_43 : pFind pFl 5 43 = some (5, 9, 0, 2208) := by decide +kernel
theorem F5_46 : pFind pFl 5 46 = some (5, 10, 0, 2209) := by decide +kernel
theorem F5_49 : pFind pFl 5 49 = some (5, 18, 0, 2221) := by decide +kernel
theorem F5_52 : pFind pFl 5 52 = some (5, 13, 0, 2212) := by decide +kernel
theorem F5_56 : pFind pFl 5 56 = some (5, 14, 0, 2213) := by decide +kernel
theorem F5_59 : pFind pFl 5 59 = some (5, 15, 0, 2215) := by decide +kernel
theorem F5_62 : pFind pFl 5 62 = some (5, 16, 0, 2217) := by decide +kernel
theorem F5_65 : pFind pFl 5 65 = some (5, 17, 0, 2219) := by decide +kernel
theorem F5_68 : pFind pFl 5 68 = some (5, 19, 0, 2222) := by decide +kernel
theorem F5_71 : pFind pFl 5 71 = some (5, 11, 0, 2210) := by decide +kernel
theorem F5_74 : pFind pFl 5 74 = some (5, 6, 0, 2205) := by decide +kernel
theorem F5_77 : pFind pFl 5 77 = some (5, 12, 0, 2211) := by decide +kernel
theorem F5_104 : pFind pFl 5 104 = some (1, 6, 1, 1111) := by decide +kernel
theorem F5_152 : pFind pFl 5 152 = some (2, 0, 1, 1211) := by decide +kernel
theorem F5_155 : pFind pFl 5 155 = some (2, 1, 1, 1214) := by decide +kernel
theorem F5_174 : pFind pFl 5 174 = some (2, 3, 1, 1220) := by decide +kernel
theorem F5_180 : pFind pFl 5 180 = some (2, 2, 1, 1217) := by decide +kernel
theorem F5_268 : pFind pFl 5 268 = some (2, 5, 1, 1226) := by decide +kernel
theorem F5_271 : pFind pFl 5 271 = some (6, 9, 1, 1162) := by decide +kernel
theorem F5_289 : pFind pFl 5 289 = some (6, 10, 1, 1165) := by decide +kernel
theorem F5_294 : pFind pFl 5 294 = some (6, 8, 1, 1159) := by decide +kernel
theorem F5_307 : pFind pFl 5 307 = some (2, 6, 1, 1228) := by decide +kernel
theorem F6_7 : pFind pFl 6 7 = some (6, 0, 0, 1140) := by decide +kernel
theorem F6_13 : pFind pFl 6 13 = some (6, 1, 0, 1141) := by decide +kernel
theorem F6_17 : pFind pFl 6 17 = some (6, 2, 0, 1143) := by decide +kernel
theorem F6_20 : pFind pFl 6 20 = some (6, 3, 0, 1145) := by decide +kernel
theorem F6_23 : pFind pFl 6 23 = some (6, 4, 0, 1148) := by decide +kernel
theorem F6_27 : pFind pFl 6 27 = some (6, 5, 0, 1151) := by decide +kernel
theorem F6_30 : pFind pFl 6 30 = some (6, 6, 0, 1153) := by decide +kernel
theorem F6_33 : pFind pFl 6 33 = some (6, 7, 0, 1154) := by decide +kernel
theorem F6_36 : pFind pFl 6 36 = some (6, 8, 0, 1157) := by decide +kernel
theorem F6_39 : pFind pFl 6 39 = some (6, 9, 0, 1160) := by decide +kernel
theorem F6_42 : pFind pFl 6 42 = some (6, 10, 0, 1163) := by decide +kernel
theorem F6_45 : pFind pFl 6 45 = some (6, 12, 0, 1168) := by decide +kernel
theorem F6_48 : pFind pFl 6 48 = some (6, 13, 0, 1169) := by decide +kernel
theorem F6_51 : pFind pFl 6 51 = some (6, 11, 0, 1166) := by decide +kernel
theorem F6_55 : pFind pFl 6 55 = some (6, 14, 0, 1170) := by decide +kernel
theorem F6_67 : pFind pFl 6 67 = some (1, 7, 1, 1116) := by decide +kernel
theorem F6_68 : pFind pFl 6 68 = some (1, 4, 1, 1105) := by decide +kernel
theorem F6_71 : pFind pFl 6 71 = some (1, 5, 1, 1109) := by decide +kernel
theorem F6_78 : pFind pFl 6 78 = some (1, 3, 1, 1101) := by decide +kernel
theorem F6_84 : pFind pFl 6 84 = some (1, 6, 1, 1112) := by decide +kernel
theorem F7_7 : pFind pFl 7 7 = some (7, 0, 0, 2023) := by decide +kernel
theorem F7_13 : pFind pFl 7 13 = some (7, 1, 0, 2024) := by decide +kernel
theorem F7_17 : pFind pFl 7 17 = some (7, 2, 0, 2025) := by decide +kernel
theorem F7_21 : pFind pFl 7 21 = some (7, 3, 0, 2026) := by decide +kernel
theorem F7_25 : pFind pFl 7 25 = some (7, 4, 0, 2027) := by decide +kernel
theorem F7_29 : pFind pFl 7 29 = some (7, 5, 0, 2028) := by decide +kernel
theorem F7_32 : pFind pFl 7 32 = some (7, 6, 0, 2029) := by decide +kernel
theorem F7_44 : pFind pFl 7 44 = some (10, 2, 1, 1052) := by decide +kernel
theorem F7_47 : pFind pFl 7 47 = some (7, 8, 0, 2031) := by decide +kernel
theorem F7_57 : pFind pFl 7 57 = some (7, 9, 0, 2032) := by decide +kernel
theorem F7_63 : pFind pFl 7 63 = some (6, 11, 1, 1167) := by decide +kernel
theorem F7_78 : pFind pFl 7 78 = some (7, 11, 0, 2034) := by decide +kernel
theorem F7_81 : pFind pFl 7 81 = some (10, 0, 1, 1048) := by decide +kernel
theorem F7_84 : pFind pFl 7 84 = some (7, 10, 0, 2033) := by decide +kernel
theorem F7_87 : pFind pFl 7 87 = some (7, 7, 0, 2030) := by decide +kernel
theorem F7_97 : pFind pFl 7 97 = some (10, 3, 1, 1054) := by decide +kernel
theorem F7_101 : pFind pFl 7 101 = some (10, 1, 1, 1050) := by decide +kernel
theorem F7_116 : pFind pFl 7 116 = some (2, 7, 1, 1231) := by decide +kernel
theorem F7_123 : pFind pFl 7 123 = some (2, 8, 1, 1233) := by decide +kernel
theorem F7_174 : pFind pFl 7 174 = some (2, 3, 1, 1221) := by decide +kernel
theorem F7_177 : pFind pFl 7 177 = some (2, 9, 1, 1235) := by decide +kernel
theorem F7_180 : pFind pFl 7 180 = some (2, 1, 1, 1215) := by decide +kernel
theorem F8_9 : pFind pFl 8 9 = some (8, 0, 0, 2087) := by decide +kernel
theorem F8_13 : pFind pFl 8 13 = some (8, 1, 0, 2088) := by decide +kernel
theorem F8_16 : pFind pFl 8 16 = some (8, 4, 0, 2094) := by decide +kernel
theorem F8_21 : pFind pFl 8 21 = some (8, 6, 0, 2097) := by decide +kernel
theorem F8_24 : pFind pFl 8 24 = some (8, 7, 0, 2098) := by decide +kernel
theorem F8_27 : pFind pFl 8 27 = some (8, 8, 0, 2099) := by decide +kernel
theorem F8_31 : pFind pFl 8 31 = some (8, 9, 0, 2100) := by decide +kernel
theorem F8_34 : pFind pFl 8 34 = some (8, 10, 0, 2101) := by decide +kernel
theorem F8_37 : pFind pFl 8 37 = some (8, 2, 0, 2090) := by decide +kernel
theorem F8_41 : pFind pFl 8 41 = some (8, 3, 0, 2092) := by decide +kernel
theorem F8_44 : pFind pFl 8 44 = some (8, 11, 0, 2102) := by decide +kernel
theorem F8_47 : pFind pFl 8 47 = some (8, 5, 0, 2095) := by decide +kernel
theorem F9_7 : pFind pFl 9 7 = some (9, 0, 0, 2128) := by decide +kernel
theorem F9_13 : pFind pFl 9 13 = some (9, 1, 0, 2129) := by decide +kernel
theorem F9_17 : pFind pFl 9 17 = some (9, 2, 0, 2130) := by decide +kernel
theorem F9_24 : pFind pFl 9 24 = some (9, 3, 0, 2131) := by decide +kernel
theorem F9_30 : pFind pFl 9 30 = some (9, 4, 0, 2132) := by decide +kernel
theorem F9_36 : pFind pFl 9 36 = some (1, 7, 1, 1114) := by decide +kernel
theorem F9_40 : pFind pFl 9 40 = some (1, 4, 1, 1103) := by decide +kernel
theorem F9_43 : pFind pFl 9 43 = some (1, 5, 1, 1107) := by decide +kernel
theorem F9_46 : pFind pFl 9 46 = some (6, 4, 1, 1149) := by decide +kernel
theorem F9_56 : pFind pFl 9 56 = some (6, 8, 1, 1158) := by decide +kernel
theorem F9_63 : pFind pFl 9 63 = some (2, 5, 1, 1225) := by decide +kernel
theorem F9_66 : pFind pFl 9 66 = some (8, 2, 1, 2091) := by decide +kernel
theorem F9_67 : pFind pFl 9 67 = some (2, 0, 1, 1210) := by decide +kernel
theorem F9_74 : pFind pFl 9 74 = some (2, 4, 1, 1223) := by decide +kernel
theorem F9_77 : pFind pFl 9 77 = some (6, 9, 1, 1161) := by decide +kernel
theorem F9_80 : pFind pFl 9 80 = some (8, 3, 1, 2093) := by decide +kernel
theorem F9_83 : pFind pFl 9 83 = some (6, 10, 1, 1164) := by decide +kernel
theorem F9_86 : pFind pFl 9 86 = some (9, 6, 0, 2134) := by decide +kernel
theorem F9_89 : pFind pFl 9 89 = some (9, 7, 0, 2135) := by decide +kernel
theorem F9_92 : pFind pFl 9 92 = some (6, 3, 1, 1146) := by decide +kernel
theorem F9_95 : pFind pFl 9 95 = some (9, 8, 0, 2136) := by decide +kernel
theorem F9_98 : pFind pFl 9 98 = some (9, 5, 0, 2133) := by decide +kernel
theorem F9_104 : pFind pFl 9 104 = some (6, 7, 1, 1155) := by decide +kernel
theorem F9_118 : pFind pFl 9 118 = some (2, 7, 1, 1230) := by decide +kernel
theorem F9_149 : pFind pFl 9 149 = some (2, 1, 1, 1213) := by decide +kernel
theorem F9_162 : pFind pFl 9 162 = some (8, 1, 1, 2089) := by decide +kernel
theorem F9_167 : pFind pFl 9 167 = some (6, 5, 1, 1152) := by decide +kernel
theorem F9_214 : pFind pFl 9 214 = some (2, 2, 1, 1218) := by decide +kernel
theorem F9_239 : pFind pFl 9 239 = some (8, 5, 1, 2096) := by decide +kernel
theorem F10_9 : pFind pFl 10 9 = some (10, 0, 0, 1047) := by decide +kernel
theorem F10_13 : pFind pFl 10 13 = some (10, 1, 0, 1049) := by decide +kernel
theorem F10_16 : pFind pFl 10 16 = some (10, 2, 0, 1051) := by decide +kernel
theorem F10_27 : pFind pFl 10 27 = some (10, 4, 0, 1055) := by decide +kernel
theorem F10_30 : pFind pFl 10 30 = some (10, 6, 0, 1057) := by decide +kernel
theorem F10_33 : pFind pFl 10 33 = some (10, 7, 0, 1058) := by decide +kernel
theorem F10_36 : pFind pFl 10 36 = some (10, 8, 0, 1059) := by decide +kernel
theorem F10_39 : pFind pFl 10 39 = some (10, 9, 0, 1060) := by decide +kernel
theorem F10_42 : pFind pFl 10 42 = some (10, 3, 0, 1053) := by decide +kernel
theorem F10_57 : pFind pFl 10 57 = some (10, 10, 0, 1061) := by decide +kernel
theorem F10_60 : pFind pFl 10 60 = some (10, 5, 0, 1056) := by decide +kernel
theorem F11_9 : pFind pFl 11 9 = some (11, 0, 0, 3025) := by decide +kernel
theorem F11_16 : pFind pFl 11 16 = some (11, 1, 0, 3026) := by decide +kernel
theorem F11_23 : pFind pFl 11 23 = some (11, 2, 0, 3027) := by decide +kernel
theorem F11_40 : pFind pFl 11 40 = some (11, 3, 0, 3028) := by decide +kernel
theorem F11_49 : pFind pFl 11 49 = some (11, 4, 0, 3029) := by decide +kernel
theorem F11_58 : pFind pFl 11 58 = some (11, 5, 0, 3030) := by decide +kernel
theorem F11_65 : pFind pFl 11 65 = some (11, 6, 0, 3031) := by decide +kernel
theorem F11_74 : pFind pFl 11 74 = some (11, 7, 0, 3032) := by decide +kernel
theorem F11_78 : pFind pFl 11 78 = some (11, 8, 0, 3033) := by decide +kernel
theorem F11_82 : pFind pFl 11 82 = some (11, 9, 0, 3034) := by decide +kernel
theorem F11_85 : pFind pFl 11 85 = some (11, 10, 0, 3035) := by decide +kernel
theorem F11_123 : pFind pFl 11 123 = some (5, 14, 1, 2214) := by decide +kernel
theorem F11_129 : pFind pFl 11 129 = some (5, 15, 1, 2216) := by decide +kernel
theorem F11_132 : pFind pFl 11 132 = some (5, 16, 1, 2218) := by decide +kernel
theorem F11_141 : pFind pFl 11 141 = some (5, 19, 1, 2223) := by decide +kernel
theorem F11_144 : pFind pFl 11 144 = some (5, 17, 1, 2220) := by decide +kernel
theorem F11_147 : pFind pFl 11 147 = some (4, 2, 1, 2165) := by decide +kernel
theorem F12_7 : pFind pFl 12 7 = some (12, 0, 0, 7014) := by decide +kernel
theorem F12_13 : pFind pFl 12 13 = some (12, 2, 0, 7016) := by decide +kernel
theorem F12_16 : pFind pFl 12 16 = some (12, 12, 0, 7026) := by decide +kernel
theorem F12_19 : pFind pFl 12 19 = some (12, 13, 0, 7027) := by decide +kernel
theorem F12_22 : pFind pFl 12 22 = some (12, 14, 0, 7028) := by decide +kernel
theorem F12_25 : pFind pFl 12 25 = some (12, 16, 0, 7030) := by decide +kernel
theorem F12_28 : pFind pFl 12 28 = some (12, 17, 0, 7031) := by decide +kernel
theorem F12_31 : pFind pFl 12 31 = some (12, 18, 0, 7032) := by decide +kernel
theorem F12_34 : pFind pFl 12 34 = some (12, 19, 0, 7033) := by decide +kernel
theorem F12_37 : pFind pFl 12 37 = some (12, 20, 0, 7034) := by decide +kernel
theorem F12_40 : pFind pFl 12 40 = some (12, 22, 0, 7036) := by decide +kernel
theorem F12_43 : pFind pFl 12 43 = some (12, 24, 0, 7038) := by decide +kernel
theorem F12_46 : pFind pFl 12 46 = some (12, 26, 0, 7040) := by decide +kernel
theorem F12_49 : pFind pFl 12 49 = some (12, 27, 0, 7041) := by decide +kernel
theorem F12_52 : pFind pFl 12 52 = some (12, 28, 0, 7042) := by decide +kernel
theorem F12_55 : pFind pFl 12 55 = some (12, 29, 0, 7043) := by decide +kernel
theorem F12_58 : pFind pFl 12 58 = some (12, 30, 0, 7044) := by decide +kernel
theorem F12_61 : pFind pFl 12 61 = some (12, 31, 0, 7045) := by decide +kernel
theorem F12_64 : pFind pFl 12 64 = some (12, 32, 0, 7046) := by decide +kernel
theorem F12_67 : pFind pFl 12 67 = some (12, 33, 0, 7047) := by decide +kernel
theorem F12_70 : pFind pFl 12 70 = some (12, 34, 0, 7048) := by decide +kernel
theorem F12_73 : pFind pFl 12 73 = some (12, 35, 0, 7049) := by decide +kernel
theorem F12_76 : pFind pFl 12 76 = some (12, 36, 0, 7050) := by decide +kernel
theorem F12_79 : pFind pFl 12 79 = some (12, 38, 0, 7052) := by decide +kernel
theorem F12_82 : pFind pFl 12 82 = some (12, 39, 0, 7053) := by decide +kernel
theorem F12_85 : pFind pFl 12 85 = some (12, 40, 0, 7054) := by decide +kernel
theorem F12_88 : pFind pFl 12 88 = some (12, 41, 0, 7055) := by decide +kernel
theorem F12_91 : pFind pFl 12 91 = some (12, 42, 0, 7056) := by decide +kernel
theorem F12_94 : pFind pFl 12 94 = some (12, 43, 0, 7057) := by decide +kernel
theorem F12_97 : pFind pFl 12 97 = some (12, 45, 0, 7059) := by decide +kernel
theorem F12_100 : pFind pFl 12 100 = some (12, 46, 0, 7060) := by decide +kernel
theorem F12_103 : pFind pFl 12 103 = some (12, 47, 0, 7061) := by decide +kernel
theorem F12_106 : pFind pFl 12 106 = some (12, 48, 0, 7062) := by decide +kernel
theorem F12_110 : pFind pFl 12 110 = some (12, 49, 0, 7063) := by decide +kernel
theorem F12_113 : pFind pFl 12 113 = some (12, 50, 0, 7064) := by decide +kernel
theorem F12_116 : pFind pFl 12 116 = some (12, 51, 0, 7065) := by decide +kernel
theorem F12_119 : pFind pFl 12 119 = some (12, 52, 0, 7066) := by decide +kernel
theorem F12_122 : pFind pFl 12 122 = some (12, 54, 0, 7068) := by decide +kernel
theorem F12_125 : pFind pFl 12 125 = some (12, 55, 0, 7069) := by decide +kernel
theorem F12_128 : pFind pFl 12 128 = some (12, 63, 0, 7077) := by decide +kernel
theorem F12_131 : pFind pFl 12 131 = some (12, 64, 0, 7078) := by decide +kernel
theorem F12_134 : pFind pFl 12 134 = some (12, 65, 0, 7079) := by decide +kernel
theorem F12_138 : pFind pFl 12 138 = some (12, 67, 0, 7081) := by decide +kernel
theorem F12_141 : pFind pFl 12 141 = some (12, 68, 0, 7082) := by decide +kernel
theorem F12_144 : pFind pFl 12 144 = some (12, 71, 0, 7085) := by decide +kernel
theorem F12_148 : pFind pFl 12 148 = some (12, 79, 0, 7093) := by decide +kernel
theorem F12_151 : pFind pFl 12 151 = some (12, 81, 0, 7095) := by decide +kernel
theorem F12_154 : pFind pFl 12 154 = some (12, 83, 0, 7097) := by decide +kernel
theorem F12_157 : pFind pFl 12 157 = some (12, 84, 0, 7098) := by decide +kernel
theorem F12_160 : pFind pFl 12 160 = some (12, 85, 0, 7099) := by decide +kernel
theorem F12_163 : pFind pFl 12 163 = some (12, 86, 0, 7100) := by decide +kernel
theorem F12_166 : pFind pFl 12 166 = some (12, 87, 0, 7101) := by decide +kernel
theorem F12_169 : pFind pFl 12 169 = some (12, 88, 0, 7102) := by decide +kernel
theorem F12_172 : pFind pFl 12 172 = some (12, 91, 0, 7105) := by decide +kernel
theorem F12_175 : pFind pFl 12 175 = some (12, 92, 0, 7106) := by decide +kernel
theorem F12_178 : pFind pFl 12 178 = some (12, 94, 0, 7108) := by decide +kernel
theorem F12_181 : pFind pFl 12 181 = some (12, 95, 0, 7109) := by decide +kernel
theorem F12_184 : pFind pFl 12 184 = some (12, 96, 0, 7110) := by decide +kernel
theorem F12_187 : pFind pFl 12 187 = some (12, 97, 0, 7111) := by decide +kernel
theorem F12_191 : pFind pFl 12 191 = some (12, 98, 0, 7112) := by decide +kernel
theorem F12_194 : pFind pFl 12 194 = some (12, 99, 0, 7113) := by decide +kernel
theorem F12_198 : pFind pFl 12 198 = some (12, 101, 0, 7115) := by decide +kernel
theorem F12_201 : pFind pFl 12 201 = some (12, 102, 0, 7116) := by decide +kernel
theorem F12_205 : pFind pFl 12 205 = some (12, 104, 0, 7118) := by decide +kernel
theorem F12_208 : pFind pFl 12 208 = some (12, 105, 0, 7119) := by decide +kernel
theorem F12_211 : pFind pFl 12 211 = some (12, 107, 0, 7121) := by decide +kernel
theorem F12_214 : pFind pFl 12 214 = some (12, 108, 0, 7122) := by decide +kernel
theorem F12_221 : pFind pFl 12 221 = some (12, 11, 0, 7025) := by decide +kernel
theorem F12_240 : pFind pFl 12 240 = some (12, 3, 0, 7017) := by decide +kernel
theorem F12_243 : pFind pFl 12 243 = some (12, 7, 0, 7021) := by decide +kernel
theorem F12_246 : pFind pFl 12 246 = some (12, 6, 0, 7020) := by decide +kernel
theorem F12_253 : pFind pFl 12 253 = some (12, 4, 0, 7018) := by decide +kernel
theorem F12_256 : pFind pFl 12 256 = some (12, 8, 0, 7022) := by decide +kernel
theorem F12_263 : pFind pFl 12 263 = some (12, 5, 0, 7019) := by decide +kernel
theorem F12_283 : pFind pFl 12 283 = some (12, 9, 0, 7023) := by decide +kernel
theorem F12_292 : pFind pFl 12 292 = some (12, 10, 0, 7024) := by decide +kernel
theorem F12_302 : pFind pFl 12 302 = some (12, 15, 0, 7029) := by decide +kernel
theorem F12_356 : pFind pFl 12 356 = some (12, 23, 0, 7037) := by decide +kernel
theorem F12_359 : pFind pFl 12 359 = some (12, 21, 0, 7035) := by decide +kernel
theorem F12_366 : pFind pFl 12 366 = some (12, 25, 0, 7039) := by decide +kernel
theorem F12_372 : pFind pFl 12 372 = some (12, 57, 0, 7071) := by decide +kernel
theorem F12_397 : pFind pFl 12 397 = some (12, 37, 0, 7051) := by decide +kernel
theorem F12_403 : pFind pFl 12 403 = some (12, 44, 0, 7058) := by decide +kernel
theorem F12_406 : pFind pFl 12 406 = some (12, 53, 0, 7067) := by decide +kernel
theorem F12_409 : pFind pFl 12 409 = some (12, 58, 0, 7072) := by decide +kernel
theorem F12_435 : pFind pFl 12 435 = some (12, 1, 0, 7015) := by decide +kernel
theorem F12_438 : pFind pFl 12 438 = some (12, 56, 0, 7070) := by decide +kernel
theorem F12_442 : pFind pFl 12 442 = some (12, 69, 0, 7083) := by decide +kernel
theorem F12_457 : pFind pFl 12 457 = some (12, 59, 0, 7073) := by decide +kernel
theorem F12_467 : pFind pFl 12 467 = some (12, 62, 0, 7076) := by decide +kernel
theorem F12_470 : pFind pFl 12 470 = some (12, 60, 0, 7074) := by decide +kernel
theorem F12_473 : pFind pFl 12 473 = some (12, 61, 0, 7075) := by decide +kernel
theorem F12_476 : pFind pFl 12 476 = some (12, 66, 0, 7080) := by decide +kernel
theorem F12_548 : pFind pFl 12 548 = some (12, 89, 0, 7103) := by decide +kernel
theorem F12_551 : pFind pFl 12 551 = some (12, 82, 0, 7096) := by decide +kernel
theorem F12_554 : pFind pFl 12 554 = some (12, 93, 0, 7107) := by decide +kernel
theorem F12_560 : pFind pFl 12 560 = some (12, 100, 0, 7114) := by decide +kernel
theorem F12_566 : pFind pFl 12 566 = some (12, 90, 0, 7104) := by decide +kernel
theorem F12_569 : pFind pFl 12 569 = some (12, 72, 0, 7086) := by decide +kernel
theorem F12_572 : pFind pFl 12 572 = some (12, 73, 0, 7087) := by decide +kernel
theorem F12_581 : pFind pFl 12 581 = some (12, 74, 0, 7088) := by decide +kernel
theorem F12_584 : pFind pFl 12 584 = some (12, 103, 0, 7117) := by decide +kernel
theorem F12_587 : pFind pFl 12 587 = some (12, 70, 0, 7084) := by decide +kernel
theorem F12_590 : pFind pFl 12 590 = some (12, 76, 0, 7090) := by decide +kernel
theorem F12_593 : pFind pFl 12 593 = some (12, 106, 0, 7120) := by decide +kernel
theorem F12_602 : pFind pFl 12 602 = some (12, 77, 0, 7091) := by decide +kernel
theorem F12_635 : pFind pFl 12 635 = some (12, 80, 0, 7094) := by decide +kernel
theorem F12_657 : pFind pFl 12 657 = some (12, 78, 0, 7092) := by decide +kernel
theorem F12_662 : pFind pFl 12 662 = some (12, 75, 0, 7089) := by decide +kernel
theorem L0_17 : pFind pMl 0 17 = some (106, 4193) := by decide +kernel
theorem L0_21 : pFind pMl 0 21 = some (110, 4209) := by decide +kernel
theorem L0_26 : pFind pMl 0 26 = some (112, 4218) := by decide +kernel
theorem L0_29 : pFind pMl 0 29 = some (121, 5015) := by decide +kernel
theorem L0_32 : pFind pMl 0 32 = some (124, 5028) := by decide +kernel
theorem L0_46 : pFind pMl 0 46 = some (107, 4197) := by decide +kernel
theorem L0_59 : pFind pMl 0 59 = some (108, 4201) := by decide +kernel
theorem L0_63 : pFind pMl 0 63 = some (109, 4205) := by decide +kernel
theorem L0_76 : pFind pMl 0 76 = some (113, 4222) := by decide +kernel
theorem L0_80 : pFind pMl 0 80 = some (120, 5011) := by decide +kernel
theorem L0_88 : pFind pMl 0 88 = some (117, 4238) := by decide +kernel
theorem L0_92 : pFind pMl 0 92 = some (118, 5002) := by decide +kernel
theorem L0_96 : pFind pMl 0 96 = some (114, 4226) := by decide +kernel
theorem L0_99 : pFind pMl 0 99 = some (119, 5007) := by decide +kernel
theorem L0_105 : pFind pMl 0 105 = some (115, 4230) := by decide +kernel
theorem L0_109 : pFind pMl 0 109 = some (116, 4234) := by decide +kernel
theorem L1_37 : pFind pMl 1 37 = some (56, 3237) := by decide +kernel
theorem L1_41 : pFind pMl 1 41 = some (109, 5124) := by decide +kernel
theorem L2_41 : pFind pMl 2 41 = some (180, 6035) := by decide +kernel
theorem L3_37 : pFind pMl 3 37 = some (197, 6104) := by decide +kernel
theorem L3_41 : pFind pMl 3 41 = some (172, 5233) := by decide +kernel
theorem L3_47 : pFind pMl 3 47 = some (193, 6088) := by decide +kernel
theorem L3_51 : pFind pMl 3 51 = some (192, 6084) := by decide +kernel
theorem L3_65 : pFind pMl 3 65 = some (200, 6127) := by decide +kernel
theorem L4_20 : pFind pMl 4 20 = some (167, 5208) := by decide +kernel
theorem L5_80 : pFind pMl 5 80 = some (198, 6108) := by decide +kernel
theorem L5_83 : pFind pMl 5 83 = some (197, 6235) := by decide +kernel
theorem L5_87 : pFind pMl 5 87 = some (18, 5220) := by decide +kernel
theorem L5_92 : pFind pMl 5 92 = some (107, 5221) := by decide +kernel
theorem L5_98 : pFind pMl 5 98 = some (118, 5222) := by decide +kernel
theorem L5_113 : pFind pMl 5 113 = some (170, 5224) := by decide +kernel
theorem L5_117 : pFind pMl 5 117 = some (171, 5229) := by decide +kernel
theorem L5_121 : pFind pMl 5 121 = some (174, 6000) := by decide +kernel
theorem L5_125 : pFind pMl 5 125 = some (175, 6004) := by decide +kernel
theorem L5_129 : pFind pMl 5 129 = some (178, 6026) := by decide +kernel
theorem L5_132 : pFind pMl 5 132 = some (180, 6063) := by decide +kernel
theorem L5_138 : pFind pMl 5 138 = some (187, 6064) := by decide +kernel
theorem L5_142 : pFind pMl 5 142 = some (221, 6207) := by decide +kernel
theorem L5_145 : pFind pMl 5 145 = some (189, 6072) := by decide +kernel
theorem L5_158 : pFind pMl 5 158 = some (188, 6068) := by decide +kernel
theorem L5_161 : pFind pMl 5 161 = some (194, 6092) := by decide +kernel
theorem L5_164 : pFind pMl 5 164 = some (202, 6128) := by decide +kernel
theorem L5_167 : pFind pMl 5 167 = some (182, 6043) := by decide +kernel
theorem L5_170 : pFind pMl 5 170 = some (212, 6171) := by decide +kernel
theorem L5_177 : pFind pMl 5 177 = some (213, 6175) := by decide +kernel
theorem L5_183 : pFind pMl 5 183 = some (214, 6179) := by decide +kernel
theorem L5_186 : pFind pMl 5 186 = some (215, 6183) := by decide +kernel
theorem L5_190 : pFind pMl 5 190 = some (219, 6199) := by decide +kernel
theorem L5_194 : pFind pMl 5 194 = some (179, 6031) := by decide +kernel
theorem L5_197 : pFind pMl 5 197 = some (181, 6039) := by decide +kernel
theorem L5_200 : pFind pMl 5 200 = some (183, 6047) := by decide +kernel
theorem L5_203 : pFind pMl 5 203 = some (184, 6051) := by decide +kernel
theorem L5_206 : pFind pMl 5 206 = some (190, 6076) := by decide +kernel
theorem L5_210 : pFind pMl 5 210 = some (191, 6080) := by decide +kernel
theorem L5_213 : pFind pMl 5 213 = some (203, 6132) := by decide +kernel
theorem L5_216 : pFind pMl 5 216 = some (204, 6136) := by decide +kernel
theorem L5_220 : pFind pMl 5 220 = some (206, 6145) := by decide +kernel
theorem L5_223 : pFind pMl 5 223 = some (208, 6154) := by decide +kernel
theorem L5_226 : pFind pMl 5 226 = some (209, 6158) := by decide +kernel
theorem L5_230 : pFind pMl 5 230 = some (211, 6167) := by decide +kernel
theorem L5_234 : pFind pMl 5 234 = some (195, 6096) := by decide +kernel
theorem L5_237 : pFind pMl 5 237 = some (193, 6140) := by decide +kernel
theorem L5_241 : pFind pMl 5 241 = some (205, 6141) := by decide +kernel
theorem L5_244 : pFind pMl 5 244 = some (207, 6149) := by decide +kernel
theorem L5_247 : pFind pMl 5 247 = some (192, 6153) := by decide +kernel
theorem L5_249 : pFind pMl 5 249 = some (210, 6162) := by decide +kernel
theorem L5_252 : pFind pMl 5 252 = some (146, 6166) := by decide +kernel
theorem L5_258 : pFind pMl 5 258 = some (196, 6100) := by decide +kernel
theorem L5_262 : pFind pMl 5 262 = some (199, 6112) := by decide +kernel
theorem L5_265 : pFind pMl 5 265 = some (200, 6116) := by decide +kernel
theorem L5_274 : pFind pMl 5 274 = some (201, 6122) := by decide +kernel
theorem L5_277 : pFind pMl 5 277 = some (216, 6187) := by decide +kernel
theorem L5_281 : pFind pMl 5 281 = some (218, 6195) := by decide +kernel
theorem L5_285 : pFind pMl 5 285 = some (217, 6191) := by decide +kernel
theorem L5_291 : pFind pMl 5 291 = some (176, 6008) := by decide +kernel
theorem L5_298 : pFind pMl 5 298 = some (177, 6014) := by decide +kernel
theorem L5_304 : pFind pMl 5 304 = some (220, 6203) := by decide +kernel
theorem L5_310 : pFind pMl 5 310 = some (222, 6211) := by decide +kernel
theorem L6_60 : pFind pMl 6 60 = some (111, 4213) := by decide +kernel
theorem L6_64 : pFind pMl 6 64 = some (107, 4217) := by decide +kernel
theorem L6_74 : pFind pMl 6 74 = some (117, 5006) := by decide +kernel
theorem L6_81 : pFind pMl 6 81 = some (122, 5019) := by decide +kernel
theorem L6_87 : pFind pMl 6 87 = some (109, 5023) := by decide +kernel
theorem L6_90 : pFind pMl 6 90 = some (123, 5024) := by decide +kernel
theorem L7_35 : pFind pMl 7 35 = some (54, 3229) := by decide +kernel
theorem L7_40 : pFind pMl 7 40 = some (59, 4009) := by decide +kernel
theorem L7_51 : pFind pMl 7 51 = some (62, 4021) := by decide +kernel
theorem L7_60 : pFind pMl 7 60 = some (60, 4013) := by decide +kernel
theorem L7_68 : pFind pMl 7 68 = some (56, 4025) := by decide +kernel
theorem L7_72 : pFind pMl 7 72 = some (63, 4026) := by decide +kernel
theorem L7_75 : pFind pMl 7 75 = some (104, 4185) := by decide +kernel
theorem L7_90 : pFind pMl 7 90 = some (55, 3233) := by decide +kernel
theorem L7_93 : pFind pMl 7 93 = some (57, 4001) := by decide +kernel
theorem L7_94 : pFind pMl 7 94 = some (58, 4005) := by decide +kernel
theorem L7_98 : pFind pMl 7 98 = some (61, 4017) := by decide +kernel
theorem L7_104 : pFind pMl 7 104 = some (64, 4030) := by decide +kernel
theorem L7_107 : pFind pMl 7 107 = some (65, 4034) := by decide +kernel
theorem L7_110 : pFind pMl 7 110 = some (66, 4038) := by decide +kernel
theorem L7_113 : pFind pMl 7 113 = some (67, 4042) := by decide +kernel
theorem L7_117 : pFind pMl 7 117 = some (71, 4058) := by decide +kernel
theorem L7_120 : pFind pMl 7 120 = some (72, 4062) := by decide +kernel
theorem L7_126 : pFind pMl 7 126 = some (81, 4098) := by decide +kernel
theorem L7_130 : pFind pMl 7 130 = some (70, 4054) := by decide +kernel
theorem L7_133 : pFind pMl 7 133 = some (68, 4046) := by decide +kernel
theorem L7_136 : pFind pMl 7 136 = some (69, 4050) := by decide +kernel
theorem L7_140 : pFind pMl 7 140 = some (73, 4066) := by decide +kernel
theorem L7_143 : pFind pMl 7 143 = some (74, 4070) := by decide +kernel
theorem L7_146 : pFind pMl 7 146 = some (94, 4146) := by decide +kernel
theorem L7_149 : pFind pMl 7 149 = some (95, 4150) := by decide +kernel
theorem L7_152 : pFind pMl 7 152 = some (96, 4154) := by decide +kernel
theorem L7_155 : pFind pMl 7 155 = some (97, 4158) := by decide +kernel
theorem L7_158 : pFind pMl 7 158 = some (98, 4162) := by decide +kernel
theorem L7_162 : pFind pMl 7 162 = some (99, 4166) := by decide +kernel
theorem L7_165 : pFind pMl 7 165 = some (100, 4170) := by decide +kernel
theorem L7_168 : pFind pMl 7 168 = some (76, 4078) := by decide +kernel
theorem L7_171 : pFind pMl 7 171 = some (75, 4074) := by decide +kernel
theorem L7_183 : pFind pMl 7 183 = some (101, 4174) := by decide +kernel
theorem L7_187 : pFind pMl 7 187 = some (102, 4178) := by decide +kernel
theorem L7_190 : pFind pMl 7 190 = some (103, 4181) := by decide +kernel
theorem L7_193 : pFind pMl 7 193 = some (77, 4082) := by decide +kernel
theorem L7_196 : pFind pMl 7 196 = some (89, 4129) := by decide +kernel
theorem L7_199 : pFind pMl 7 199 = some (90, 4132) := by decide +kernel
theorem L7_202 : pFind pMl 7 202 = some (88, 4125) := by decide +kernel
theorem L7_205 : pFind pMl 7 205 = some (91, 4135) := by decide +kernel
theorem L7_209 : pFind pMl 7 209 = some (92, 4139) := by decide +kernel
theorem L7_212 : pFind pMl 7 212 = some (93, 4143) := by decide +kernel
theorem L7_215 : pFind pMl 7 215 = some (78, 4086) := by decide +kernel
theorem L7_219 : pFind pMl 7 219 = some (79, 4090) := by decide +kernel
theorem L7_222 : pFind pMl 7 222 = some (86, 4118) := by decide +kernel
theorem L7_226 : pFind pMl 7 226 = some (87, 4121) := by decide +kernel
theorem L7_229 : pFind pMl 7 229 = some (85, 4114) := by decide +kernel
theorem L7_232 : pFind pMl 7 232 = some (83, 4106) := by decide +kernel
theorem L7_235 : pFind pMl 7 235 = some (80, 4094) := by decide +kernel
theorem L7_238 : pFind pMl 7 238 = some (82, 4102) := by decide +kernel
theorem L7_241 : pFind pMl 7 241 = some (84, 4110) := by decide +kernel
theorem L8_53 : pFind pMl 8 53 = some (129, 5050) := by decide +kernel
theorem L8_69 : pFind pMl 8 69 = some (159, 5176) := by decide +kernel
theorem L9_52 : pFind pMl 9 52 = some (126, 5036) := by decide +kernel
theorem L9_59 : pFind pMl 9 59 = some (130, 5055) := by decide +kernel
theorem L9_70 : pFind pMl 9 70 = some (131, 5059) := by decide +kernel
theorem L9_101 : pFind pMl 9 101 = some (127, 5040) := by decide +kernel
theorem L9_107 : pFind pMl 9 107 = some (116, 5044) := by decide +kernel
theorem L9_111 : pFind pMl 9 111 = some (115, 5045) := by decide +kernel
theorem L9_114 : pFind pMl 9 114 = some (128, 5046) := by decide +kernel
theorem L9_119 : pFind pMl 9 119 = some (132, 5063) := by decide +kernel
theorem L9_122 : pFind pMl 9 122 = some (138, 5089) := by decide +kernel
theorem L9_125 : pFind pMl 9 125 = some (143, 5109) := by decide +kernel
theorem L9_129 : pFind pMl 9 129 = some (148, 5128) := by decide +kernel
theorem L9_132 : pFind pMl 9 132 = some (154, 5153) := by decide +kernel
theorem L9_135 : pFind pMl 9 135 = some (157, 5168) := by decide +kernel
theorem L9_143 : pFind pMl 9 143 = some (133, 5067) := by decide +kernel
theorem L9_146 : pFind pMl 9 146 = some (134, 5072) := by decide +kernel
theorem L9_152 : pFind pMl 9 152 = some (135, 5076) := by decide +kernel
theorem L9_155 : pFind pMl 9 155 = some (136, 5080) := by decide +kernel
theorem L9_159 : pFind pMl 9 159 = some (137, 5085) := by decide +kernel
theorem L9_163 : pFind pMl 9 163 = some (118, 5084) := by decide +kernel
theorem L9_170 : pFind pMl 9 170 = some (139, 5093) := by decide +kernel
theorem L9_173 : pFind pMl 9 173 = some (140, 5097) := by decide +kernel
theorem L9_177 : pFind pMl 9 177 = some (141, 5101) := by decide +kernel
theorem L9_180 : pFind pMl 9 180 = some (142, 5106) := by decide +kernel
theorem L9_185 : pFind pMl 9 185 = some (107, 5105) := by decide +kernel
theorem L9_186 : pFind pMl 9 186 = some (144, 5113) := by decide +kernel
theorem L9_189 : pFind pMl 9 189 = some (147, 5125) := by decide +kernel
theorem L9_192 : pFind pMl 9 192 = some (145, 5117) := by decide +kernel
theorem L9_195 : pFind pMl 9 195 = some (146, 5120) := by decide +kernel
theorem L9_198 : pFind pMl 9 198 = some (149, 5132) := by decide +kernel
theorem L9_201 : pFind pMl 9 201 = some (150, 5136) := by decide +kernel
theorem L9_204 : pFind pMl 9 204 = some (151, 5140) := by decide +kernel
theorem L9_207 : pFind pMl 9 207 = some (152, 5145) := by decide +kernel
theorem L9_210 : pFind pMl 9 210 = some (153, 5149) := by decide +kernel
theorem L9_217 : pFind pMl 9 217 = some (129, 5144) := by decide +kernel
theorem L9_221 : pFind pMl 9 221 = some (155, 5157) := by decide +kernel
theorem L9_224 : pFind pMl 9 224 = some (156, 5164) := by decide +kernel
theorem L9_227 : pFind pMl 9 227 = some (158, 5172) := by decide +kernel
theorem L9_230 : pFind pMl 9 230 = some (160, 5180) := by decide +kernel
theorem L9_233 : pFind pMl 9 233 = some (161, 5184) := by decide +kernel
theorem L9_236 : pFind pMl 9 236 = some (162, 5188) := by decide +kernel
theorem L10_21 : pFind pMl 10 21 = some (2, 1037) := by decide +kernel
theorem L10_46 : pFind pMl 10 46 = some (20, 3083) := by decide +kernel
theorem L10_49 : pFind pMl 10 49 = some (34, 3140) := by decide +kernel
theorem L10_53 : pFind pMl 10 53 = some (38, 3154) := by decide +kernel
theorem L10_63 : pFind pMl 10 63 = some (21, 3087) := by decide +kernel
theorem L10_69 : pFind pMl 10 69 = some (22, 3090) := by decide +kernel
theorem L10_73 : pFind pMl 10 73 = some (31, 3128) := by decide +kernel
theorem L10_77 : pFind pMl 10 77 = some (33, 3136) := by decide +kernel
theorem L10_81 : pFind pMl 10 81 = some (35, 3144) := by decide +kernel
theorem L10_85 : pFind pMl 10 85 = some (36, 3147) := by decide +kernel
theorem L10_88 : pFind pMl 10 88 = some (37, 3151) := by decide +kernel
theorem L10_91 : pFind pMl 10 91 = some (39, 3158) := by decide +kernel
theorem L10_94 : pFind pMl 10 94 = some (40, 3162) := by decide +kernel
theorem L10_100 : pFind pMl 10 100 = some (41, 3166) := by decide +kernel
theorem L10_103 : pFind pMl 10 103 = some (32, 3132) := by decide +kernel
theorem L11_89 : pFind pMl 11 89 = some (15, 3063) := by decide +kernel
theorem L11_93 : pFind pMl 11 93 = some (18, 3075) := by decide +kernel
theorem L11_96 : pFind pMl 11 96 = some (19, 3079) := by decide +kernel
theorem L11_100 : pFind pMl 11 100 = some (53, 3225) := by decide +kernel
theorem L11_104 : pFind pMl 11 104 = some (105, 4189) := by decide +kernel
theorem L11_108 : pFind pMl 11 108 = some (125, 5032) := by decide +kernel
theorem L11_110 : pFind pMl 11 110 = some (163, 5192) := by decide +kernel
theorem L11_113 : pFind pMl 11 113 = some (166, 5204) := by decide +kernel
theorem L11_117 : pFind pMl 11 117 = some (169, 5216) := by decide +kernel
theorem L11_120 : pFind pMl 11 120 = some (186, 6059) := by decide +kernel
theorem L11_126 : pFind pMl 11 126 = some (225, 6223) := by decide +kernel
theorem L11_135 : pFind pMl 11 135 = some (227, 6231) := by decide +kernel
theorem L11_138 : pFind pMl 11 138 = some (228, 6236) := by decide +kernel
theorem L12_228 : pFind pMl 12 228 = some (236, 8123) := by decide +kernel
theorem L12_249 : pFind pMl 12 249 = some (239, 8137) := by decide +kernel
theorem L12_259 : pFind pMl 12 259 = some (234, 8114) := by decide +kernel
theorem L12_266 : pFind pMl 12 266 = some (235, 8118) := by decide +kernel
theorem L12_270 : pFind pMl 12 270 = some (237, 8128) := by decide +kernel
theorem L12_273 : pFind pMl 12 273 = some (238, 8133) := by decide +kernel
theorem L12_277 : pFind pMl 12 277 = some (240, 8141) := by decide +kernel
theorem L12_280 : pFind pMl 12 280 = some (241, 8145) := by decide +kernel
theorem L12_286 : pFind pMl 12 286 = some (244, 8156) := by decide +kernel
theorem L12_289 : pFind pMl 12 289 = some (233, 8110) := by decide +kernel
theorem L12_295 : pFind pMl 12 295 = some (247, 8168) := by decide +kernel
theorem L12_298 : pFind pMl 12 298 = some (243, 8152) := by decide +kernel
theorem L12_305 : pFind pMl 12 305 = some (258, 8212) := by decide +kernel
theorem L12_308 : pFind pMl 12 308 = some (266, 9004) := by decide +kernel
theorem L12_312 : pFind pMl 12 312 = some (259, 8216) := by decide +kernel
theorem L12_315 : pFind pMl 12 315 = some (260, 8220) := by decide +kernel
theorem L12_318 : pFind pMl 12 318 = some (261, 8224) := by decide +kernel
theorem L12_321 : pFind pMl 12 321 = some (262, 8228) := by decide +kernel
theorem L12_324 : pFind pMl 12 324 = some (263, 8232) := by decide +kernel
theorem L12_327 : pFind pMl 12 327 = some (268, 9014) := by decide +kernel
theorem L12_330 : pFind pMl 12 330 = some (242, 8148) := by decide +kernel
theorem L12_333 : pFind pMl 12 333 = some (246, 8164) := by decide +kernel
theorem L12_336 : pFind pMl 12 336 = some (264, 8236) := by decide +kernel
theorem L12_339 : pFind pMl 12 339 = some (248, 8172) := by decide +kernel
theorem L12_342 : pFind pMl 12 342 = some (265, 9000) := by decide +kernel
theorem L12_345 : pFind pMl 12 345 = some (267, 9008) := by decide +kernel
theorem L12_349 : pFind pMl 12 349 = some (257, 8208) := by decide +kernel
theorem L12_352 : pFind pMl 12 352 = some (252, 8188) := by decide +kernel
theorem L12_369 : pFind pMl 12 369 = some (254, 8196) := by decide +kernel
theorem L12_375 : pFind pMl 12 375 = some (251, 8184) := by decide +kernel
theorem L12_379 : pFind pMl 12 379 = some (255, 8200) := by decide +kernel
theorem L12_382 : pFind pMl 12 382 = some (256, 8204) := by decide +kernel
theorem L12_385 : pFind pMl 12 385 = some (250, 8180) := by decide +kernel
theorem L12_388 : pFind pMl 12 388 = some (269, 9018) := by decide +kernel
theorem L12_391 : pFind pMl 12 391 = some (253, 8192) := by decide +kernel
theorem L12_394 : pFind pMl 12 394 = some (270, 9022) := by decide +kernel
theorem L12_400 : pFind pMl 12 400 = some (249, 8176) := by decide +kernel
theorem L12_412 : pFind pMl 12 412 = some (272, 9030) := by decide +kernel
theorem L12_415 : pFind pMl 12 415 = some (292, 9110) := by decide +kernel
theorem L12_419 : pFind pMl 12 419 = some (273, 9034) := by decide +kernel
theorem L12_422 : pFind pMl 12 422 = some (277, 9050) := by decide +kernel
theorem L12_426 : pFind pMl 12 426 = some (275, 9042) := by decide +kernel
theorem L12_429 : pFind pMl 12 429 = some (276, 9046) := by decide +kernel
theorem L12_432 : pFind pMl 12 432 = some (278, 9054) := by decide +kernel
theorem L12_445 : pFind pMl 12 445 = some (232, 8106) := by decide +kernel
theorem L12_448 : pFind pMl 12 448 = some (245, 8160) := by decide +kernel
theorem L12_451 : pFind pMl 12 451 = some (271, 9026) := by decide +kernel
theorem L12_454 : pFind pMl 12 454 = some (274, 9038) := by decide +kernel
theorem L12_460 : pFind pMl 12 460 = some (279, 9058) := by decide +kernel
theorem L12_463 : pFind pMl 12 463 = some (280, 9062) := by decide +kernel
theorem L12_479 : pFind pMl 12 479 = some (281, 9066) := by decide +kernel
theorem L12_483 : pFind pMl 12 483 = some (282, 9070) := by decide +kernel
theorem L12_486 : pFind pMl 12 486 = some (283, 9074) := by decide +kernel
theorem L12_489 : pFind pMl 12 489 = some (284, 9078) := by decide +kernel
theorem L12_493 : pFind pMl 12 493 = some (295, 9121) := by decide +kernel
theorem L12_496 : pFind pMl 12 496 = some (287, 9090) := by decide +kernel
theorem L12_499 : pFind pMl 12 499 = some (291, 9106) := by decide +kernel
theorem L12_502 : pFind pMl 12 502 = some (296, 9125) := by decide +kernel
theorem L12_505 : pFind pMl 12 505 = some (297, 9129) := by decide +kernel
theorem L12_508 : pFind pMl 12 508 = some (298, 9133) := by decide +kernel
theorem L12_511 : pFind pMl 12 511 = some (302, 9149) := by decide +kernel
theorem L12_514 : pFind pMl 12 514 = some (303, 9153) := by decide +kernel
theorem L12_517 : pFind pMl 12 517 = some (299, 9137) := by decide +kernel
theorem L12_520 : pFind pMl 12 520 = some (300, 9141) := by decide +kernel
theorem L12_523 : pFind pMl 12 523 = some (301, 9145) := by decide +kernel
theorem L12_527 : pFind pMl 12 527 = some (285, 9082) := by decide +kernel
theorem L12_530 : pFind pMl 12 530 = some (286, 9086) := by decide +kernel
theorem L12_534 : pFind pMl 12 534 = some (288, 9094) := by decide +kernel
theorem L12_537 : pFind pMl 12 537 = some (289, 9098) := by decide +kernel
theorem L12_540 : pFind pMl 12 540 = some (290, 9102) := by decide +kernel
theorem L12_543 : pFind pMl 12 543 = some (293, 9114) := by decide +kernel
theorem L12_546 : pFind pMl 12 546 = some (294, 9118) := by decide +kernel
theorem L12_557 : pFind pMl 12 557 = some (325, 10005) := by decide +kernel
theorem L12_563 : pFind pMl 12 563 = some (327, 10013) := by decide +kernel
theorem L12_575 : pFind pMl 12 575 = some (324, 10001) := by decide +kernel
theorem L12_578 : pFind pMl 12 578 = some (326, 10009) := by decide +kernel
theorem L12_596 : pFind pMl 12 596 = some (312, 9192) := by decide +kernel
theorem L12_598 : pFind pMl 12 598 = some (311, 9188) := by decide +kernel
theorem L12_605 : pFind pMl 12 605 = some (328, 10017) := by decide +kernel
theorem L12_608 : pFind pMl 12 608 = some (331, 10029) := by decide +kernel
theorem L12_611 : pFind pMl 12 611 = some (314, 9200) := by decide +kernel
theorem L12_614 : pFind pMl 12 614 = some (316, 9208) := by decide +kernel
theorem L12_617 : pFind pMl 12 617 = some (317, 9212) := by decide +kernel
theorem L12_620 : pFind pMl 12 620 = some (315, 9204) := by decide +kernel
theorem L12_623 : pFind pMl 12 623 = some (321, 9229) := by decide +kernel
theorem L12_626 : pFind pMl 12 626 = some (322, 9233) := by decide +kernel
theorem L12_629 : pFind pMl 12 629 = some (323, 9237) := by decide +kernel
theorem L12_632 : pFind pMl 12 632 = some (309, 9180) := by decide +kernel
theorem L12_638 : pFind pMl 12 638 = some (330, 10025) := by decide +kernel
theorem L12_641 : pFind pMl 12 641 = some (332, 10033) := by decide +kernel
theorem L12_644 : pFind pMl 12 644 = some (333, 10037) := by decide +kernel
theorem L12_647 : pFind pMl 12 647 = some (334, 10041) := by decide +kernel
theorem L12_650 : pFind pMl 12 650 = some (310, 9184) := by decide +kernel
theorem L12_654 : pFind pMl 12 654 = some (337, 10052) := by decide +kernel
theorem L12_660 : pFind pMl 12 660 = some (338, 10056) := by decide +kernel
theorem L12_665 : pFind pMl 12 665 = some (320, 9225) := by decide +kernel
theorem L12_668 : pFind pMl 12 668 = some (329, 10021) := by decide +kernel
theorem L12_671 : pFind pMl 12 671 = some (335, 10044) := by decide +kernel
theorem L12_674 : pFind pMl 12 674 = some (336, 10048) := by decide +kernel
theorem L12_677 : pFind pMl 12 677 = some (313, 9196) := by decide +kernel
theorem L12_691 : pFind pMl 12 691 = some (319, 9221) := by decide +kernel
theorem L13_335 : pFind pMl 13 335 = some (3, 1041) := by decide +kernel
theorem L13_492 : pFind pMl 13 492 = some (23, 3094) := by decide +kernel
theorem L13_495 : pFind pMl 13 495 = some (24, 3098) := by decide +kernel
theorem L13_498 : pFind pMl 13 498 = some (27, 3109) := by decide +kernel
theorem L13_505 : pFind pMl 13 505 = some (2, 3174) := by decide +kernel
theorem L13_633 : pFind pMl 13 633 = some (42, 3170) := by decide +kernel
theorem L13_637 : pFind pMl 13 637 = some (43, 3175) := by decide +kernel
theorem L13_640 : pFind pMl 13 640 = some (46, 3190) := by decide +kernel
theorem L13_1059 : pFind pMl 13 1059 = some (26, 3106) := by decide +kernel
theorem L13_1062 : pFind pMl 13 1062 = some (50, 3205) := by decide +kernel
theorem L14_9 : pFind pMl 14 9 = some (25, 3101) := by decide +kernel
theorem L14_88 : pFind pMl 14 88 = some (44, 3178) := by decide +kernel
theorem L14_95 : pFind pMl 14 95 = some (45, 3187) := by decide +kernel
theorem L15_48 : pFind pMl 15 48 = some (29, 3115) := by decide +kernel
theorem L15_67 : pFind pMl 15 67 = some (28, 3112) := by decide +kernel
theorem L15_71 : pFind pMl 15 71 = some (30, 3119) := by decide +kernel
theorem L15_96 : pFind pMl 15 96 = some (48, 3199) := by decide +kernel
theorem L15_228 : pFind pMl 15 228 = some (47, 3196) := by decide +kernel
theorem L15_232 : pFind pMl 15 232 = some (52, 3211) := by decide +kernel
theorem L15_241 : pFind pMl 15 241 = some (49, 3202) := by decide +kernel
theorem L15_244 : pFind pMl 15 244 = some (51, 3208) := by decide +kernel
theorem L15_414 : pFind pMl 15 414 = some (25, 3118) := by decide +kernel
theorem L16_13 : pFind pMl 16 13 = some (173, 5236) := by decide +kernel
theorem M22 : pMq[22]? = some ((⟨"java/lang/String", "charAt", "(I)C"⟩, 13, 2, some .char, 1, 0), 3093, 3091, 3092, 1003) := by rfl
theorem M49 : pMq[49]? = some ((⟨"java/lang/String", "checkBoundsBeginEnd", "(III)V"⟩, 13, 3, none, 3, 1), 3204, 3203, 0, 1003) := by rfl
theorem M25 : pMq[25]? = some ((⟨"java/lang/String", "checkIndex", "(II)V"⟩, 13, 2, none, 2, 1), 3103, 3102, 0, 1003) := by rfl
theorem M3 : pMq[3]? = some ((⟨"java/lang/String", "coder", "()B"⟩, 13, 1, some .byte, 0, 0), 1044, 1042, 1043, 1003) := by rfl
theorem M41 : pMq[41]? = some ((⟨"java/lang/String", "indexOf", "(I)I"⟩, 13, 2, some .int, 1, 0), 3169, 3167, 3168, 1003) := by rfl
theorem M42 : pMq[42]? = some ((⟨"java/lang/String", "indexOf", "(II)I"⟩, 13, 3, some .int, 2, 0), 3173, 3171, 3172, 1003) := by rfl
theorem M23 : pMq[23]? = some ((⟨"java/lang/String", "isLatin1", "()Z"⟩, 13, 1, some .boolean, 0, 0), 3097, 3095, 3096, 1003) := by rfl
theorem M2 : pMq[2]? = some ((⟨"java/lang/String", "length", "()I"⟩, 13, 1, some .int, 0, 0), 1040, 1038, 1039, 1003) := by rfl
theorem M44 : pMq[44]? = some ((⟨"java/lang/StringLatin1", "canEncode", "(I)Z"⟩, 14, 1, some .boolean, 1, 1), 3180, 3179, 0, 1016) := by rfl
theorem M24 : pMq[24]? = some ((⟨"java/lang/StringLatin1", "charAt", "([BI)C"⟩, 14, 2, some .char, 2, 1), 3100, 3099, 0, 1016) := by rfl
theorem M45 : pMq[45]? = some ((⟨"java/lang/StringLatin1", "indexOfChar", "([BIII)I"⟩, 14, 6, some .int, 4, 1), 3189, 3188, 0, 1016) := by rfl
theorem M43 : pMq[43]? = some ((⟨"java/lang/StringLatin1", "indexOf", "([BIII)I"⟩, 14, 4, some .int, 4, 1), 3177, 3176, 0, 1016) := by rfl
theorem M27 : pMq[27]? = some ((⟨"java/lang/StringUTF16", "charAt", "([BI)C"⟩, 15, 2, some .char, 2, 1), 3111, 3110, 0, 1018) := by rfl
theorem M48 : pMq[48]? = some ((⟨"java/lang/StringUTF16", "checkBoundsBeginEnd", "(II[B)V"⟩, 15, 3, none, 3, 1), 3201, 3200, 0, 1018) := by rfl
theorem M28 : pMq[28]? = some ((⟨"java/lang/StringUTF16", "checkIndex", "(I[B)V"⟩, 15, 2, none, 2, 1), 3114, 3113, 0, 1018) := by rfl
theorem M30 : pMq[30]? = some ((⟨"java/lang/StringUTF16", "getChar", "([BI)C"⟩, 15, 2, some .char, 2, 1), 3121, 3120, 0, 1018) := by rfl
theorem M51 : pMq[51]? = some ((⟨"java/lang/StringUTF16", "indexOfCharUnsafe", "([BIII)I"⟩, 15, 5, some .int, 4, 1), 3210, 3209, 0, 1018) := by rfl
theorem M47 : pMq[47]? = some ((⟨"java/lang/StringUTF16", "indexOfChar", "([BIII)I"⟩, 15, 4, some .int, 4, 1), 3198, 3197, 0, 1018) := by rfl
theorem M52 : pMq[52]? = some ((⟨"java/lang/StringUTF16", "indexOfSupplementary", "([BIII)I"⟩, 15, 7, some .int, 4, 1), 3213, 3212, 0, 1018) := by rfl
theorem M46 : pMq[46]? = some ((⟨"java/lang/StringUTF16", "indexOf", "([BIII)I"⟩, 15, 4, some .int, 4, 1), 3192, 3191, 0, 1018) := by rfl
theorem M29 : pMq[29]? = some ((⟨"java/lang/StringUTF16", "length", "([B)I"⟩, 15, 1, some .int, 1, 1), 3117, 3116, 0, 1018) := by rfl
theorem M50 : pMq[50]? = some ((⟨"jdk/internal/util/Preconditions", "checkFromToIndex", "(IIILjava/util/function/BiFunction;)I"⟩, 17, 4, some .int, 4, 1), 3207, 3206, 0, 1017) := by rfl
theorem M26 : pMq[26]? = some ((⟨"jdk/internal/util/Preconditions", "checkIndex", "(IILjava/util/function/BiFunction;)I"⟩, 17, 3, some .int, 3, 1), 3108, 3107, 0, 1017) := by rfl
theorem M177 : pMq[177]? = some ((⟨"java/util/Arrays", "copyOf", "([JI)[J"⟩, 16, 3, some (.array .long), 2, 1), 6016, 6015, 0, 1015) := by rfl
theorem M21 : pMq[21]? = some ((⟨"java/util/Arrays", "fill", "([II)V"⟩, 16, 4, none, 2, 1), 3089, 3088, 0, 1015) := by rfl
theorem M172 : pMq[172]? = some ((⟨"java/util/Arrays", "fill", "([JIIJ)V"⟩, 16, 6, none, 4, 1), 5235, 5234, 0, 1015) := by rfl
theorem M173 : pMq[173]? = some ((⟨"java/util/Arrays", "rangeCheck", "(III)V"⟩, 16, 3, none, 3, 1), 5238, 5237, 0, 1015) := by rfl
theorem M114 : pMq[114]? = some ((⟨"ClassHouse$Checker", "areParametersFine", "(I)Z"⟩, 0, 4, some .boolean, 1, 0), 4229, 4228, 49, 1008) := by rfl
theorem M106 : pMq[106]? = some ((⟨"ClassHouse$Checker", "badClass", "()I"⟩, 0, 3, some .int, 0, 0), 4196, 4195, 44, 1008) := by rfl
theorem M112 : pMq[112]? = some ((⟨"ClassHouse$Checker", "badMember", "()I"⟩, 0, 4, some .int, 0, 0), 4221, 4220, 47, 1008) := by rfl
theorem M105 : pMq[105]? = some ((⟨"ClassHouse$Checker", "check", "(I)I"⟩, 0, 3, some .int, 1, 0), 4192, 4190, 4191, 1008) := by rfl
theorem M124 : pMq[124]? = some ((⟨"ClassHouse$Checker", "hasMain", "()Z"⟩, 0, 3, some .boolean, 0, 0), 5031, 5030, 54, 1008) := by rfl
theorem M119 : pMq[119]? = some ((⟨"ClassHouse$Checker", "haveSameTypes", "(II)Z"⟩, 0, 4, some .boolean, 2, 0), 5010, 5009, 50, 1008) := by rfl
theorem M120 : pMq[120]? = some ((⟨"ClassHouse$Checker", "isFieldFine", "(II)Z"⟩, 0, 4, some .boolean, 2, 0), 5014, 5013, 51, 1008) := by rfl
theorem M113 : pMq[113]? = some ((⟨"ClassHouse$Checker", "isMethodFine", "(II)Z"⟩, 0, 5, some .boolean, 2, 0), 4225, 4224, 48, 1008) := by rfl
theorem M108 : pMq[108]? = some ((⟨"ClassHouse$Checker", "isOnOwnWay", "(I)Z"⟩, 0, 4, some .boolean, 1, 0), 4204, 4203, 45, 1008) := by rfl
theorem M33 : pMq[33]? = some ((⟨"ClassHouse$Words", "addLetter", "(I)V"⟩, 10, 2, none, 1, 0), 3139, 3138, 4, 1002) := by rfl
theorem M38 : pMq[38]? = some ((⟨"ClassHouse$Words", "addWord", "(III)V"⟩, 10, 4, none, 3, 0), 3157, 3156, 7, 1002) := by rfl
theorem M32 : pMq[32]? = some ((⟨"ClassHouse$Words", "hasLetters", "(II)Z"⟩, 10, 5, some .boolean, 2, 0), 3135, 3134, 3, 1002) := by rfl
theorem M37 : pMq[37]? = some ((⟨"ClassHouse$Words", "isDigit", "(I)Z"⟩, 10, 1, some .boolean, 1, 1), 3153, 3152, 0, 1002) := by rfl
theorem M35 : pMq[35]? = some ((⟨"ClassHouse$Words", "isLetter", "(I)Z"⟩, 10, 1, some .boolean, 1, 1), 3146, 3145, 0, 1002) := by rfl
theorem M20 : pMq[20]? = some ((⟨"ClassHouse$Words", "nameFixedWords", "()V"⟩, 10, 4, none, 0, 0), 3086, 3085, 1, 1002) := by rfl
theorem M31 : pMq[31]? = some ((⟨"ClassHouse$Words", "nameOfLetters", "(I)I"⟩, 10, 5, some .int, 1, 0), 3131, 3130, 2, 1002) := by rfl
theorem M40 : pMq[40]? = some ((⟨"ClassHouse$Words", "signOfTwo", "(II)I"⟩, 10, 2, some .int, 2, 1), 3164, 3163, 0, 1002) := by rfl
theorem M19 : pMq[19]? = some ((⟨"ClassHouse$Words", "split", "([II)V"⟩, 10, 5, none, 2, 0), 3082, 3080, 3081, 1002) := by rfl
theorem M36 : pMq[36]? = some ((⟨"ClassHouse$Words", "takeName", "([III)I"⟩, 10, 7, some .int, 3, 0), 3150, 3149, 6, 1002) := by rfl
theorem M39 : pMq[39]? = some ((⟨"ClassHouse$Words", "takeNumber", "([III)I"⟩, 10, 6, some .int, 3, 0), 3161, 3160, 8, 1002) := by rfl
theorem M34 : pMq[34]? = some ((⟨"ClassHouse$Words", "takeWord", "([III)I"⟩, 10, 6, some .int, 3, 0), 3143, 3142, 5, 1002) := by rfl
theorem M226 : pMq[226]? = some ((⟨"ClassHouse", "count", "(I)I"⟩, 11, 2, some .int, 1, 0), 6230, 6228, 6229, 1001) := by rfl
theorem M16 : pMq[16]? = some ((⟨"ClassHouse", "end", "(I)I"⟩, 11, 2, some .int, 1, 0), 3070, 3068, 3069, 1001) := by rfl
theorem M14 : pMq[14]? = some ((⟨"ClassHouse", "feed", "(IIIII)I"⟩, 11, 6, some .int, 5, 0), 3062, 3060, 3061, 1001) := by rfl
theorem M164 : pMq[164]? = some ((⟨"ClassHouse", "heap", "(I)I"⟩, 11, 2, some .int, 1, 0), 5199, 5197, 5198, 1001) := by rfl
theorem M165 : pMq[165]? = some ((⟨"ClassHouse", "input", "(III)I"⟩, 11, 4, some .int, 3, 0), 5203, 5201, 5202, 1001) := by rfl
theorem M224 : pMq[224]? = some ((⟨"ClassHouse", "output", "(I)I"⟩, 11, 2, some .int, 1, 0), 6222, 6220, 6221, 1001) := by rfl
theorem M17 : pMq[17]? = some ((⟨"ClassHouse", "program", "()I"⟩, 11, 4, some .int, 0, 0), 3074, 3072, 3073, 1001) := by rfl
theorem M15 : pMq[15]? = some ((⟨"ClassHouse", "putFour", "(I)V"⟩, 11, 3, none, 1, 0), 3066, 3065, 0, 1001) := by rfl
theorem M223 : pMq[223]? = some ((⟨"ClassHouse", "result", "()I"⟩, 11, 1, some .int, 0, 0), 6218, 6216, 6217, 1001) := by rfl
theorem M168 : pMq[168]? = some ((⟨"ClassHouse", "start", "()I"⟩, 11, 1, some .int, 0, 0), 5215, 5213, 5214, 1001) := by rfl
theorem M185 : pMq[185]? = some ((⟨"ClassHouse", "step", "(I)I"⟩, 11, 2, some .int, 1, 0), 6058, 6056, 6057, 1001) := by rfl
theorem M281 : pMq[281]? = some ((⟨"ClassHouseModel", "addVariable", "(IIZ)V"⟩, 12, 4, none, 3, 0), 9069, 9068, 156, 1014) := by rfl
theorem M300 : pMq[300]? = some ((⟨"ClassHouseModel", "backSets", "(I)V"⟩, 12, 3, none, 1, 0), 9144, 9143, 174, 1014) := by rfl
theorem M310 : pMq[310]? = some ((⟨"ClassHouseModel", "begin", "(IIII)V"⟩, 12, 7, none, 4, 0), 9187, 9186, 179, 1014) := by rfl
theorem M317 : pMq[317]? = some ((⟨"ClassHouseModel", "begins", "(I)V"⟩, 12, 4, none, 1, 0), 9215, 9214, 186, 1014) := by rfl
theorem M256 : pMq[256]? = some ((⟨"ClassHouseModel", "begun", "(I)I"⟩, 12, 3, some .int, 1, 0), 8207, 8206, 131, 1014) := by rfl
theorem M253 : pMq[253]? = some ((⟨"ClassHouseModel", "block", "()I"⟩, 12, 4, some .int, 0, 0), 8195, 8194, 128, 1014) := by rfl
theorem M258 : pMq[258]? = some ((⟨"ClassHouseModel", "both", "()I"⟩, 12, 3, some .int, 0, 0), 8215, 8214, 133, 1014) := by rfl
theorem M234 : pMq[234]? = some ((⟨"ClassHouseModel", "byteAt", "(I)I"⟩, 12, 2, some .int, 1, 0), 8117, 8116, 113, 1014) := by rfl
theorem M290 : pMq[290]? = some ((⟨"ClassHouseModel", "call", "(II)I"⟩, 12, 8, some .int, 2, 0), 9105, 9104, 165, 1014) := by rfl
theorem M267 : pMq[267]? = some ((⟨"ClassHouseModel", "called", "(III)I"⟩, 12, 9, some .int, 3, 0), 9011, 9010, 142, 1014) := by rfl
theorem M333 : pMq[333]? = some ((⟨"ClassHouseModel", "calls", "(I)V"⟩, 12, 7, none, 1, 0), 10040, 10039, 201, 1014) := by rfl
theorem M264 : pMq[264]? = some ((⟨"ClassHouseModel", "chain", "()I"⟩, 12, 4, some .int, 0, 0), 8239, 8238, 139, 1014) := by rfl
theorem M282 : pMq[282]? = some ((⟨"ClassHouseModel", "checkBlock", "(II)V"⟩, 12, 5, none, 2, 0), 9073, 9072, 157, 1014) := by rfl
theorem M271 : pMq[271]? = some ((⟨"ClassHouseModel", "checkClasses", "()V"⟩, 12, 4, none, 0, 0), 9029, 9028, 146, 1014) := by rfl
theorem M298 : pMq[298]? = some ((⟨"ClassHouseModel", "checkIf", "(II)V"⟩, 12, 5, none, 2, 0), 9136, 9135, 172, 1014) := by rfl
theorem M274 : pMq[274]? = some ((⟨"ClassHouseModel", "checkMembers", "()V"⟩, 12, 4, none, 0, 0), 9041, 9040, 149, 1014) := by rfl
theorem M280 : pMq[280]? = some ((⟨"ClassHouseModel", "checkMethod", "(II)V"⟩, 12, 4, none, 2, 0), 9065, 9064, 155, 1014) := by rfl
theorem M285 : pMq[285]? = some ((⟨"ClassHouseModel", "checkNode", "(II)Z"⟩, 12, 8, some .boolean, 2, 0), 9085, 9084, 160, 1014) := by rfl
theorem M284 : pMq[284]? = some ((⟨"ClassHouseModel", "checkNodes", "(III)Z"⟩, 12, 6, some .boolean, 3, 0), 9081, 9080, 159, 1014) := by rfl
theorem M283 : pMq[283]? = some ((⟨"ClassHouseModel", "checkOne", "(II)V"⟩, 12, 8, none, 2, 0), 9077, 9076, 158, 1014) := by rfl
theorem M297 : pMq[297]? = some ((⟨"ClassHouseModel", "checkPlace", "(II)Z"⟩, 12, 4, some .boolean, 2, 0), 9132, 9131, 171, 1014) := by rfl
theorem M303 : pMq[303]? = some ((⟨"ClassHouseModel", "checkTry", "(II)V"⟩, 12, 6, none, 2, 0), 9156, 9155, 177, 1014) := by rfl
theorem M302 : pMq[302]? = some ((⟨"ClassHouseModel", "checkWhile", "(II)V"⟩, 12, 4, none, 2, 0), 9152, 9151, 176, 1014) := by rfl
theorem M272 : pMq[272]? = some ((⟨"ClassHouseModel", "classOf", "(I)I"⟩, 12, 3, some .int, 1, 0), 9033, 9032, 147, 1014) := by rfl
theorem M252 : pMq[252]? = some ((⟨"ClassHouseModel", "closes", "(I)V"⟩, 12, 2, none, 1, 0), 8191, 8190, 127, 1014) := by rfl
theorem M293 : pMq[293]? = some ((⟨"ClassHouseModel", "compared", "(III)I"⟩, 12, 5, some .int, 3, 0), 9117, 9116, 168, 1014) := by rfl
theorem M341 : pMq[341]? = some ((⟨"ClassHouseModel", "count", "(I)I"⟩, 12, 2, some .int, 1, 0), 10072, 10070, 10071, 1014) := by rfl
theorem M336 : pMq[336]? = some ((⟨"ClassHouseModel", "done", "(I)V"⟩, 12, 4, none, 1, 0), 10051, 10050, 203, 1014) := by rfl
theorem M305 : pMq[305]? = some ((⟨"ClassHouseModel", "end", "(I)I"⟩, 12, 2, some .int, 1, 0), 9164, 9162, 9163, 1014) := by rfl
theorem M328 : pMq[328]? = some ((⟨"ClassHouseModel", "ends", "(I)V"⟩, 12, 2, none, 1, 0), 10020, 10019, 196, 1014) := by rfl
theorem M259 : pMq[259]? = some ((⟨"ClassHouseModel", "equal", "()I"⟩, 12, 2, some .int, 0, 0), 8219, 8218, 134, 1014) := by rfl
theorem M257 : pMq[257]? = some ((⟨"ClassHouseModel", "expression", "()I"⟩, 12, 3, some .int, 0, 0), 8211, 8210, 132, 1014) := by rfl
theorem M244 : pMq[244]? = some ((⟨"ClassHouseModel", "fails", "(I)I"⟩, 12, 2, some .int, 1, 0), 8159, 8158, 119, 1014) := by rfl
theorem M330 : pMq[330]? = some ((⟨"ClassHouseModel", "faults", "(I)V"⟩, 12, 2, none, 1, 0), 10028, 10027, 198, 1014) := by rfl
theorem M304 : pMq[304]? = some ((⟨"ClassHouseModel", "feed", "(IIIII)I"⟩, 12, 8, some .int, 5, 0), 9160, 9158, 9159, 1014) := by rfl
theorem M289 : pMq[289]? = some ((⟨"ClassHouseModel", "field", "(II)I"⟩, 12, 5, some .int, 2, 0), 9101, 9100, 164, 1014) := by rfl
theorem M265 : pMq[265]? = some ((⟨"ClassHouseModel", "first", "()I"⟩, 12, 3, some .int, 0, 0), 9003, 9002, 140, 1014) := by rfl
theorem M335 : pMq[335]? = some ((⟨"ClassHouseModel", "half", "(I)V"⟩, 12, 3, none, 1, 0), 10047, 10046, 202, 1014) := by rfl
theorem M323 : pMq[323]? = some ((⟨"ClassHouseModel", "hasRoom", "(I)Z"⟩, 12, 2, some .boolean, 1, 0), 10000, 9239, 191, 1014) := by rfl
theorem M306 : pMq[306]? = some ((⟨"ClassHouseModel", "heap", "(I)I"⟩, 12, 2, some .int, 1, 0), 9168, 9166, 9167, 1014) := by rfl
theorem M269 : pMq[269]? = some ((⟨"ClassHouseModel", "inParentheses", "()I"⟩, 12, 2, some .int, 0, 0), 9021, 9020, 144, 1014) := by rfl
theorem M307 : pMq[307]? = some ((⟨"ClassHouseModel", "input", "(III)I"⟩, 12, 4, some .int, 3, 0), 9174, 9172, 9173, 1014) := by rfl
theorem M273 : pMq[273]? = some ((⟨"ClassHouseModel", "isBad", "(I)V"⟩, 12, 2, none, 1, 0), 9037, 9036, 148, 1014) := by rfl
theorem M237 : pMq[237]? = some ((⟨"ClassHouseModel", "isDigit", "(I)Z"⟩, 12, 1, some .boolean, 1, 1), 8130, 8129, 0, 1014) := by rfl
theorem M278 : pMq[278]? = some ((⟨"ClassHouseModel", "isField", "(II)Z"⟩, 12, 4, some .boolean, 2, 0), 9057, 9056, 153, 1014) := by rfl
theorem M236 : pMq[236]? = some ((⟨"ClassHouseModel", "isIn", "(JJJ)Z"⟩, 12, 6, some .boolean, 3, 1), 8125, 8124, 0, 1014) := by rfl
theorem M242 : pMq[242]? = some ((⟨"ClassHouseModel", "isKey", "(I)Z"⟩, 12, 2, some .boolean, 1, 0), 8151, 8150, 117, 1014) := by rfl
theorem M315 : pMq[315]? = some ((⟨"ClassHouseModel", "isLeaf", "(I)Z"⟩, 12, 2, some .boolean, 1, 0), 9207, 9206, 184, 1014) := by rfl
theorem M235 : pMq[235]? = some ((⟨"ClassHouseModel", "isLetter", "(I)Z"⟩, 12, 1, some .boolean, 1, 1), 8120, 8119, 0, 1014) := by rfl
theorem M255 : pMq[255]? = some ((⟨"ClassHouseModel", "isNameAhead", "()Z"⟩, 12, 8, some .boolean, 0, 0), 8203, 8202, 130, 1014) := by rfl
theorem M294 : pMq[294]? = some ((⟨"ClassHouseModel", "isObject", "(I)Z"⟩, 12, 1, some .boolean, 1, 1), 9120, 9119, 0, 1014) := by rfl
theorem M332 : pMq[332]? = some ((⟨"ClassHouseModel", "isPlace", "(II)Z"⟩, 12, 3, some .boolean, 2, 0), 10036, 10035, 200, 1014) := by rfl
theorem M296 : pMq[296]? = some ((⟨"ClassHouseModel", "isPlain", "(I)Z"⟩, 12, 2, some .boolean, 1, 0), 9128, 9127, 170, 1014) := by rfl
theorem M276 : pMq[276]? = some ((⟨"ClassHouseModel", "isRightMethod", "(II)Z"⟩, 12, 7, some .boolean, 2, 0), 9049, 9048, 151, 1014) := by rfl
theorem M247 : pMq[247]? = some ((⟨"ClassHouseModel", "isSign", "(I)Z"⟩, 12, 2, some .boolean, 1, 0), 8171, 8170, 122, 1014) := by rfl
theorem M241 : pMq[241]? = some ((⟨"ClassHouseModel", "isSignByte", "(I)Z"⟩, 12, 1, some .boolean, 1, 1), 8147, 8146, 0, 1014) := by rfl
theorem M314 : pMq[314]? = some ((⟨"ClassHouseModel", "isStep", "()Z"⟩, 12, 2, some .boolean, 0, 0), 9203, 9202, 183, 1014) := by rfl
theorem M291 : pMq[291]? = some ((⟨"ClassHouseModel", "isSub", "(II)Z"⟩, 12, 3, some .boolean, 2, 0), 9109, 9108, 166, 1014) := by rfl
theorem M239 : pMq[239]? = some ((⟨"ClassHouseModel", "isText", "(IIIIII)Z"⟩, 12, 9, some .boolean, 6, 0), 8140, 8139, 115, 1014) := by rfl
theorem M251 : pMq[251]? = some ((⟨"ClassHouseModel", "isType", "()Z"⟩, 12, 1, some .boolean, 0, 0), 8187, 8186, 126, 1014) := by rfl
theorem M292 : pMq[292]? = some ((⟨"ClassHouseModel", "isUnder", "(II)Z"⟩, 12, 4, some .boolean, 2, 0), 9113, 9112, 167, 1014) := by rfl
theorem M301 : pMq[301]? = some ((⟨"ClassHouseModel", "joinSets", "(IZ)V"⟩, 12, 4, none, 2, 0), 9148, 9147, 175, 1014) := by rfl
theorem M299 : pMq[299]? = some ((⟨"ClassHouseModel", "keepSets", "(I)V"⟩, 12, 3, none, 1, 0), 9140, 9139, 173, 1014) := by rfl
theorem M238 : pMq[238]? = some ((⟨"ClassHouseModel", "keyOf", "()I"⟩, 12, 1, some .int, 0, 0), 8136, 8135, 114, 1014) := by rfl
theorem M232 : pMq[232]? = some ((⟨"ClassHouseModel", "knownNames", "()V"⟩, 12, 5, none, 0, 0), 8109, 8108, 111, 1014) := by rfl
theorem M320 : pMq[320]? = some ((⟨"ClassHouseModel", "leaf", "(I)V"⟩, 12, 4, none, 1, 0), 9228, 9227, 188, 1014) := by rfl
theorem M324 : pMq[324]? = some ((⟨"ClassHouseModel", "marked", "()I"⟩, 12, 4, some .int, 0, 0), 10004, 10003, 192, 1014) := by rfl
theorem M275 : pMq[275]? = some ((⟨"ClassHouseModel", "meant", "(I)I"⟩, 12, 3, some .int, 1, 0), 9045, 9044, 150, 1014) := by rfl
theorem M288 : pMq[288]? = some ((⟨"ClassHouseModel", "meantClass", "(I)I"⟩, 12, 3, some .int, 1, 0), 9097, 9096, 163, 1014) := by rfl
theorem M249 : pMq[249]? = some ((⟨"ClassHouseModel", "member", "()V"⟩, 12, 4, none, 0, 0), 8179, 8178, 124, 1014) := by rfl
theorem M277 : pMq[277]? = some ((⟨"ClassHouseModel", "memberOf", "(IIZ)I"⟩, 12, 6, some .int, 3, 0), 9053, 9052, 152, 1014) := by rfl
theorem M327 : pMq[327]? = some ((⟨"ClassHouseModel", "moved", "(I)I"⟩, 12, 2, some .int, 1, 0), 10016, 10015, 195, 1014) := by rfl
theorem M246 : pMq[246]? = some ((⟨"ClassHouseModel", "name", "()I"⟩, 12, 2, some .int, 0, 0), 8167, 8166, 121, 1014) := by rfl
theorem M240 : pMq[240]? = some ((⟨"ClassHouseModel", "nameOf", "()I"⟩, 12, 4, some .int, 0, 0), 8144, 8143, 116, 1014) := by rfl
theorem M286 : pMq[286]? = some ((⟨"ClassHouseModel", "named", "(II)I"⟩, 12, 5, some .int, 2, 0), 9089, 9088, 161, 1014) := by rfl
theorem M233 : pMq[233]? = some ((⟨"ClassHouseModel", "next", "()V"⟩, 12, 4, none, 0, 0), 8113, 8112, 112, 1014) := by rfl
theorem M322 : pMq[322]? = some ((⟨"ClassHouseModel", "nextInput", "()I"⟩, 12, 3, some .int, 0, 0), 9236, 9235, 190, 1014) := by rfl
theorem M266 : pMq[266]? = some ((⟨"ClassHouseModel", "node", "(IIII)I"⟩, 12, 5, some .int, 4, 0), 9007, 9006, 141, 1014) := by rfl
theorem M309 : pMq[309]? = some ((⟨"ClassHouseModel", "object", "(II)I"⟩, 12, 6, some .int, 2, 0), 9183, 9182, 178, 1014) := by rfl
theorem M248 : pMq[248]? = some ((⟨"ClassHouseModel", "opens", "(Z)Z"⟩, 12, 3, some .boolean, 1, 0), 8175, 8174, 123, 1014) := by rfl
theorem M340 : pMq[340]? = some ((⟨"ClassHouseModel", "output", "(I)I"⟩, 12, 2, some .int, 1, 0), 10067, 10065, 10066, 1014) := by rfl
theorem M243 : pMq[243]? = some ((⟨"ClassHouseModel", "passes", "(Z)Z"⟩, 12, 3, some .boolean, 1, 0), 8155, 8154, 118, 1014) := by rfl
theorem M270 : pMq[270]? = some ((⟨"ClassHouseModel", "placed", "()I"⟩, 12, 4, some .int, 0, 0), 9025, 9024, 145, 1014) := by rfl
theorem M262 : pMq[262]? = some ((⟨"ClassHouseModel", "product", "()I"⟩, 12, 2, some .int, 0, 0), 8231, 8230, 137, 1014) := by rfl
theorem M231 : pMq[231]? = some ((⟨"ClassHouseModel", "program", "()I"⟩, 12, 5, some .int, 0, 0), 8105, 8103, 8104, 1014) := by rfl
theorem M321 : pMq[321]? = some ((⟨"ClassHouseModel", "push", "(IZ)V"⟩, 12, 3, none, 2, 0), 9232, 9231, 189, 1014) := by rfl
theorem M325 : pMq[325]? = some ((⟨"ClassHouseModel", "reach", "(I)V"⟩, 12, 2, none, 1, 0), 10008, 10007, 193, 1014) := by rfl
theorem M245 : pMq[245]? = some ((⟨"ClassHouseModel", "readClass", "()V"⟩, 12, 2, none, 0, 0), 8163, 8162, 120, 1014) := by rfl
theorem M260 : pMq[260]? = some ((⟨"ClassHouseModel", "related", "()I"⟩, 12, 3, some .int, 0, 0), 8223, 8222, 135, 1014) := by rfl
theorem M339 : pMq[339]? = some ((⟨"ClassHouseModel", "result", "()I"⟩, 12, 1, some .int, 0, 0), 10063, 10061, 10062, 1014) := by rfl
theorem M337 : pMq[337]? = some ((⟨"ClassHouseModel", "returns", "(I)V"⟩, 12, 5, none, 1, 0), 10055, 10054, 204, 1014) := by rfl
theorem M311 : pMq[311]? = some ((⟨"ClassHouseModel", "setLocal", "(IIIZ)V"⟩, 12, 5, none, 4, 0), 9191, 9190, 180, 1014) := by rfl
theorem M279 : pMq[279]? = some ((⟨"ClassHouseModel", "setSlots", "(I)I"⟩, 12, 5, some .int, 1, 0), 9061, 9060, 154, 1014) := by rfl
theorem M338 : pMq[338]? = some ((⟨"ClassHouseModel", "sets", "(I)V"⟩, 12, 8, none, 1, 0), 10059, 10058, 205, 1014) := by rfl
theorem M313 : pMq[313]? = some ((⟨"ClassHouseModel", "settle", "()V"⟩, 12, 2, none, 0, 0), 9199, 9198, 182, 1014) := by rfl
theorem M268 : pMq[268]? = some ((⟨"ClassHouseModel", "signed", "(I)I"⟩, 12, 4, some .int, 1, 0), 9017, 9016, 143, 1014) := by rfl
theorem M263 : pMq[263]? = some ((⟨"ClassHouseModel", "single", "()I"⟩, 12, 3, some .int, 0, 0), 8235, 8234, 138, 1014) := by rfl
theorem M308 : pMq[308]? = some ((⟨"ClassHouseModel", "start", "()I"⟩, 12, 3, some .int, 0, 0), 9178, 9176, 9177, 1014) := by rfl
theorem M254 : pMq[254]? = some ((⟨"ClassHouseModel", "statement", "()I"⟩, 12, 4, some .int, 0, 0), 8199, 8198, 129, 1014) := by rfl
theorem M318 : pMq[318]? = some ((⟨"ClassHouseModel", "step", "(I)I"⟩, 12, 3, some .int, 1, 0), 9219, 9217, 9218, 1014) := by rfl
theorem M319 : pMq[319]? = some ((⟨"ClassHouseModel", "stepOnce", "()V"⟩, 12, 2, none, 0, 0), 9224, 9223, 187, 1014) := by rfl
theorem M261 : pMq[261]? = some ((⟨"ClassHouseModel", "sum", "()I"⟩, 12, 2, some .int, 0, 0), 8227, 8226, 136, 1014) := by rfl
theorem M326 : pMq[326]? = some ((⟨"ClassHouseModel", "sweep", "()V"⟩, 12, 8, none, 0, 0), 10012, 10011, 194, 1014) := by rfl
theorem M230 : pMq[230]? = some ((⟨"ClassHouseModel", "text", "(IIIIIII)V"⟩, 12, 8, none, 7, 0), 7013, 7012, 110, 1014) := by rfl
theorem M331 : pMq[331]? = some ((⟨"ClassHouseModel", "throwsObject", "(I)V"⟩, 12, 5, none, 1, 0), 10032, 10031, 199, 1014) := by rfl
theorem M312 : pMq[312]? = some ((⟨"ClassHouseModel", "todo", "(II)V"⟩, 12, 3, none, 2, 0), 9195, 9194, 181, 1014) := by rfl
theorem M250 : pMq[250]? = some ((⟨"ClassHouseModel", "type", "()I"⟩, 12, 3, some .int, 0, 0), 8183, 8182, 125, 1014) := by rfl
theorem M295 : pMq[295]? = some ((⟨"ClassHouseModel", "typeOfValue", "(I)I"⟩, 12, 2, some .int, 1, 0), 9124, 9123, 169, 1014) := by rfl
theorem M316 : pMq[316]? = some ((⟨"ClassHouseModel", "unfold", "(I)V"⟩, 12, 4, none, 1, 0), 9211, 9210, 185, 1014) := by rfl
theorem M287 : pMq[287]? = some ((⟨"ClassHouseModel", "variableOf", "(I)I"⟩, 12, 3, some .int, 1, 0), 9093, 9092, 162, 1014) := by rfl
theorem M329 : pMq[329]? = some ((⟨"ClassHouseModel", "work", "(I)V"⟩, 12, 5, none, 1, 0), 10024, 10023, 197, 1014) := by rfl
theorem M334 : pMq[334]? = some ((⟨"ClassHouseModel", "worked", "(III)I"⟩, 12, 3, some .int, 3, 1), 10043, 10042, 0, 1014) := by rfl
theorem M56 : pMq[56]? = some ((⟨"ClassHouse$Classes", "add", "(IIII)V"⟩, 1, 5, none, 4, 0), 4000, 3238, 3239, 1004) := by rfl
theorem M55 : pMq[55]? = some ((⟨"ClassHouse$Classes", "clear", "()V"⟩, 1, 2, none, 0, 0), 3236, 3234, 3235, 1004) := by rfl
theorem M104 : pMq[104]? = some ((⟨"ClassHouse$Classes", "closeLast", "(I)V"⟩, 1, 2, none, 1, 0), 4188, 4186, 4187, 1004) := by rfl
theorem M107 : pMq[107]? = some ((⟨"ClassHouse$Classes", "find", "(I)I"⟩, 1, 3, some .int, 1, 0), 4200, 4198, 4199, 1004) := by rfl
theorem M146 : pMq[146]? = some ((⟨"ClassHouse$Classes", "isSub", "(II)Z"⟩, 1, 5, some .boolean, 2, 0), 5123, 5121, 5122, 1004) := by rfl
theorem M109 : pMq[109]? = some ((⟨"ClassHouse$Classes", "parentOf", "(I)I"⟩, 1, 2, some .int, 1, 0), 4208, 4206, 4207, 1004) := by rfl
theorem M163 : pMq[163]? = some ((⟨"ClassHouse$Classes", "told", "()I"⟩, 1, 1, some .int, 0, 0), 5195, 5193, 5194, 1004) := by rfl
theorem M58 : pMq[58]? = some ((⟨"ClassHouse$Code", "clear", "()V"⟩, 2, 1, none, 0, 0), 4008, 4006, 4007, 1006) := by rfl
theorem M81 : pMq[81]? = some ((⟨"ClassHouse$Code", "emit", "(III)I"⟩, 2, 4, some .int, 3, 0), 4101, 4099, 4100, 1006) := by rfl
theorem M180 : pMq[180]? = some ((⟨"ClassHouse$Code", "has", "(I)Z"⟩, 2, 2, some .boolean, 1, 0), 6038, 6036, 6037, 1006) := by rfl
theorem M179 : pMq[179]? = some ((⟨"ClassHouse$Code", "isSilent", "(I)Z"⟩, 2, 2, some .boolean, 1, 0), 6034, 6032, 6033, 1006) := by rfl
theorem M101 : pMq[101]? = some ((⟨"ClassHouse$Code", "lastOp", "(I)I"⟩, 2, 2, some .int, 1, 0), 4177, 4175, 4176, 1006) := by rfl
theorem M103 : pMq[103]? = some ((⟨"ClassHouse$Code", "takeBackLast", "()I"⟩, 2, 1, some .int, 0, 0), 4184, 4182, 4183, 1006) := by rfl
theorem M191 : pMq[191]? = some ((⟨"ClassHouse$Heap", "at", "(JI)J"⟩, 3, 4, some .long, 2, 0), 6083, 6081, 6082, 1013) := by rfl
theorem M199 : pMq[199]? = some ((⟨"ClassHouse$Heap", "beginMoving", "()V"⟩, 3, 2, none, 0, 0), 6115, 6113, 6114, 1013) := by rfl
theorem M197 : pMq[197]? = some ((⟨"ClassHouse$Heap", "cellsUsed", "()I"⟩, 3, 1, some .int, 0, 0), 6107, 6105, 6106, 1013) := by rfl
theorem M210 : pMq[210]? = some ((⟨"ClassHouse$Heap", "classOf", "(J)I"⟩, 3, 4, some .int, 1, 0), 6165, 6163, 6164, 1013) := by rfl
theorem M170 : pMq[170]? = some ((⟨"ClassHouse$Heap", "clear", "(I)V"⟩, 3, 2, none, 1, 0), 5227, 5225, 5226, 1013) := by rfl
theorem M195 : pMq[195]? = some ((⟨"ClassHouse$Heap", "faultObject", "(I)J"⟩, 3, 1, some .long, 1, 1), 6098, 6097, 0, 1013) := by rfl
theorem M201 : pMq[201]? = some ((⟨"ClassHouse$Heap", "finishMoving", "()V"⟩, 3, 5, none, 0, 0), 6125, 6123, 6124, 1013) := by rfl
theorem M192 : pMq[192]? = some ((⟨"ClassHouse$Heap", "has", "(JI)Z"⟩, 3, 4, some .boolean, 2, 0), 6087, 6085, 6086, 1013) := by rfl
theorem M196 : pMq[196]? = some ((⟨"ClassHouse$Heap", "hasRoom", "(J)Z"⟩, 3, 3, some .boolean, 1, 0), 6103, 6101, 6102, 1013) := by rfl
theorem M193 : pMq[193]? = some ((⟨"ClassHouse$Heap", "lengthOf", "(J)I"⟩, 3, 4, some .int, 1, 0), 6091, 6089, 6090, 1013) := by rfl
theorem M171 : pMq[171]? = some ((⟨"ClassHouse$Heap", "makeObject", "(II)J"⟩, 3, 4, some .long, 2, 0), 5232, 5230, 5231, 1013) := by rfl
theorem M200 : pMq[200]? = some ((⟨"ClassHouse$Heap", "moved", "(J)J"⟩, 3, 7, some .long, 1, 0), 6119, 6117, 6118, 1013) := by rfl
theorem M189 : pMq[189]? = some ((⟨"ClassHouse$Heap", "number", "(I)J"⟩, 3, 1, some .long, 1, 1), 6074, 6073, 0, 1013) := by rfl
theorem M217 : pMq[217]? = some ((⟨"ClassHouse$Heap", "put", "(JIJ)V"⟩, 3, 6, none, 3, 0), 6194, 6192, 6193, 1013) := by rfl
theorem M167 : pMq[167]? = some ((⟨"ClassHouse$Input", "add", "(I)V"⟩, 4, 2, none, 1, 0), 5211, 5210, 78, 1011) := by rfl
theorem M166 : pMq[166]? = some ((⟨"ClassHouse$Input", "addThree", "(III)I"⟩, 4, 4, some .int, 3, 0), 5207, 5205, 5206, 1011) := by rfl
theorem M190 : pMq[190]? = some ((⟨"ClassHouse$Input", "next", "()I"⟩, 4, 2, some .int, 0, 0), 6079, 6077, 6078, 1011) := by rfl
theorem M187 : pMq[187]? = some ((⟨"ClassHouse$Machine", "act", "()J"⟩, 5, 3, some .long, 0, 0), 6067, 6066, 87, 1012) := by rfl
theorem M215 : pMq[215]? = some ((⟨"ClassHouse$Machine", "actGift", "(IIJ)J"⟩, 5, 5, some .long, 3, 0), 6186, 6185, 103, 1012) := by rfl
theorem M213 : pMq[213]? = some ((⟨"ClassHouse$Machine", "actJoin", "(II)J"⟩, 5, 4, some .long, 2, 0), 6178, 6177, 101, 1012) := by rfl
theorem M202 : pMq[202]? = some ((⟨"ClassHouse$Machine", "actPart", "(II)J"⟩, 5, 3, some .long, 2, 0), 6131, 6130, 91, 1012) := by rfl
theorem M212 : pMq[212]? = some ((⟨"ClassHouse$Machine", "actSign", "(IJ)J"⟩, 5, 8, some .long, 2, 0), 6174, 6173, 100, 1012) := by rfl
theorem M181 : pMq[181]? = some ((⟨"ClassHouse$Machine", "actSilent", "(II)V"⟩, 5, 3, none, 2, 0), 6042, 6041, 83, 1012) := by rfl
theorem M188 : pMq[188]? = some ((⟨"ClassHouse$Machine", "actValue", "(II)J"⟩, 5, 3, some .long, 2, 0), 6071, 6070, 88, 1012) := by rfl
theorem M219 : pMq[219]? = some ((⟨"ClassHouse$Machine", "actWork", "(II)J"⟩, 5, 5, some .long, 2, 0), 6202, 6201, 106, 1012) := by rfl
theorem M169 : pMq[169]? = some ((⟨"ClassHouse$Machine", "begin", "(I)V"⟩, 5, 4, none, 1, 0), 5219, 5217, 5218, 1012) := by rfl
theorem M214 : pMq[214]? = some ((⟨"ClassHouse$Machine", "call", "(II)J"⟩, 5, 6, some .long, 2, 0), 6182, 6181, 102, 1012) := by rfl
theorem M208 : pMq[208]? = some ((⟨"ClassHouse$Machine", "cast", "(JI)J"⟩, 5, 4, some .long, 2, 0), 6157, 6156, 97, 1012) := by rfl
theorem M227 : pMq[227]? = some ((⟨"ClassHouse$Machine", "cellsReached", "()I"⟩, 5, 1, some .int, 0, 0), 6234, 6232, 6233, 1012) := by rfl
theorem M184 : pMq[184]? = some ((⟨"ClassHouse$Machine", "closeMethod", "(J)V"⟩, 5, 3, none, 1, 0), 6054, 6053, 86, 1012) := by rfl
theorem M207 : pMq[207]? = some ((⟨"ClassHouse$Machine", "elementFault", "(IJ)J"⟩, 5, 4, some .long, 2, 0), 6152, 6151, 96, 1012) := by rfl
theorem M18 : pMq[18]? = some ((⟨"ClassHouse$Machine", "forget", "()V"⟩, 5, 1, none, 0, 0), 3078, 3076, 3077, 1012) := by rfl
theorem M218 : pMq[218]? = some ((⟨"ClassHouse$Machine", "giveElement", "(IJJ)J"⟩, 5, 8, some .long, 3, 0), 6198, 6197, 105, 1012) := by rfl
theorem M216 : pMq[216]? = some ((⟨"ClassHouse$Machine", "giveField", "(JIJ)J"⟩, 5, 6, some .long, 3, 0), 6190, 6189, 104, 1012) := by rfl
theorem M176 : pMq[176]? = some ((⟨"ClassHouse$Machine", "growPile", "(I)V"⟩, 5, 2, none, 1, 0), 6011, 6010, 81, 1012) := by rfl
theorem M209 : pMq[209]? = some ((⟨"ClassHouse$Machine", "isOfClass", "(JI)Z"⟩, 5, 4, some .boolean, 2, 0), 6161, 6160, 98, 1012) := by rfl
theorem M222 : pMq[222]? = some ((⟨"ClassHouse$Machine", "land", "(IIJ)V"⟩, 5, 5, none, 3, 0), 6214, 6213, 109, 1012) := by rfl
theorem M194 : pMq[194]? = some ((⟨"ClassHouse$Machine", "make", "(II)J"⟩, 5, 6, some .long, 2, 0), 6095, 6094, 89, 1012) := by rfl
theorem M228 : pMq[228]? = some ((⟨"ClassHouse$Machine", "methodsOpen", "()I"⟩, 5, 1, some .int, 0, 0), 6239, 6237, 6238, 1012) := by rfl
theorem M198 : pMq[198]? = some ((⟨"ClassHouse$Machine", "moveReached", "()V"⟩, 5, 5, none, 0, 0), 6111, 6110, 90, 1012) := by rfl
theorem M175 : pMq[175]? = some ((⟨"ClassHouse$Machine", "openMethod", "(II)V"⟩, 5, 5, none, 2, 0), 6007, 6006, 80, 1012) := by rfl
theorem M182 : pMq[182]? = some ((⟨"ClassHouse$Machine", "pop", "()J"⟩, 5, 1, some .long, 0, 0), 6046, 6045, 84, 1012) := by rfl
theorem M220 : pMq[220]? = some ((⟨"ClassHouse$Machine", "print", "(I)V"⟩, 5, 2, none, 1, 0), 6206, 6205, 107, 1012) := by rfl
theorem M225 : pMq[225]? = some ((⟨"ClassHouse$Machine", "printedAt", "(I)I"⟩, 5, 2, some .int, 1, 0), 6226, 6224, 6225, 1012) := by rfl
theorem M174 : pMq[174]? = some ((⟨"ClassHouse$Machine", "push", "(J)V"⟩, 5, 3, none, 1, 0), 6003, 6002, 79, 1012) := by rfl
theorem M205 : pMq[205]? = some ((⟨"ClassHouse$Machine", "pushNumber", "(I)J"⟩, 5, 2, some .long, 1, 0), 6144, 6143, 94, 1012) := by rfl
theorem M211 : pMq[211]? = some ((⟨"ClassHouse$Machine", "pushTruth", "(Z)J"⟩, 5, 2, some .long, 1, 0), 6170, 6169, 99, 1012) := by rfl
theorem M186 : pMq[186]? = some ((⟨"ClassHouse$Machine", "run", "(I)I"⟩, 5, 5, some .int, 1, 0), 6062, 6060, 6061, 1012) := by rfl
theorem M178 : pMq[178]? = some ((⟨"ClassHouse$Machine", "settle", "()V"⟩, 5, 2, none, 0, 0), 6029, 6028, 82, 1012) := by rfl
theorem M183 : pMq[183]? = some ((⟨"ClassHouse$Machine", "slot", "(I)I"⟩, 5, 2, some .int, 1, 0), 6050, 6049, 85, 1012) := by rfl
theorem M206 : pMq[206]? = some ((⟨"ClassHouse$Machine", "takeElement", "(IJ)J"⟩, 5, 6, some .long, 2, 0), 6148, 6147, 95, 1012) := by rfl
theorem M203 : pMq[203]? = some ((⟨"ClassHouse$Machine", "takeField", "(JI)J"⟩, 5, 4, some .long, 2, 0), 6135, 6134, 92, 1012) := by rfl
theorem M204 : pMq[204]? = some ((⟨"ClassHouse$Machine", "takeLength", "(J)J"⟩, 5, 3, some .long, 1, 0), 6139, 6138, 93, 1012) := by rfl
theorem M221 : pMq[221]? = some ((⟨"ClassHouse$Machine", "throwObject", "(J)V"⟩, 5, 8, none, 1, 0), 6210, 6209, 108, 1012) := by rfl
theorem M66 : pMq[66]? = some ((⟨"ClassHouse$Members", "add", "(IIIZ)V"⟩, 6, 5, none, 4, 0), 4041, 4039, 4040, 1005) := by rfl
theorem M69 : pMq[69]? = some ((⟨"ClassHouse$Members", "addParameter", "(II)V"⟩, 6, 3, none, 2, 0), 4053, 4051, 4052, 1005) := by rfl
theorem M117 : pMq[117]? = some ((⟨"ClassHouse$Members", "among", "(IIZI)I"⟩, 6, 6, some .int, 4, 0), 5001, 4239, 5000, 1005) := by rfl
theorem M57 : pMq[57]? = some ((⟨"ClassHouse$Members", "clear", "()V"⟩, 6, 1, none, 0, 0), 4004, 4002, 4003, 1005) := by rfl
theorem M71 : pMq[71]? = some ((⟨"ClassHouse$Members", "codeOfLast", "(I)V"⟩, 6, 2, none, 1, 0), 4061, 4059, 4060, 1005) := by rfl
theorem M122 : pMq[122]? = some ((⟨"ClassHouse$Members", "fieldsAbove", "(I)I"⟩, 6, 5, some .int, 1, 0), 5022, 5021, 52, 1005) := by rfl
theorem M118 : pMq[118]? = some ((⟨"ClassHouse$Members", "had", "(IZI)I"⟩, 6, 7, some .int, 3, 0), 5005, 5003, 5004, 1005) := by rfl
theorem M121 : pMq[121]? = some ((⟨"ClassHouse$Members", "layOutFields", "()V"⟩, 6, 4, none, 0, 0), 5018, 5016, 5017, 1005) := by rfl
theorem M123 : pMq[123]? = some ((⟨"ClassHouse$Members", "ownFields", "(I)I"⟩, 6, 4, some .int, 1, 0), 5027, 5026, 53, 1005) := by rfl
theorem M116 : pMq[116]? = some ((⟨"ClassHouse$Members", "parameterNameOf", "(II)I"⟩, 6, 4, some .int, 2, 0), 4237, 4235, 4236, 1005) := by rfl
theorem M115 : pMq[115]? = some ((⟨"ClassHouse$Members", "parameterTypeOf", "(II)I"⟩, 6, 4, some .int, 2, 0), 4233, 4231, 4232, 1005) := by rfl
theorem M110 : pMq[110]? = some ((⟨"ClassHouse$Members", "resolveTypes", "()V"⟩, 6, 2, none, 0, 0), 4212, 4210, 4211, 1005) := by rfl
theorem M111 : pMq[111]? = some ((⟨"ClassHouse$Members", "resolved", "(I)I"⟩, 6, 2, some .int, 1, 0), 4216, 4215, 46, 1005) := by rfl
theorem M60 : pMq[60]? = some ((⟨"ClassHouse$Reader", "advance", "()V"⟩, 7, 1, none, 0, 0), 4016, 4015, 11, 1007) := by rfl
theorem M78 : pMq[78]? = some ((⟨"ClassHouse$Reader", "await", "(III)V"⟩, 7, 4, none, 3, 0), 4089, 4088, 26, 1007) := by rfl
theorem M54 : pMq[54]? = some ((⟨"ClassHouse$Reader", "begin", "()V"⟩, 7, 1, none, 0, 0), 3232, 3231, 9, 1007) := by rfl
theorem M70 : pMq[70]? = some ((⟨"ClassHouse$Reader", "close", "(I)V"⟩, 7, 2, none, 1, 0), 4057, 4056, 19, 1007) := by rfl
theorem M61 : pMq[61]? = some ((⟨"ClassHouse$Reader", "fail", "()V"⟩, 7, 1, none, 0, 0), 4020, 4019, 12, 1007) := by rfl
theorem M91 : pMq[91]? = some ((⟨"ClassHouse$Reader", "fits", "(II)Z"⟩, 7, 3, some .boolean, 2, 0), 4138, 4137, 35, 1007) := by rfl
theorem M102 : pMq[102]? = some ((⟨"ClassHouse$Reader", "giftOf", "(I)I"⟩, 7, 1, some .int, 1, 1), 4180, 4179, 0, 1007) := by rfl
theorem M86 : pMq[86]? = some ((⟨"ClassHouse$Reader", "isBehindFirst", "(I)Z"⟩, 7, 1, some .boolean, 1, 1), 4120, 4119, 0, 1007) := by rfl
theorem M90 : pMq[90]? = some ((⟨"ClassHouse$Reader", "leastReleased", "(I)I"⟩, 7, 1, some .int, 1, 1), 4134, 4133, 0, 1007) := by rfl
theorem M89 : pMq[89]? = some ((⟨"ClassHouse$Reader", "levelOf", "(I)I"⟩, 7, 1, some .int, 1, 1), 4131, 4130, 0, 1007) := by rfl
theorem M93 : pMq[93]? = some ((⟨"ClassHouse$Reader", "opOf", "(I)I"⟩, 7, 1, some .int, 1, 1), 4145, 4144, 0, 1007) := by rfl
theorem M64 : pMq[64]? = some ((⟨"ClassHouse$Reader", "open", "(I)V"⟩, 7, 2, none, 1, 0), 4033, 4032, 15, 1007) := by rfl
theorem M53 : pMq[53]? = some ((⟨"ClassHouse$Reader", "read", "()I"⟩, 7, 6, some .int, 0, 0), 3228, 3226, 3227, 1007) := by rfl
theorem M83 : pMq[83]? = some ((⟨"ClassHouse$Reader", "readArguments", "()I"⟩, 7, 3, some .int, 0, 0), 4109, 4108, 30, 1007) := by rfl
theorem M87 : pMq[87]? = some ((⟨"ClassHouse$Reader", "readBehind", "()V"⟩, 7, 4, none, 0, 0), 4124, 4123, 33, 1007) := by rfl
theorem M72 : pMq[72]? = some ((⟨"ClassHouse$Reader", "readBlock", "()I"⟩, 7, 2, some .int, 0, 0), 4065, 4064, 20, 1007) := by rfl
theorem M75 : pMq[75]? = some ((⟨"ClassHouse$Reader", "readBracketed", "()V"⟩, 7, 1, none, 0, 0), 4077, 4076, 23, 1007) := by rfl
theorem M100 : pMq[100]? = some ((⟨"ClassHouse$Reader", "readCallOrGift", "()V"⟩, 7, 5, none, 0, 0), 4173, 4172, 43, 1007) := by rfl
theorem M76 : pMq[76]? = some ((⟨"ClassHouse$Reader", "readExpression", "()V"⟩, 7, 4, none, 0, 0), 4081, 4080, 24, 1007) := by rfl
theorem M79 : pMq[79]? = some ((⟨"ClassHouse$Reader", "readFirst", "()V"⟩, 7, 1, none, 0, 0), 4093, 4092, 27, 1007) := by rfl
theorem M74 : pMq[74]? = some ((⟨"ClassHouse$Reader", "readIf", "()V"⟩, 7, 3, none, 0, 0), 4073, 4072, 22, 1007) := by rfl
theorem M85 : pMq[85]? = some ((⟨"ClassHouse$Reader", "readIndex", "()V"⟩, 7, 1, none, 0, 0), 4117, 4116, 32, 1007) := by rfl
theorem M63 : pMq[63]? = some ((⟨"ClassHouse$Reader", "readMembers", "()V"⟩, 7, 7, none, 0, 0), 4029, 4028, 14, 1007) := by rfl
theorem M82 : pMq[82]? = some ((⟨"ClassHouse$Reader", "readNamed", "()V"⟩, 7, 3, none, 0, 0), 4105, 4104, 29, 1007) := by rfl
theorem M84 : pMq[84]? = some ((⟨"ClassHouse$Reader", "readNew", "()V"⟩, 7, 1, none, 0, 0), 4113, 4112, 31, 1007) := by rfl
theorem M77 : pMq[77]? = some ((⟨"ClassHouse$Reader", "readOne", "()V"⟩, 7, 3, none, 0, 0), 4085, 4084, 25, 1007) := by rfl
theorem M68 : pMq[68]? = some ((⟨"ClassHouse$Reader", "readParameter", "()V"⟩, 7, 2, none, 0, 0), 4049, 4048, 18, 1007) := by rfl
theorem M67 : pMq[67]? = some ((⟨"ClassHouse$Reader", "readParameters", "()V"⟩, 7, 2, none, 0, 0), 4045, 4044, 17, 1007) := by rfl
theorem M96 : pMq[96]? = some ((⟨"ClassHouse$Reader", "readReturn", "()V"⟩, 7, 1, none, 0, 0), 4157, 4156, 39, 1007) := by rfl
theorem M92 : pMq[92]? = some ((⟨"ClassHouse$Reader", "readSign", "(I)V"⟩, 7, 5, none, 1, 0), 4142, 4141, 36, 1007) := by rfl
theorem M80 : pMq[80]? = some ((⟨"ClassHouse$Reader", "readSingle", "(II)V"⟩, 7, 3, none, 2, 0), 4097, 4096, 28, 1007) := by rfl
theorem M73 : pMq[73]? = some ((⟨"ClassHouse$Reader", "readStatement", "()V"⟩, 7, 1, none, 0, 0), 4069, 4068, 21, 1007) := by rfl
theorem M95 : pMq[95]? = some ((⟨"ClassHouse$Reader", "readTry", "()V"⟩, 7, 7, none, 0, 0), 4153, 4152, 38, 1007) := by rfl
theorem M99 : pMq[99]? = some ((⟨"ClassHouse$Reader", "readVariable", "()V"⟩, 7, 3, none, 0, 0), 4169, 4168, 42, 1007) := by rfl
theorem M94 : pMq[94]? = some ((⟨"ClassHouse$Reader", "readWhile", "()V"⟩, 7, 4, none, 0, 0), 4149, 4148, 37, 1007) := by rfl
theorem M97 : pMq[97]? = some ((⟨"ClassHouse$Reader", "readWork", "(I)V"⟩, 7, 2, none, 1, 0), 4161, 4160, 40, 1007) := by rfl
theorem M88 : pMq[88]? = some ((⟨"ClassHouse$Reader", "release", "(II)V"⟩, 7, 5, none, 2, 0), 4128, 4127, 34, 1007) := by rfl
theorem M59 : pMq[59]? = some ((⟨"ClassHouse$Reader", "take", "(I)V"⟩, 7, 2, none, 1, 0), 4012, 4011, 10, 1007) := by rfl
theorem M62 : pMq[62]? = some ((⟨"ClassHouse$Reader", "takeName", "()I"⟩, 7, 2, some .int, 0, 0), 4024, 4023, 13, 1007) := by rfl
theorem M65 : pMq[65]? = some ((⟨"ClassHouse$Reader", "takeType", "()I"⟩, 7, 2, some .int, 0, 0), 4037, 4036, 16, 1007) := by rfl
theorem M98 : pMq[98]? = some ((⟨"ClassHouse$Reader", "tellsVariable", "()Z"⟩, 7, 1, some .boolean, 0, 0), 4165, 4164, 41, 1007) := by rfl
theorem M128 : pMq[128]? = some ((⟨"ClassHouse$Scope", "add", "(IIZ)I"⟩, 8, 4, some .int, 3, 0), 5049, 5047, 5048, 1010) := by rfl
theorem M127 : pMq[127]? = some ((⟨"ClassHouse$Scope", "clear", "()V"⟩, 8, 1, none, 0, 0), 5043, 5041, 5042, 1010) := by rfl
theorem M135 : pMq[135]? = some ((⟨"ClassHouse$Scope", "find", "(I)I"⟩, 8, 3, some .int, 1, 0), 5079, 5077, 5078, 1010) := by rfl
theorem M129 : pMq[129]? = some ((⟨"ClassHouse$Scope", "give", "(I)V"⟩, 8, 2, none, 1, 0), 5053, 5051, 5052, 1010) := by rfl
theorem M137 : pMq[137]? = some ((⟨"ClassHouse$Scope", "isSet", "(I)Z"⟩, 8, 2, some .boolean, 1, 0), 5088, 5086, 5087, 1010) := by rfl
theorem M160 : pMq[160]? = some ((⟨"ClassHouse$Scope", "leave", "()V"⟩, 8, 1, none, 0, 0), 5183, 5181, 5182, 1010) := by rfl
theorem M161 : pMq[161]? = some ((⟨"ClassHouse$Scope", "merge", "()V"⟩, 8, 2, none, 0, 0), 5187, 5185, 5186, 1010) := by rfl
theorem M155 : pMq[155]? = some ((⟨"ClassHouse$Scope", "open", "()V"⟩, 8, 1, none, 0, 0), 5160, 5158, 5159, 1010) := by rfl
theorem M159 : pMq[159]? = some ((⟨"ClassHouse$Scope", "restore", "()V"⟩, 8, 1, none, 0, 0), 5179, 5178, 76, 1010) := by rfl
theorem M156 : pMq[156]? = some ((⟨"ClassHouse$Scope", "stop", "()V"⟩, 8, 1, none, 0, 0), 5167, 5165, 5166, 1010) := by rfl
theorem M158 : pMq[158]? = some ((⟨"ClassHouse$Scope", "turn", "()V"⟩, 8, 1, none, 0, 0), 5175, 5173, 5174, 1010) := by rfl
theorem M144 : pMq[144]? = some ((⟨"ClassHouse$Typer", "areComparable", "(II)Z"⟩, 9, 3, some .boolean, 2, 0), 5116, 5115, 67, 1009) := by rfl
theorem M147 : pMq[147]? = some ((⟨"ClassHouse$Typer", "areNumbers", "(II)Z"⟩, 9, 2, some .boolean, 2, 1), 5127, 5126, 0, 1009) := by rfl
theorem M125 : pMq[125]? = some ((⟨"ClassHouse$Typer", "check", "()I"⟩, 9, 5, some .int, 0, 0), 5035, 5033, 5034, 1009) := by rfl
theorem M141 : pMq[141]? = some ((⟨"ClassHouse$Typer", "classNamed", "(I)I"⟩, 9, 2, some .int, 1, 0), 5104, 5103, 65, 1009) := by rfl
theorem M130 : pMq[130]? = some ((⟨"ClassHouse$Typer", "codeEnd", "(I)I"⟩, 9, 3, some .int, 1, 0), 5058, 5057, 56, 1009) := by rfl
theorem M126 : pMq[126]? = some ((⟨"ClassHouse$Typer", "enter", "(II)V"⟩, 9, 4, none, 2, 0), 5039, 5038, 55, 1009) := by rfl
theorem M136 : pMq[136]? = some ((⟨"ClassHouse$Typer", "fieldType", "(III)I"⟩, 9, 5, some .int, 3, 0), 5083, 5082, 61, 1009) := by rfl
theorem M151 : pMq[151]? = some ((⟨"ClassHouse$Typer", "fits", "(II)Z"⟩, 9, 3, some .boolean, 2, 0), 5143, 5142, 71, 1009) := by rfl
theorem M149 : pMq[149]? = some ((⟨"ClassHouse$Typer", "isCallFine", "(I)Z"⟩, 9, 6, some .boolean, 1, 0), 5135, 5134, 69, 1009) := by rfl
theorem M162 : pMq[162]? = some ((⟨"ClassHouse$Typer", "isCatchFine", "(I)Z"⟩, 9, 2, some .boolean, 1, 0), 5191, 5190, 77, 1009) := by rfl
theorem M139 : pMq[139]? = some ((⟨"ClassHouse$Typer", "isDotFine", "(I)Z"⟩, 9, 3, some .boolean, 1, 0), 5096, 5095, 63, 1009) := by rfl
theorem M131 : pMq[131]? = some ((⟨"ClassHouse$Typer", "isFine", "(II)Z"⟩, 9, 3, some .boolean, 2, 0), 5062, 5061, 57, 1009) := by rfl
theorem M148 : pMq[148]? = some ((⟨"ClassHouse$Typer", "isGiftFine", "(II)Z"⟩, 9, 4, some .boolean, 2, 0), 5131, 5130, 68, 1009) := by rfl
theorem M150 : pMq[150]? = some ((⟨"ClassHouse$Typer", "isGivenNameFine", "(II)Z"⟩, 9, 4, some .boolean, 2, 0), 5139, 5138, 70, 1009) := by rfl
theorem M134 : pMq[134]? = some ((⟨"ClassHouse$Typer", "isNameFine", "(I)Z"⟩, 9, 3, some .boolean, 1, 0), 5075, 5074, 60, 1009) := by rfl
theorem M142 : pMq[142]? = some ((⟨"ClassHouse$Typer", "isObject", "(I)Z"⟩, 9, 1, some .boolean, 1, 1), 5108, 5107, 0, 1009) := by rfl
theorem M138 : pMq[138]? = some ((⟨"ClassHouse$Typer", "isPartFine", "(II)Z"⟩, 9, 3, some .boolean, 2, 0), 5092, 5091, 62, 1009) := by rfl
theorem M145 : pMq[145]? = some ((⟨"ClassHouse$Typer", "isReference", "(I)Z"⟩, 9, 1, some .boolean, 1, 1), 5119, 5118, 0, 1009) := by rfl
theorem M143 : pMq[143]? = some ((⟨"ClassHouse$Typer", "isSignFine", "(I)Z"⟩, 9, 2, some .boolean, 1, 0), 5112, 5111, 66, 1009) := by rfl
theorem M157 : pMq[157]? = some ((⟨"ClassHouse$Typer", "isSilentFine", "(II)Z"⟩, 9, 3, some .boolean, 2, 0), 5171, 5170, 75, 1009) := by rfl
theorem M132 : pMq[132]? = some ((⟨"ClassHouse$Typer", "isValueFine", "(II)Z"⟩, 9, 3, some .boolean, 2, 0), 5066, 5065, 58, 1009) := by rfl
theorem M154 : pMq[154]? = some ((⟨"ClassHouse$Typer", "isWorkFine", "(I)Z"⟩, 9, 3, some .boolean, 1, 0), 5156, 5155, 74, 1009) := by rfl
theorem M140 : pMq[140]? = some ((⟨"ClassHouse$Typer", "pop", "()I"⟩, 9, 1, some .int, 0, 0), 5100, 5099, 64, 1009) := by rfl
theorem M133 : pMq[133]? = some ((⟨"ClassHouse$Typer", "push", "(I)Z"⟩, 9, 2, some .boolean, 1, 0), 5070, 5069, 59, 1009) := by rfl
theorem M153 : pMq[153]? = some ((⟨"ClassHouse$Typer", "tell", "(IZ)Z"⟩, 9, 4, some .boolean, 2, 0), 5152, 5151, 73, 1009) := by rfl
theorem M152 : pMq[152]? = some ((⟨"ClassHouse$Typer", "variableType", "(I)I"⟩, 9, 3, some .int, 1, 0), 5148, 5147, 72, 1009) := by rfl
