/-! ===== THE REFERENCE'S TYPER: all expressions ===== -/
theorem Pgm.rnK_else {P : Pgm} {num : List Int32 → Nat} {c k v w : Nat} {E : EnvV} {a : Tr} {l : List Nat} (hk : k ≠ 6 ∧ k ≠ 9 ∧ k ≠ 13 ∧ k ≠ 15 ∧ k ≠ 16) : P.rnK num c E k v w a l = (nK k a, ofN P num k v w) := by
  unfold Pgm.rnK
  rw [if_neg hk.1, if_neg hk.2.1, if_neg (by omega)]
theorem n1_of {k n : Nat} {a : Tr} (hk : k ≠ 30) (hs : 1 ≤ sz a) : n1 k a n = Int32.ofNat (n + sz a - 1) := by
  unfold n1
  rw [if_neg hk, if_neg (by omega)]
theorem n2_of {k n l : Nat} {a b : Tr} (hk : k ≠ 30) (hs : 1 ≤ sz b) : n2 k a b n l = Int32.ofNat (n + sz a + sz b - 1) := by
  unfold n2
  rw [if_neg hk, if_neg (by omega)]
/-- no parameter, no field is void -/
def Pgm.P3 (P : Pgm) : Prop := (∀ (m : Nat) (b : Mb) (j : Nat), P.ms[m]? = some b → j < mbP b → P.rt (px b j).1 ≠ 3) ∧ ∀ (m : Nat) (b : Mb), P.ms[m]? = some b → b.1 = false → P.rt b.2.1 ≠ 3
theorem Pgm.sub_3 {P : Pgm} {u : Nat} (h : P.sub 3 u = true) : u = 3 := by
  unfold Pgm.sub at h
  rw [if_neg (by omega), decide_eq_false (p := 10 ≤ 3 ∧ 10 ≤ u) (by omega), Bool.false_and, Bool.or_false] at h
  exact (of_decide_eq_true h).1.symm
theorem eqT_no3 {l m r : List Nat} {u : Nat} (h : eqT l m u = some r) (hm : 3 ∉ m) : 3 ∉ l := by rw [(eqT_one h).2]; exact hm
theorem one3 {t : Nat} (h : t ≠ 3) : 3 ∉ [t] := fun z => h (List.mem_singleton.mp z).symm
theorem Pgm.callT_no3 {P : Pgm} (p3 : P.P3) {w : List Int32} {x r : List Nat} (h : P.callT w x = some r) : 3 ∉ x := by
  unfold Pgm.callT at h
  split at h
  · cases h
  · rename_i t l
    split at h
    · cases h
    · rename_i ht
      split at h
      · cases h
      · rename_i m hm
        split at h
        · cases h
        · rename_i b hb
          split at h
          · rename_i hA
            unfold Pgm.argT at hA
            obtain ⟨a1, a2⟩ := Bool.and_eq_true_iff.mp hA
            have a1 := of_decide_eq_true a1
            intro z
            rcases List.mem_cons.mp z with z | z
            · omega
            · obtain ⟨i, hi⟩ := List.getElem?_of_mem z
              have hil := (List.getElem?_eq_some_iff.mp hi).1
              rcases hn : fstN (fun i => !P.sub (lget l i) (P.rt (px b i).1)) (mbP b) 0 with _ | e
              · have f := fstN_none hn i (Nat.zero_le _) (by omega)
                have hlg : lget l i = 3 := by unfold lget; rw [hi]
                rw [hlg] at f
                cases hs : P.sub 3 (P.rt (px b i).1) with
                | false => rw [hs] at f; cases f
                | true => exact p3.1 m b i hb (by omega) (Pgm.sub_3 hs)
              · rw [hn] at a2; cases a2
          · cases h
theorem RunN.spine {S : Tks} {P : Pgm} {D : List Int32 → Prop} {num : List Int32 → Nat} {c N s fr to : Nat} {E : EnvV} {Q : Tr → Prop} (hQ : ∀ e, Q e → RunN P D num c E N s fr to e) : ∀ (m : Nat) (e : Tr), OkSp Q m e → RunN P D num c E N s fr to e
  | 0, e, h => by
    rcases h with rfl | h
    · exact RunN.self
    · exact hQ e h
  | m + 1, e, ⟨a, b, h1, h2, h3⟩ => by
    rw [h1]
    exact RunN.arg (RunN.spine (S := S) hQ m a h2) (hQ b h3)
theorem RunN.all {S : Tks} {P : Pgm} {D : List Int32 → Prop} {num : List Int32 → Nat} {c N s fr to : Nat} {E : EnvV} (hN : 1100 ≤ N) (ha : Acy P) (hc : c < P.n) (hsl : s < 1600) (hto : to < 3200) (p3 : P.P3) : ∀ (n : Nat) (e : Tr), OkE S n e → RunN P D num c E N s fr to e
  | 0, e, h => h.elim
  | n + 1, e, h => by
    have IH := RunN.all (S := S) (D := D) (num := num) (E := E) (fr := fr) hN ha hc hsl hto p3 n
    rcases h with ⟨k, v, rfl, hk⟩ | ⟨k, w, rfl, hk, hw⟩ | ⟨k, a, rfl, hk, hoa⟩ | ⟨k, w, a, rfl, hk, hw, hoa⟩ | ⟨k, a, b, rfl, hk, hoa, hob⟩ | ⟨m, w, sp, rfl, hw, hsp⟩
    · refine RunN.fork (by omega) hto (by omega) RunN.zero RunN.zero (fun x y r ex ey _ => by rw [← Option.some.inj ex, ← Option.some.inj ey]; exact List.not_mem_nil) (fun n l h x y q rn h1 h2 tx ty ex ey hT => ⟨?_, fun z => by omega⟩)
      obtain ⟨r1, r2, r3, r4, r5, r6⟩ := (rn.resolve_left (by omega)).resolve_left (by omega)
      obtain rfl : x = [] := tx
      obtain rfl : y = [] := ty
      rw [Pgm.rnK_else (by omega)]
      show NdR P (nK k nl) (ofN P num k v 0) _ _ _ h
      rw [← r4]
      exact nd_leaf (v := v) hc (by omega) q h1 r1
    · refine RunN.fork (by omega) hto (by omega) RunN.zero RunN.zero (fun x y r ex ey _ => by rw [← Option.some.inj ex, ← Option.some.inj ey]; exact List.not_mem_nil) (fun n l h x y q rn h1 h2 tx ty ex ey hT => ⟨?_, fun z => by omega⟩)
      obtain ⟨r1, r2, r3, r4, r5, r6⟩ := (rn.resolve_left (by omega)).resolve_left (by omega)
      obtain rfl : x = [] := tx
      obtain rfl : y = [] := ty
      rcases hk with rfl | rfl
      · have nm := nd_name (N := N) (z := false) hN ha hc q h1 hsl (r5 (Or.inl rfl)) r1 r4 (by rw [decide_eq_false hT])
        rw [if_neg Bool.false_ne_true] at nm
        exact nm
      · exact nd_class (a := nl) hN q h1 (r5 (Or.inr (Or.inl rfl))) r1 r4
    · have ox : Ox S a := ⟨n, hoa⟩
      refine RunN.fork (by omega) hto (by omega) (IH a hoa) RunN.zero (fun x y r ex ey ho => ?_) (fun n l h x y q rn h1 h2 tx ty ex ey hT => ⟨?_, fun z => by omega⟩)
      · obtain ⟨t, rfl, _⟩ := ox.te_one ex
        obtain rfl : [] = y := Option.some.inj ey
        rcases hk with rfl | rfl | rfl
        · exact eqT_no3 ho (by decide)
        · exact eqT_no3 ho (by decide)
        · exact eqT_no3 ho (by decide)
      obtain ⟨r1, r2, r3, r4, r5, r6⟩ := (rn.resolve_left (by omega)).resolve_left (by omega)
      obtain ⟨t, rfl, _⟩ := ox.te_one ex
      obtain rfl : y = [] := ty
      obtain ⟨t1, t2, t3⟩ := TyT.root ox tx
      have hz0 : sz nl = 0 := rfl
      rw [Pgm.rnK_else (by omega)]
      show NdR P (nK k a) (ofN P num k 0 0) _ _ _ h
      rw [← r4]
      exact nd_un (v := 0) hk q h1 (by omega) r1 (by rw [r2, n1_of (by omega) t3]) t1 t2
    · have ox : Ox S a := ⟨n, hoa⟩
      refine RunN.fork (by omega) hto (by omega) (IH a hoa) RunN.zero (fun x y r ex ey ho => ?_) (fun n l h x y q rn h1 h2 tx ty ex ey hT => ⟨?_, fun z => by omega⟩)
      · obtain ⟨t, rfl, _⟩ := ox.te_one ex
        obtain rfl : [] = y := Option.some.inj ey
        refine one3 (fun z => ?_)
        subst z
        rcases hk with rfl | rfl | rfl
        · cases ho
        · cases ho
        · cases ho
      obtain ⟨r1, r2, r3, r4, r5, r6⟩ := (rn.resolve_left (by omega)).resolve_left (by omega)
      obtain ⟨t, rfl, _⟩ := ox.te_one ex
      obtain rfl : y = [] := ty
      obtain ⟨t1, t2, t3⟩ := TyT.root ox tx
      have hz0 : sz nl = 0 := rfl
      rcases hk with rfl | rfl | rfl
      · exact nd_dot (N := N) hN ha q h1 (by omega) (r5 (by unfold nmK2; omega)) r1 (by rw [r2, n1_of (by omega) t3]) r4 t1 t2
      · exact nd_as (N := N) (k := 15) hN (Or.inl rfl) q h1 (by omega) (by omega) (r5 (by unfold nmK2; omega)) r1 (by rw [r2, n1_of (by omega) t3]) r4 t1 t2
      · exact nd_as (N := N) (k := 16) hN (Or.inr rfl) q h1 (by omega) (by omega) (r5 (by unfold nmK2; omega)) r1 (by rw [r2, n1_of (by omega) t3]) r4 t1 t2
    · have oxa : Ox S a := ⟨n, hoa⟩
      have oxb : Ox S b := ⟨n, hob⟩
      refine RunN.fork (by omega) hto (by omega) (IH a hoa) (IH b hob) (fun x y r ex ey ho => ?_) (fun n l h x y q rn h1 h2 tx ty ex ey hT => ⟨?_, fun z => by omega⟩)
      · obtain ⟨t, rfl, _⟩ := oxa.te_one ex
        obtain ⟨u, rfl, _⟩ := oxb.te_one ey
        have hk' : k = 12 ∨ k = 19 ∨ k = 20 ∨ k = 21 ∨ k = 22 ∨ k = 23 ∨ k = 24 ∨ k = 25 ∨ k = 28 ∨ k = 29 ∨ k = 26 ∨ k = 27 := by omega
        have cm : (if P.cmpT t u = true then some [1] else none) = some r → 3 ∉ [t, u] := by
          intro hcm
          split at hcm
          · rename_i hct
            unfold Pgm.cmpT rfT at hct
            have : t ≠ 3 ∧ u ≠ 3 := by
              split at hct
              · have := of_decide_eq_true hct
                omega
              · obtain ⟨c1, c2⟩ := Bool.and_eq_true_iff.mp hct
                obtain ⟨c2, _⟩ := Bool.and_eq_true_iff.mp c2
                have := of_decide_eq_true c1
                have := of_decide_eq_true c2
                omega
            intro z
            rcases List.mem_cons.mp z with z | z
            · exact this.1 z.symm
            · exact this.2 (List.mem_singleton.mp z).symm
          · cases hcm
        rcases hk' with rfl | rfl | rfl | rfl | rfl | rfl | rfl | rfl | rfl | rfl | rfl | rfl
        · exact eqT_no3 ho (by decide)
        · exact eqT_no3 ho (by decide)
        · exact eqT_no3 ho (by decide)
        · exact eqT_no3 ho (by decide)
        · exact eqT_no3 ho (by decide)
        · exact eqT_no3 ho (by decide)
        · exact eqT_no3 ho (by decide)
        · exact eqT_no3 ho (by decide)
        · exact eqT_no3 ho (by decide)
        · exact eqT_no3 ho (by decide)
        · exact cm ho
        · exact cm ho
      obtain ⟨r1, r2, r3, r4, r5, r6⟩ := (rn.resolve_left (by omega)).resolve_left (by omega)
      obtain ⟨t, rfl, _⟩ := oxa.te_one ex
      obtain ⟨u, rfl, _⟩ := oxb.te_one ey
      obtain ⟨t1, t2, t3⟩ := TyT.root oxa tx
      obtain ⟨u1, u2, u3⟩ := TyT.root oxb ty
      rw [Pgm.rnK_else (by omega)]
      show NdR P (nK k a) (ofN P num k 0 0) _ _ _ h
      rw [← r4]
      by_cases z : k = 12 ∨ k = 28 ∨ k = 29
      · exact nd_bin (N := N) (v := 0) z q h1 (by omega) (by omega) r1 (by rw [r2, n1_of (by omega) t3]) (by rw [r3, n2_of (by omega) u3]) t1 t2 u1 u2
      · refine nd_sign (N := N) (v := 0) hN ha (by omega) q h1 (by omega) (by omega) r1 (by rw [r2, n1_of (by omega) t3]) (by rw [r3, n2_of (by omega) u3]) ?_ t1 t2 u1 u2
        rw [r4]
        unfold ofN
        rw [if_neg (by omega), if_neg (by omega)]
    · have osp : OkSp (Ox S) m sp := hsp.mono (fun e he => ⟨n, he⟩)
      refine RunN.fork (by omega) hto (by omega) (RunN.spine (S := S) IH m sp hsp) RunN.zero (fun x y r ex ey ho => ?_) (fun n l h x y q rn h1 h2 tx ty ex ey hT => ?_)
      · obtain rfl : [] = y := Option.some.inj ey
        exact Pgm.callT_no3 p3 ho
      obtain ⟨r1, r2, r3, r4, r5, r6⟩ := (rn.resolve_left (by omega)).resolve_left (by omega)
      obtain rfl : y = [] := ty
      have hz0 : sz nl = 0 := rfl
      obtain ⟨s1, s2, s3⟩ := r6 rfl
      rw [if_pos rfl] at h2
      rw [Pgm.rnK_else (by omega), List.append_nil]
      have K := nd_call (S := S) (N := N) (s := Int32.ofNat s) (n := n) (l0 := l + ls sp) hN ha hc q h1 rfl (r5 (by unfold nmK2; omega)) (by omega) r1 r2 r3 r4 s1 s2 s3 (SpT.of m sp n x osp tx)
      exact ⟨K.1, fun _ => K.2⟩
