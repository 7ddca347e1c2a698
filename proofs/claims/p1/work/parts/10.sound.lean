/-! ===== SOUND: what the interpreter comes to, the machine comes to ===== -/
theorem pInvoke_none {call : Nat → List Value → pH → Option pR} (hc : ∀ mn as h, call mn as h = none) {cls idx kd : Nat} {st : List Value} {h : pH} {x : List Value × pH × Nat × Nat} (hs : pInvoke call cls idx kd st h = some x) : False := by
  unfold pInvoke at hs
  split at hs
  · cases hs
  · split at hs
    · cases hs
    · split at hs
      · split at hs
        · cases hs
        · split at hs
          · cases hs
          · rw [hc] at hs; cases hs
      · cases hs
section SNA
variable {p : Program} {l : Launch} {e : Env} {R : Room} {s : State} {m : MethodId} {args : Array Value} {below : List Frame} {meth : Method} {c : Code} {Q : State → Prop}
variable {G : pG} {X : pX} {D : va_G} {cls nL : Nat} {ini : Bool} {cc : ByteArray}
variable {pc pc' : Nat} {lv lv' : pL} {st st' : List Value} {h h' : pH} {nc ns dc ds : Nat}
theorem st_copy (FX : pFix p s m args meth c G X D cls nL ini cc) (hR : 1 ≤ R.frames ∧ 64 ≤ R.locals) {n : Nat} {q : List Value × pH} (hd : decode cc pc = .ok (.invokestatic n, 3)) {P : Nat} (hq : pFind pAc cls n = some P) (hs : pCopy st h = some q) (K : pK p l e R s m args below meth c Q G D nL (pc + 3) lv q.1 q.2 nc ns) : pK p l e R s m args below meth c Q G D nL pc lv st h nc ns := by
  obtain ⟨hx, hb, hml, hown, hcls, hts, hini, hE, hbase⟩ := id FX
  have hcat : G.2.2.1.category = 1 := hE.2.2.2.2.2.2.2.1
  have hlink := hts _ (pT_in (pAc_ok cls hcls _ (pFind_some hq)) rfl)
  have hnw : nativeFrameWords "java/lang/System" "arraycopy" 5 ≤ 45 := by decide +kernel
  intro ls H locs hl hP hz hS
  unfold pCopy at hs
  split at hs
  · rename_i n dp a sp a0 r
    by_cases hc : sp < 0 ∨ dp < 0 ∨ n < 0 ∨ 8 < (r.map fun v => v.category).sum
    · rw [if_pos hc] at hs; cases hs
    · rw [if_neg hc] at hs
      have h1 : ¬ sp < 0 := fun q => hc (Or.inl q)
      have h2 : ¬ dp < 0 := fun q => hc (Or.inr (Or.inl q))
      have h3 : ¬ n < 0 := fun q => hc (Or.inr (Or.inr (Or.inl q)))
      have h8 : (r.map fun v => v.category).sum ≤ 8 := Nat.not_lt.mp fun q => hc (Or.inr (Or.inr (Or.inr q)))
      have hloc : ((r.map (rV G)).map fun v => v.category).sum + (nativeFrameWords "java/lang/System" "arraycopy" 5 + 11) ≤ R.locals := by
        rw [rV_sum hcat]
        omega
      split at hs
      · rename_i n0 f n1 g hat0 hat
        by_cases hb4 : sp.toNatClampNeg + n.toNatClampNeg ≤ n0 ∧ dp.toNatClampNeg + n.toNatClampNeg ≤ n1
        · rw [if_pos hb4] at hs
          cases hs
          obtain ⟨ha06, hat0⟩ := pAt_some hat0
          obtain ⟨ha6, hat⟩ := pAt_some hat
          show W p l e R s m args below meth c H locs nc ns Q (F0 m pc ls (.int n :: .int dp :: rV G (.ref a) :: .int sp :: rV G (.ref a0) :: r.map (rV G)))
          rw [rV_heap ha6, rV_heap ha06]
          refine qa_copyI hx hb (hml.trans hl.1.symm) hown hlink (hts _ pa_cn) (hts _ pa_cs) (hts _ pa_ci) hE.1 hP (rW_D G h) hS (a0 - 6) (a - 6) 0 (rW_at hat0) (rW_at hat) rfl h1 h2 h3 hb4.1 hb4.2 hR.1 hloc hd (fun H1 locs1 hP1 hz1 hS1 => ?_)
          have hP2 : va_P D vwCl ((rW G h).set (a - 6) (G.1 + (a - 6), rE G (.inr (0, n1, .inl (va_cpy f g sp.toNatClampNeg dp.toNatClampNeg n.toNatClampNeg))))) H1 := hP1
          rw [rW_set] at hP2
          exact K ls H1 locs1 hl hP2 (pSize hz hz1 a _) hS1
        · rw [if_neg hb4] at hs; cases hs
      · rename_i n0 f n1 g hat0 hat
        by_cases hb4 : sp.toNatClampNeg + n.toNatClampNeg ≤ n0 ∧ dp.toNatClampNeg + n.toNatClampNeg ≤ n1
        · rw [if_pos hb4] at hs
          cases hs
          obtain ⟨ha06, hat0⟩ := pAt_some hat0
          obtain ⟨ha6, hat⟩ := pAt_some hat
          show W p l e R s m args below meth c H locs nc ns Q (F0 m pc ls (.int n :: .int dp :: rV G (.ref a) :: .int sp :: rV G (.ref a0) :: r.map (rV G)))
          rw [rV_heap ha6, rV_heap ha06]
          refine qa_copyL hx hb (hml.trans hl.1.symm) hown hlink (hts _ pa_cn) (hts _ pa_cs) (hts _ pa_ci) hE.1 hP (rW_D G h) hS (a0 - 6) (a - 6) 1 (rW_at hat0) (rW_at hat) rfl h1 h2 h3 hb4.1 hb4.2 hR.1 hloc hd (fun H1 locs1 hP1 hz1 hS1 => ?_)
          have hP2 : va_P D vwCl ((rW G h).set (a - 6) (G.1 + (a - 6), rE G (.inr (1, n1, .inr (.inl (va_cpy f g sp.toNatClampNeg dp.toNatClampNeg n.toNatClampNeg)))))) H1 := hP1
          rw [rW_set] at hP2
          exact K ls H1 locs1 hl hP2 (pSize hz hz1 a _) hS1
        · rw [if_neg hb4] at hs; cases hs
      · cases hs
  · cases hs
theorem st_max (FX : pFix p s m args meth c G X D cls nL ini cc) (hR : 1 ≤ R.frames ∧ 64 ≤ R.locals) (hcl : nc ≤ R.cells) (hsl : ns ≤ R.slots) {n w : Nat} {s1 : List Value} (hd : decode cc pc = .ok (.invokestatic n, 3)) {P : Nat} (hq : pFind pMx cls n = some (w, P)) (hs : pMaxMin w st = some s1) (K : pK p l e R s m args below meth c Q G D nL (pc + 3) lv s1 h nc ns) : pK p l e R s m args below meth c Q G D nL pc lv st h nc ns := by
  obtain ⟨hx, hb, hml, hown, hcls, hts, hini, hE, hbase⟩ := id FX
  have hcat : G.2.2.1.category = 1 := hE.2.2.2.2.2.2.2.1
  have hw := pMx_ok cls hcls _ (pFind_some hq)
  intro ls H locs hl hP hz hS
  unfold pMaxMin at hs
  split at hs
  · rename_i y x r
    by_cases hc : (r.map fun v => v.category).sum ≤ 8
    · rw [if_pos hc] at hs
      cases hs
      by_cases hw0 : w = 0
      · rw [if_pos hw0] at hw K
        exact va_mmax hx hb (hml.trans hl.1.symm) hown (hts _ (pT_in hw rfl)) (hts _ pa_maxs) (hts _ pa_mi) (hts _ pa_maxc) hR.1 (by rw [rV_sum hcat]; omega) hcl hsl hd (K ls H locs hl hP hz hS)
      · rw [if_neg hw0] at hw K
        exact va_mmin hx hb (hml.trans hl.1.symm) hown (hts _ (pT_in hw rfl)) (hts _ pa_mins) (hts _ pa_mi) (hts _ pa_minc) hR.1 (by rw [rV_sum hcat]; omega) hcl hsl hd (K ls H locs hl hP hz hS)
    · rw [if_neg hc] at hs; cases hs
  · cases hs
theorem pcalls_sound (FX : pFix p s m args meth c G X D cls nL ini cc) {call : Nat → List Value → pH → Option pR} {nat : Bool} {nd : Nat} (hcall : ∀ mn as h r, call mn as h = some r → pMet l G X D nd mn as h r) (hR : nat = true → nd + 1 ≤ R.frames ∧ 64 * (nd + 1) ≤ R.locals) (hnc : nat = false → ∀ mn as h, call mn as h = none) {i : Instr} {len : Nat} (hd : decode cc pc = .ok (i, len)) (hlen : pLenOk i len = true) (hs : pcalls call nat cls i st h = some (st', h', dc, ds)) (hcl : nc + dc ≤ R.cells) (hsl : ns + ds ≤ R.slots) (K : pK p l e R s m args below meth c Q G D nL (pc + 3) lv st' h' (nc + dc) (ns + ds)) : pK p l e R s m args below meth c Q G D nL pc lv st h nc ns := by
  have inv : ∀ {idx kd : Nat}, (kd = 0 ∧ decode cc pc = .ok (.invokevirtual idx, 3) ∨ kd = 1 ∧ decode cc pc = .ok (.invokestatic idx, 3) ∨ kd = 2 ∧ decode cc pc = .ok (.invokespecial idx, 3)) → pInvoke call cls idx kd st h = some (st', h', dc, ds) → pK p l e R s m args below meth c Q G D nL pc lv st h nc ns := by
    intro idx kd hd hs
    cases hn : nat with
    | false => exact (pInvoke_none (hnc hn) hs).elim
    | true => exact pInvoke_sound FX hcall (hR hn) hd hs hcl hsl K
  unfold pcalls at hs
  split at hs
  · rename_i n
    obtain rfl : len = 3 := by simpa [pLenOk, pLen] using hlen
    exact inv (Or.inl ⟨rfl, hd⟩) hs
  · rename_i n
    obtain rfl : len = 3 := by simpa [pLenOk, pLen] using hlen
    split at hs
    · rename_i P hq
      split at hs
      · rename_i hn
        obtain ⟨q, h1, h2⟩ := Option.map_eq_some_iff.mp hs
        cases h2
        exact st_copy FX ⟨by have := hR hn; omega, by have := hR hn; omega⟩ hd hq h1 K
      · cases hs
    · split at hs
      · rename_i w P hq
        split at hs
        · rename_i hn
          obtain ⟨q, h1, h2⟩ := Option.map_eq_some_iff.mp hs
          cases h2
          exact st_max FX ⟨by have := hR hn; omega, by have := hR hn; omega⟩ hcl hsl hd hq h1 K
        · cases hs
      · exact inv (Or.inr (Or.inl ⟨rfl, hd⟩)) hs
  · rename_i n
    obtain rfl : len = 3 := by simpa [pLenOk, pLen] using hlen
    split at hs
    · rename_i P hq
      split at hs
      · rename_i a r
        by_cases hc : nat = true ∧ 6 ≤ a ∧ (r.map fun v => v.category).sum ≤ 8
        · rw [if_pos hc] at hs
          cases hs
          obtain ⟨hx, hb, hml, hown, hcls, hts, hini, hE, hbase⟩ := id FX
          have hcat : G.2.2.1.category = 1 := hE.2.2.2.2.2.2.2.1
          have hR1 := hR hc.1
          intro ls H locs hl hP hz hS
          show W p l e R s m args below meth c H locs nc ns Q (F0 m pc ls (rV G (.ref a) :: st'.map (rV G)))
          rw [rV_heap (Nat.not_lt.mpr hc.2.1)]
          refine W.objInit hx hb hown (hts _ (pT_in (pOb_ok cls hcls _ (pFind_some hq)) rfl)) (hts _ pa_oi) (hts _ pa_oc) rfl (by rw [hml]; exact hl.1) rfl hd (by omega) ?_ ?_
          · show 2 * 0 + ((st'.map (rV G)).map fun v => v.category).sum + 12 ≤ R.locals
            rw [rV_sum hcat]
            have := hc.2.2
            omega
          · exact K ls H locs hl hP hz hS
        · rw [if_neg hc] at hs; cases hs
      · cases hs
    · exact inv (Or.inr (Or.inr ⟨rfl, hd⟩)) hs
  · cases hs
/-- the machine returns from here, where the interpreter did -/
def pKr (p : Program) (l : Launch) (e : Env) (R : Room) (s : State) (m : MethodId) (args : Array Value) (below : List Frame) (meth : Method) (c : Code) (Q : State → Prop) (G : pG) (D : va_G) (nL : Nat) (cc : ByteArray) (ret : Option FieldType) (r : pR) : Prop :=
  ∀ (pc : Nat) (i : Instr) (st : List Value) (lv : pL), decode cc pc = .ok (i, 1) → pret ret i st = some r.1 → pK p l e R s m args below meth c Q G D nL pc lv st r.2.1 r.2.2.1 r.2.2.2
theorem pret_len {ret : Option FieldType} {i : Instr} {len : Nat} {st : List Value} {v : Option Value} (hlen : pLenOk i len = true) (h : pret ret i st = some v) : len = 1 := by
  unfold pret at h
  split at h
  · simpa [pLenOk, pLen] using hlen
  · simpa [pLenOk, pLen] using hlen
  · simpa [pLenOk, pLen] using hlen
  · simpa [pLenOk, pLen] using hlen
  · cases h
theorem prun_mono {call : Nat → List Value → pH → Option pR} {nat : Bool} {ret : Option FieldType} : ∀ (k pc : Nat) (lv : pL) (st : List Value) (h : pH) (nc ns : Nat) (r : pR), prun X call nat cls ini cc nL ret k pc lv st h nc ns = some r → nc ≤ r.2.2.1 ∧ ns ≤ r.2.2.2
  | 0, _, _, _, _, _, _, _, hs => by cases hs
  | k + 1, pc, lv, st, h, nc, ns, r, hs => by
    unfold prun at hs
    split at hs
    · cases hs
    · split at hs
      · split at hs
        · cases hs; exact ⟨Nat.le_refl _, Nat.le_refl _⟩
        · split at hs
          · exact prun_mono k _ _ _ _ _ _ _ hs
          · split at hs
            · have := prun_mono k _ _ _ _ _ _ _ hs
              exact ⟨by omega, by omega⟩
            · split at hs
              · have := prun_mono k _ _ _ _ _ _ _ hs
                exact ⟨by omega, by omega⟩
              · cases hs
      · cases hs
theorem prun_sound (FX : pFix p s m args meth c G X D cls nL ini cc) {call : Nat → List Value → pH → Option pR} {nat : Bool} {nd : Nat} {ret : Option FieldType} (hcall : ∀ mn as h r, call mn as h = some r → pMet l G X D nd mn as h r) (hR : nat = true → nd + 1 ≤ R.frames ∧ 64 * (nd + 1) ≤ R.locals) (hnc : nat = false → ∀ mn as h, call mn as h = none) (r : pR) (hcl : r.2.2.1 ≤ R.cells) (hsl : r.2.2.2 ≤ R.slots) (Kr : pKr p l e R s m args below meth c Q G D nL cc ret r) :
    ∀ (k pc : Nat) (lv : pL) (st : List Value) (h : pH) (nc ns : Nat), prun X call nat cls ini cc nL ret k pc lv st h nc ns = some r → pK p l e R s m args below meth c Q G D nL pc lv st h nc ns
  | 0, _, _, _, _, _, _, hs => by cases hs
  | k + 1, pc, lv, st, h, nc, ns, hs => by
    unfold prun at hs
    split at hs
    · cases hs
    · rename_i i len hd
      split at hs
      · rename_i hlen
        split at hs
        · rename_i v hv
          cases hs
          have := pret_len hlen hv
          subst this
          exact Kr pc i st lv hd hv
        · split at hs
          · rename_i pc' lv' st' h' h1
            exact pstep_sound FX hd hlen h1 (prun_sound FX hcall hR hnc r hcl hsl Kr k _ _ _ _ _ _ hs)
          · split at hs
            · rename_i pc' st' h' dc ds h1
              have hm := prun_mono k _ _ _ _ _ _ _ hs
              exact pmake_sound FX hd hlen h1 (by omega) (by omega) (prun_sound FX hcall hR hnc r hcl hsl Kr k _ _ _ _ _ _ hs)
            · split at hs
              · rename_i st' h' dc ds h1
                have hm := prun_mono k _ _ _ _ _ _ _ hs
                exact pcalls_sound FX hcall hR hnc hd hlen h1 (by omega) (by omega) (prun_sound FX hcall hR hnc r hcl hsl Kr k _ _ _ _ _ _ hs)
              · cases hs
      · cases hs
end SNA
/-- a method's body -/
theorem pbody_sound {l : Launch} {G : pG} {X : pX} {D : va_G} {K : Nat} {call : Nat → List Value → pH → Option pR} {nat : Bool} {nd n : Nat} (hcall : ∀ mn as h r, call mn as h = some r → pMet l G X D nd mn as h r) (hn : nat = true → nd + 1 ≤ n) (hnc : nat = false → ∀ mn as h, call mn as h = none) {mn : Nat} {as : List Value} {h : pH} {r : pR} (hs : pbody X K call nat mn as h = some r) : pMet l G X D n mn as h r := by
  intro M hM
  unfold pbody at hs
  rw [hM] at hs
  dsimp only at hs
  split at hs
  · rename_i hlen
    obtain ⟨o1, o2, o3, o4, o5, o6, o7, o8, o9, o10, o11⟩ := pMem hM
    refine Met.ofW (cc := pCd M.2.1) (maxL := M.1.2.2.1) (ret := M.1.2.2.2.1) o6 rfl ?_
    intro p e s m args below meth c s₁ B hml hv
    obtain ⟨rfl, hP, hz, hE⟩ := hv
    have hcat : G.2.2.1.category = 1 := hE.2.2.2.2.2.2.2.1
    have hts0 := atoms_spec (ws := pWs M) B.pre
    have hown : s.vm.findClass M.1.1.cls = some m.cls := findClass_of_methodNamed B.named
    have hlocks := B.notSynchronized
    have hr := B.returns
    have hcn : pCn.getD M.1.2.1 "" = M.1.1.cls := by rw [List.getD_eq_getElem?_getD, o5]; rfl
    have hcls : M.1.2.1 < 22 := (List.getElem?_eq_some_iff.mp o5).1
    have FX : pFix p s m (as.map (rV G)).toArray meth c G X D M.1.2.1 M.1.2.2.1 (decide (M.1.2.2.2.2.2 = 2)) (pCd M.2.1) :=
      ⟨B.exec, B.bytes, hml, by rw [hcn]; exact hown, hcls, fun w hw => hts0 w (List.mem_cons_of_mem _ hw), fun hi => by
        have h2 := o9.mp (of_decide_eq_true hi)
        rw [← h2]
        exact (name_of_methodNamed B.named B.method).1, hE, by omega⟩
    have hb := B.bytes
    have hx := B.exec
    have Kr : pKr p l e (pRoom n r) s m (as.map (rV G)).toArray below meth c (MQ below (pQc G D r) (as.map (rV G)).toArray s r.2.2.1 r.2.2.2 (pA G)) G D M.1.2.2.1 (pCd M.2.1) M.1.2.2.2.1 r := by
      obtain ⟨rv, rh, rc, rs⟩ := r
      intro pc i st lv hd hp ls H locs hl hP hz hS
      have hq : ∀ t : State, t.heap = H → s.WarmedH t.vm → pQc G D (rv, rh, rc, rs) (as.map (rV G)).toArray s (.returned (rv.map (rV G))) t := fun t ht _ => ⟨rfl, by rw [ht]; exact hP, by rw [ht]; exact hz, hS.F ht⟩
      unfold pret at hp
      split at hp
      · rename_i v ty e9
        by_cases hv : pRet ty v = true
        · rw [if_pos hv] at hp
          cases hp
          rw [e9] at hr
          cases ty with
          | int => exact W.iret hx hb hr hq hS.2.2 hd
          | boolean => exact W.zret hx hb hr (of_decide_eq_true hv) hq hS.2.2 hd
          | char => exact W.zret hx hb hr (of_decide_eq_true hv) hq hS.2.2 hd
          | byte => exact W.zret hx hb hr (of_decide_eq_true hv) hq hS.2.2 hd
          | _ => cases hv
        · rw [if_neg hv] at hp; cases hp
      · rename_i v e9
        cases hp
        rw [e9] at hr
        exact W.lret hx hb hr hq hS.2.2 hd
      · rename_i a t e9
        by_cases ha : a < 6
        · rw [if_pos ha] at hp; cases hp
        · rw [if_neg ha] at hp
          cases hp
          rw [e9] at hr
          exact W.aret hx hb hr (Or.inr ⟨_, rfl⟩) (Or.inr ⟨_, rV_heap ha⟩) hq hS.2.2 hd
      · rename_i e9
        cases hp
        rw [e9] at hr
        exact W.vret hx hb hr hq hS.2.2 hd
      · cases hp
    have hl := lv_entry (as.map (rV G)) (n := M.1.2.2.1) (by rw [rL_sl hcat]; exact hlen)
    rw [lg_entry_eq]
    rw [← rL_args hcat] at hl
    exact prun_sound FX hcall (fun h => ⟨hn h, by show 64 * (nd + 1) ≤ 64 * n; have := hn h; omega⟩) hnc r (Nat.le_refl _) (Nat.le_refl _) Kr K 0 (lv_args 0 as) [] h 0 0 hs _ _ _ hl hP hz va_S.rf
  · cases hs
/-- every method -/
theorem pcall_sound (l : Launch) (G : pG) (X : pX) (D : va_G) (K : Nat) : ∀ (n mn : Nat) (as : List Value) (h : pH) (r : pR), pcall X K n mn as h = some r → pMet l G X D n mn as h r
  | 0, mn, as, h, r, hs => pbody_sound (nat := false) (nd := 0) (call := fun _ _ _ => none) (fun _ _ _ _ h => by cases h) (fun h => by cases h) (fun _ _ _ _ => rfl) hs
  | n + 1, mn, as, h, r, hs => pbody_sound (nat := true) (nd := n) (call := pcall X K n) (pcall_sound l G X D K n) (fun _ => Nat.le_refl _) (fun h => by cases h) hs
