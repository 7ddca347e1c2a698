/-! ===== RUNS: what is made, calls, bodies, methods ===== -/
theorem rV_id {G : pG} {v : Value} (h : ∀ a, v ≠ .ref a) : rV G v = v := by
  cases v with
  | ref a => exact absurd rfl (h a)
  | _ => rfl
theorem rA_new (G : pG) (n : Nat) : rA G (6 + n) = G.1 + n := by
  unfold rA
  rw [if_neg (by omega), show 6 + n - 6 = n by omega]
theorem rW_rows (G : pG) (h : pH) (N K : Nat) : rW G (h ++ (.inr (3, N, .inr (.inr (fun i => if i < N then some (6 + (h.length + 1 + i)) else none))) :: List.replicate N (.inr (0, K, .inl (fun _ => 0))))) = rW G h ++ ((G.1 + h.length, .inl (G.2.2.2 3, N, .inr (.inr (.inr (.inr (fun i => if i < N then some (G.1 + h.length + 1 + i) else none)))))) :: (List.range N).map (fun i => (G.1 + h.length + 1 + i, .inl (G.2.2.2 0, K, .inl (fun _ => 0))))) := by
  rw [rW_app, List.mapIdx_cons]
  congr 1
  congr 1
  · show ((G.1 + h.length, rE G _) : Nat × va_E) = _
    refine congrArg (fun f => ((G.1 + h.length, .inl (G.2.2.2 3, N, .inr (.inr (.inr (.inr f))))) : Nat × va_E)) (funext fun i => ?_)
    by_cases hi : i < N
    · dsimp only
      rw [if_pos hi, if_pos hi]
      show some (rA G _) = _
      rw [rA_new]
      congr 1
      omega
    · dsimp only
      rw [if_neg hi, if_neg hi]; rfl
  · apply List.ext_getElem?
    intro j
    rw [List.getElem?_mapIdx, List.getElem?_map, List.getElem?_replicate]
    by_cases hj : j < N
    · rw [if_pos hj, List.getElem?_range hj]
      show some ((G.1 + (h.length + (j + 1)), _) : Nat × va_E) = some _
      rw [show G.1 + (h.length + (j + 1)) = G.1 + h.length + 1 + j by omega]
      rfl
    · rw [if_neg hj, List.getElem?_eq_none (by rw [List.length_range]; omega)]
      rfl
section STM
variable {p : Program} {l : Launch} {e : Env} {R : Room} {s : State} {m : MethodId} {args : Array Value} {below : List Frame} {meth : Method} {c : Code} {Q : State → Prop}
variable {G : pG} {X : pX} {D : va_G} {cls nL : Nat} {ini : Bool} {cc : ByteArray}
variable {pc pc' : Nat} {lv lv' : pL} {st st' : List Value} {h h' : pH} {nc ns dc ds : Nat}
theorem pmake_sound (FX : pFix p s m args meth c G X D cls nL ini cc) {i : Instr} {len : Nat} (hd : decode cc pc = .ok (i, len)) (hlen : pLenOk i len = true) (hs : pmake cls i pc st h = some (pc', st', h', dc, ds)) (hcl : nc + dc ≤ R.cells) (hsl : ns + ds ≤ R.slots) (K : pK p l e R s m args below meth c Q G D nL pc' lv st' h' (nc + dc) (ns + ds)) : pK p l e R s m args below meth c Q G D nL pc lv st h nc ns := by
  obtain ⟨hx, hb, hml, hown, hcls, hts, hini, hE, hbase⟩ := id FX
  unfold pmake at hs
  split at hs
  · rename_i ty
    obtain rfl : len = 2 := by simpa [pLenOk, pLen] using hlen
    obtain ⟨⟨q1, q2, q3, q4⟩, h1, h2⟩ := Option.map_eq_some_iff.mp hs
    cases h2
    unfold pNewa at h1
    split at h1
    · rename_i n r
      by_cases hn : n < 0 ∨ 60000000 < n.toNatClampNeg
      · rw [if_pos hn] at h1; cases h1
      · rw [if_neg hn] at h1
        have hn0 : ¬ n < 0 := fun q => hn (Or.inl q)
        have hnb : n.toNatClampNeg ≤ 60000000 := Nat.not_lt.mp (fun q => hn (Or.inr q))
        intro ls H locs hl hP hz hS
        have fin : ∀ (x : pE) (y : va_E), rE G x = y → pK p l e R s m args below meth c Q G D nL (pc + 2) lv (.ref (6 + h.length) :: r) (h ++ [x]) (nc + 1) (ns + n.toNatClampNeg) → ∀ (H1 : Heap), va_P D vwCl (rW G h ++ [(H.size, y)]) H1 → H1.size = H.size + 1 → va_S (pA G) s.heap H1 locs → W p l e R s m args below meth c H1 locs (nc + 1) (ns + n.toNatClampNeg) Q (F0 m (pc + 2) ls (.ref H.size :: r.map (rV G))) := by
          intro x y hy K H1 hP1 hz1 hS1
          rw [hz, ← hy, ← rW_app1] at hP1
          have := K ls H1 locs hl hP1 (by rw [hz1, hz, List.length_append]; rfl) hS1
          rw [List.map_cons, rV_new] at this
          rw [hz]
          exact this
        split at h1
        · cases h1
          exact qa_newa (atype := .int) (cA := G.2.2.2 0) (a0 := (n.toNatClampNeg, .inl (fun _ => 0))) hx hb (hts _ pa_int) ((hE.1.2 0 _ rfl).2) hP hS rfl hn0 rfl (by show _ * 4 ≤ _; omega) hcl hsl hd (fin _ _ rfl K)
        · cases h1
          exact qa_newa (atype := .long) (cA := G.2.2.2 1) (a0 := (n.toNatClampNeg, .inr (.inl (fun _ => 0)))) hx hb (hts _ pa_long) ((hE.1.2 1 _ rfl).2) hP hS rfl hn0 rfl (by show _ * 8 ≤ _; omega) hcl hsl hd (fin _ _ rfl K)
        · cases h1
          exact qa_newa (atype := .boolean) (cA := G.2.2.2 2) (a0 := (n.toNatClampNeg, .inl (fun _ => 0))) hx hb (hts _ pa_boolean) ((hE.1.2 2 _ rfl).2) hP hS rfl hn0 rfl (by show _ * 1 ≤ _; omega) hcl hsl hd (fin _ _ rfl K)
        · cases h1
    · cases h1
  · rename_i n
    obtain rfl : len = 3 := by simpa [pLenOk, pLen] using hlen
    obtain ⟨⟨q1, q2, q3, q4⟩, h1, h2⟩ := Option.map_eq_some_iff.mp hs
    cases h2
    unfold pNewo at h1
    split at h1
    · rename_i ci P hq
      cases h1
      obtain ⟨hci, w1, w2, w3⟩ := pNw_ok cls hcls _ (pFind_some hq)
      obtain ⟨c1, c2, c3, c4, c5, c6, c7⟩ := pCls ci hci
      intro ls H locs hl hP hz hS
      have hid : (pFs0.getD ci []).map (rV G) = pFs0.getD ci [] := by
        have e9 : (pFs0.getD ci []).map (rV G) = (pFs0.getD ci []).map id := List.map_congr_left (fun v hv => rV_id (c7 v hv))
        rw [e9, List.map_id]
      refine qa_new (C := (vwCl.getD ci ("", TX0, 0)).1) (T := (vwCl.getD ci ("", TX0, 0)).2.1) (N := (vwCl.getD ci ("", TX0, 0)).2.2) (fs := pFs0.getD ci []) hx hb hts c2 (pTys.getD ci tyX0) c3 hown (hts _ (pT_in w1 rfl)) (hts _ (pT_in w2 rfl)) (hts _ (pT_in w3 rfl)) hE.1 hP hS c1 c5 hcl hsl hd (fun H1 hP1 hz1 hS1 => ?_)
      have hy : rE G (.inl (ci, pFs0.getD ci [])) = .inr (ci, pFs0.getD ci []) := by
        show Sum.inr (ci, (pFs0.getD ci []).map (rV G)) = _
        rw [hid]
      rw [hz, ← hy, ← rW_app1] at hP1
      have := K ls H1 locs hl hP1 (by rw [hz1, hz, List.length_append]; rfl) hS1
      rw [List.map_cons, rV_new] at this
      rw [hz]
      exact this
    · cases h1
  · rename_i n d
    obtain rfl : len = 4 := by simpa [pLenOk, pLen] using hlen
    by_cases hd2 : d = 2
    · rw [if_pos hd2] at hs
      subst hd2
      obtain ⟨⟨q1, q2, q3, q4⟩, h1, h2⟩ := Option.map_eq_some_iff.mp hs
      cases h2
      unfold pNewm at h1
      split at h1
      · rename_i k n r
        by_cases hn : n < 0 ∨ k < 0 ∨ 10000 < n.toNatClampNeg ∨ 10000 < k.toNatClampNeg
        · rw [if_pos hn] at h1; cases h1
        · rw [if_neg hn] at h1
          split at h1
          · rename_i P hq
            cases h1
            intro ls H locs hl hP hz hS
            have w1 := hts _ (pT_in (pMn_ok cls hcls _ (pFind_some hq)) rfl)
            refine qa_mna (cI := G.2.2.2 0) (cII := G.2.2.2 3) hx hb hown w1 hE.over (hts _ pa_int) ((hE.1.2 0 _ rfl).2) ((hE.1.2 3 _ rfl).2) hP hS (fun q => hn (Or.inl q)) (fun q => hn (Or.inr (Or.inl q))) rfl rfl (Nat.not_lt.mp (fun q => hn (Or.inr (Or.inr (Or.inl q))))) (Nat.not_lt.mp (fun q => hn (Or.inr (Or.inr (Or.inr q))))) hcl hsl hd (fun H1 hP1 hz1 hS1 => ?_)
            rw [hz, ← rW_rows] at hP1
            have := K ls H1 locs hl hP1 (by rw [hz1, hz]; simp; omega) hS1
            rw [List.map_cons, rV_new] at this
            rw [hz]
            exact this
          · cases h1
      · cases h1
    · rw [if_neg hd2] at hs; cases hs
  · cases hs
end STM
/-- a method's contract: from this heap it comes to r -/
def pRoom (n : Nat) (r : pR) : Room := { frames := n, cells := r.2.2.1, slots := r.2.2.2, locals := 64 * n }
def pPc (G : pG) (X : pX) (D : va_G) (as : List Value) (h : pH) : Array Value → State → Prop := va_Pc (as.map (rV G)) (fun U => va_P D vwCl (rW G h) U.heap ∧ U.heap.size = G.1 + h.length ∧ pExt G X D U)
def pQc (G : pG) (D : va_G) (r : pR) : Array Value → State → Outcome → State → Prop := fun _ st oc t => oc = .returned (r.1.map (rV G)) ∧ va_P D vwCl (rW G r.2.1) t.heap ∧ t.heap.size = G.1 + r.2.1.length ∧ va_F (pA G) st t
def pWs (M : pMr × Nat × Nat × Nat × Nat) : List Cond := .code M.1.1 (pCd M.2.1) M.1.2.2.1 M.1.2.2.2.1 :: pT
def pMet (l : Launch) (G : pG) (X : pX) (D : va_G) (n mn : Nat) (as : List Value) (h : pH) (r : pR) : Prop := ∀ M, pMq[mn]? = some M → Met l M.1.1 (pWs M) (pRoom n r) (pPc G X D as h) (pQc G D r) r.2.2.1 r.2.2.2 (pA G)
theorem pExt.same {G : pG} {X : pX} {D : va_G} {u U : State} (h : pExt G X D u) (hh : U.heap = u.heap) (hv : U.vm = u.vm) : pExt G X D U := by
  obtain ⟨h1, h2, h3, h4, h5, h6, h7, h8, h9⟩ := h
  have ha : u.vm.Alike U.vm := by rw [hv]; exact Vm.Alike.refl _
  refine ⟨va_K.moved ha h1, ?_, fun i hi => (h3 i hi).same hv, ?_, ?_, ?_, h7, h8, fun w hw hp => pStay_same hp hv (h9 w hw hp)⟩
  · rw [hh]; exact vk_S.moved ha h2
  · rw [hh]; exact va_Z.moved ha h4
  · rw [hh]; exact va_Z.moved ha h5
  · rw [hh]; exact va_X.moved ha h6
theorem pBlind (G : pG) (X : pX) (D : va_G) (as : List Value) (h : pH) : FrameBlind (pPc G X D as h) := fun a U g mk q => ⟨q.1, q.2.1, q.2.2.1, q.2.2.2.same rfl rfl⟩
theorem pMem {mn : Nat} {M : pMr × Nat × Nat × Nat × Nat} (h : pMq[mn]? = some M) : okM M := pMq_ok M (List.mem_of_getElem? h)
theorem pWs_in {M : pMr × Nat × Nat × Nat × Nat} (h : okM M) : ∀ w ∈ pWs M, w ∈ pT := by
  intro w hw
  rcases List.mem_cons.mp hw with rfl | hw
  · exact pCd_in h.1
  · exact hw
theorem pArgs_some {np kd : Nat} {st as rest : List Value} (h : pArgs np kd st = some (as, rest)) : st = as.reverse ++ rest ∧ as.length = if kd = 1 then np else np + 1 := by
  unfold pArgs at h
  by_cases hk : kd = 1
  · rw [if_pos hk] at h ⊢
    by_cases hl : np ≤ st.length
    · rw [if_pos hl] at h
      cases h
      simp [hl]
    · rw [if_neg hl] at h; cases h
  · rw [if_neg hk] at h ⊢
    by_cases hl : np + 1 ≤ st.length
    · rw [if_pos hl] at h
      cases h
      simp [hl]
    · rw [if_neg hl] at h; cases h
section STC
variable {p : Program} {l : Launch} {e : Env} {R : Room} {s : State} {m : MethodId} {args : Array Value} {below : List Frame} {meth : Method} {c : Code} {Q : State → Prop}
variable {G : pG} {X : pX} {D : va_G} {cls nL : Nat} {ini : Bool} {cc : ByteArray}
variable {pc pc' : Nat} {lv lv' : pL} {st st' : List Value} {h h' : pH} {nc ns dc ds : Nat}
/-- behind a call -/
theorem pBack {ls : Array Slot} {H : Heap} {locs : List Loc} {st0 rest0 : List Value} {r : pR} {a : Array Value} (hl : lv_has ls nL (rL G lv)) (hS : va_S (pA G) s.heap H locs) (hr : va_Run p l e R s m args below meth c H locs nc ns r.2.2.1 r.2.2.2 (F0 m pc ls st0) (rest0.map (rV G)) (pQc G D r a) (pA G))
    (K : pK p l e R s m args below meth c Q G D nL (pc + 3) lv (r.1.toList ++ rest0) r.2.1 (nc + r.2.2.1) (ns + r.2.2.2)) : W p l e R s m args below meth c H locs nc ns Q (F0 m pc ls st0) := by
  intro T hT X1
  obtain ⟨v, st₀, t, T', L, h0, X', hL, e1, e2, ⟨hv, hp, hz, hf1, hf2⟩, go⟩ := hr T hT X1
  cases hv
  rw [h0] at hf1 hf2
  have hW := K ls T'.heap (locs ++ L) hl (by rw [e1]; exact hp) (by rw [e1]; exact hz) ⟨Nat.le_trans hS.1 (by rw [e1]; exact hf1), fun q h1 h2 => by rw [e1, hf2 q (Nat.lt_of_lt_of_le h1 hS.1) h2]; exact hS.2.1 q h1 h2, fun q hq => by
      rcases List.mem_append.mp hq with h | h
      · exact hS.2.2 q h
      · exact hL q h⟩
  have e3 : (r.1.toList ++ rest0).map (rV G) = (r.1.map (rV G)).toList ++ rest0.map (rV G) := by
    rw [List.map_append]
    cases r.1 <;> rfl
  rw [e3] at hW
  obtain ⟨t2, a1, b1⟩ := hW T' rfl X'
  exact ⟨t2, go t2 a1, b1⟩
theorem pInvoke_sound (FX : pFix p s m args meth c G X D cls nL ini cc) {call : Nat → List Value → pH → Option pR} {nd : Nat} (hcall : ∀ mn as h r, call mn as h = some r → pMet l G X D nd mn as h r) (hR : nd + 1 ≤ R.frames ∧ 64 * (nd + 1) ≤ R.locals) {idx kd : Nat}
    (hd : kd = 0 ∧ decode cc pc = .ok (.invokevirtual idx, 3) ∨ kd = 1 ∧ decode cc pc = .ok (.invokestatic idx, 3) ∨ kd = 2 ∧ decode cc pc = .ok (.invokespecial idx, 3)) (hs : pInvoke call cls idx kd st h = some (st', h', dc, ds)) (hcl : nc + dc ≤ R.cells) (hsl : ns + ds ≤ R.slots) (K : pK p l e R s m args below meth c Q G D nL (pc + 3) lv st' h' (nc + dc) (ns + ds)) : pK p l e R s m args below meth c Q G D nL pc lv st h nc ns := by
  obtain ⟨hx, hb, hml, hown, hcls, hts, hini, hE, hbase⟩ := id FX
  have hcat : G.2.2.1.category = 1 := hE.2.2.2.2.2.2.2.1
  unfold pInvoke at hs
  split at hs
  · cases hs
  · rename_i mn P hq
    split at hs
    · cases hs
    · rename_i M hM
      by_cases hk : M.1.2.2.2.2.2 = kd
      · rw [if_pos hk] at hs
        split at hs
        · cases hs
        · rename_i as rest hA
          by_cases hc : 8 < (rest.map fun v => v.category).sum ∨ (kd ≠ 1 ∧ pIs h M.1.2.1 (as.headD .null) = false)
          · rw [if_pos hc] at hs; cases hs
          · rw [if_neg hc] at hs
            obtain ⟨⟨r1, r2, r3, r4⟩, h1, h2⟩ := Option.map_eq_some_iff.mp hs
            cases h2
            obtain ⟨r, hr9⟩ : ∃ r : pR, r = (r1, h', dc, ds) := ⟨_, rfl⟩
            have hrest : (rest.map fun v => v.category).sum ≤ 8 := Nat.not_lt.mp (fun q => hc (Or.inl q))
            obtain ⟨hst, hlen⟩ := pArgs_some hA
            rw [← hr9] at h1
            have hMet := hcall mn as h r h1 M hM
            subst hr9
            have ok := pMem hM
            obtain ⟨o1, o2, o3, o4, o5, o6, o7, o8, o9, o10, o11⟩ := id ok
            have hlink : (Cond.methodLink (pCn.getD cls "") idx M.1.1).before args s = true := by
              have w := (pMl_ok cls hcls _ (pFind_some hq)).1
              rw [hM] at w
              exact hts _ (pT_in w rfl)
            have hin := pWs_in ok
            have hcode : (Cond.code M.1.1 (pCd M.2.1) M.1.2.2.1 M.1.2.2.2.1).before args s = true := hts _ (hin _ List.mem_cons_self)
            have hinit : (Cond.initialized M.1.1.cls).before args s = true := hts _ (pT_in o4 rfl)
            have hdesc : ∀ sig, parseMethodDescriptor M.1.1.desc = some sig → M.1.2.2.2.2.1 = sig.parameters.length := fun sig hsig => by
              rw [hsig] at o8
              exact (Option.some.inj o8).symm
            have hB : CallB R s args (pCn.getD cls "") idx M.1.1 (pCd M.2.1) M.1.2.2.1 M.1.2.2.2.1 (pWs M) (pRoom nd (r1, h', dc, ds)) dc ds M.1.2.2.2.2.1 :=
              ⟨rfl, rfl, hR.1, by show 8 + (M.1.2.2.1 + 11) + 64 * nd ≤ _; omega, fun w hw a' U hW => word_at hW (good_of_word (pGood w (hin w hw))) (hts w (hin w hw)), List.mem_cons_self, hcode, hinit, o7, hdesc, hlink⟩
            intro ls H locs hl hP hz hS
            have hpre : ∀ U : State, U.heap = H → s.WarmedH U.vm → pPc G X D as h (as.map (rV G)).toArray U := fun U hU hW => ⟨rfl, by rw [hU]; exact hP, by rw [hU]; exact hz, hE.step hW (fun q h1 h2 => by rw [hU]; exact hS.2.1 q h1 h2) hbase⟩
            have hw8 : 2 * (F0 m pc ls (st.map (rV G))).monitorRoom + ((rest.map (rV G)).map fun v => v.category).sum ≤ 8 := lv_room (by rw [rV_sum hcat]; exact hrest)
            have hsz : (F0 m pc ls (st.map (rV G))).locals.size = nL := hl.1
            refine pBack (r := (r1, h', dc, ds)) (rest0 := rest) (a := (as.map (rV G)).toArray) hl hS ?_ K
            rcases hd with ⟨rfl, hd⟩ | ⟨rfl, hd⟩ | ⟨rfl, hd⟩
            · rw [if_neg (by decide)] at hlen
              cases as with
              | nil => cases hlen
              | cons v as =>
                have hlen2 : as.length = M.1.2.2.2.2.1 := Nat.succ.inj hlen
                have hIs : pIs h M.1.2.1 v = true := by
                  cases hz9 : pIs h M.1.2.1 v with
                  | true => rfl
                  | false => exact absurd (Or.inr ⟨by decide, hz9⟩) hc
                obtain ⟨b, cellB, hrv, hrecv⟩ : ∃ (b : Nat) (cellB : Cell), rV G v = .ref b ∧ (H[b]? = some cellB ∧ cellB.vm.isStatics = false ∧ s.vm.findClass M.1.1.cls = some cellB.cls) := by
                  unfold pIs at hIs
                  split at hIs
                  · rename_i a
                    by_cases ha : a < 2
                    · rw [if_pos ha] at hIs
                      have e13 := of_decide_eq_true hIs
                      rw [e13] at o5
                      have e14 : M.1.1.cls = "java/lang/String" := (Option.some.inj o5).symm
                      obtain ⟨cellB, g⟩ := vk_recv hE.2.1 ha hS
                      exact ⟨G.2.1 a, cellB, rV_str (lt_24 ha), by rw [e14]; exact g⟩
                    · rw [if_neg ha] at hIs
                      split at hIs
                      · rename_i ci fs hat
                        have e13 := of_decide_eq_true hIs
                        obtain ⟨ha6, hat⟩ := pAt_some hat
                        obtain ⟨q9, g1, cell, g2, g3, g4, -⟩ := hP (a - 6) _ (rW_at hat)
                        have hci : ci < 13 := by
                          have := (List.getElem?_eq_some_iff.mp g1).1
                          exact this
                        obtain ⟨c1, -, -, -, -, c6, -⟩ := pCls ci hci
                        obtain ⟨cellB, g⟩ := va_recv hE.1 hP c1 (rW_at hat)
                        refine ⟨G.1 + (a - 6), cellB, rV_heap ha6, ?_⟩
                        have e14 : M.1.1.cls = (vwCl.getD ci ("", TX0, 0)).1 := by
                          rw [← c6, e13, List.getD_eq_getElem?_getD, o5]
                          rfl
                        rw [e14]
                        exact g
                      · cases hIs
                  · cases hIs
                have hst2 : st.map (rV G) = (as.map (rV G)).reverse ++ .ref b :: rest.map (rV G) := by
                  rw [hst, List.reverse_cons, List.map_append, List.map_append, List.map_reverse, List.map_cons, hrv]
                  simp
                have := va_runV (p := p) (l := l) (e := e) (R := R) (below := below) (meth := meth) (locs := locs) (cells := nc) (slots := ns) (C := M.1.1.cls) (b := b) (As := as.map (rV G)) (rest := rest.map (rV G)) (g := F0 m pc ls (st.map (rV G))) ⟨hx, hb, hml, hown, hts⟩ hMet ⟨hB, hts _ (pT_in (o2.trans (by rw [hk]; rfl)) rfl), hts _ (pT_in (o3 hk) rfl)⟩ ⟨pBlind G X D (v :: as) h, ⟨cellB, hrecv⟩, fun U hU hW => by have := hpre U hU hW; rw [List.map_cons, hrv] at this; exact this⟩ rfl (by rw [List.length_map]; exact hlen2) hsz hst2 hw8 hd ⟨hcl, hsl⟩
                rw [List.map_cons, hrv]
                exact this
            · rw [if_pos rfl] at hlen
              have hst2 : st.map (rV G) = (as.map (rV G)).reverse ++ rest.map (rV G) := by
                rw [hst, List.map_append, List.map_reverse]
              exact va_runS (p := p) (l := l) (e := e) (R := R) (below := below) (meth := meth) (locs := locs) (cells := nc) (slots := ns) (As := as.map (rV G)) (rest := rest.map (rV G)) (g := F0 m pc ls (st.map (rV G))) ⟨hx, hb, hml, hown, hts⟩ hMet ⟨hB, hts _ (pT_in (o2.trans (by rw [hk]; rfl)) rfl)⟩ ⟨pBlind G X D as h, hpre⟩ rfl (by rw [List.length_map]; exact hlen) hsz hst2 hw8 hd ⟨hcl, hsl⟩
            · rw [if_neg (by decide)] at hlen
              cases as with
              | nil => cases hlen
              | cons v as =>
                have hlen2 : as.length = M.1.2.2.2.2.1 := Nat.succ.inj hlen
                have hIs : pIs h M.1.2.1 v = true := by
                  cases hz9 : pIs h M.1.2.1 v with
                  | true => rfl
                  | false => exact absurd (Or.inr ⟨by decide, hz9⟩) hc
                obtain ⟨b, hrv⟩ : ∃ b : Nat, rV G v = .ref b := by
                  unfold pIs at hIs
                  split at hIs
                  · rename_i a
                    by_cases ha : a < 2
                    · exact ⟨_, rV_str (lt_24 ha)⟩
                    · rw [if_neg ha] at hIs
                      split at hIs
                      · rename_i ci fs hat
                        exact ⟨_, rV_heap (pAt_some hat).1⟩
                      · cases hIs
                  · cases hIs
                have hst2 : st.map (rV G) = (as.map (rV G)).reverse ++ .ref b :: rest.map (rV G) := by
                  rw [hst, List.reverse_cons, List.map_append, List.map_append, List.map_reverse, List.map_cons, hrv]
                  simp
                rw [o11 hk] at hB
                have := va_runI (p := p) (l := l) (e := e) (R := R) (below := below) (meth := meth) (locs := locs) (cells := nc) (slots := ns) (b := b) (As := as.map (rV G)) (rest := rest.map (rV G)) (g := F0 m pc ls (st.map (rV G))) ⟨hx, hb, hml, hown, hts⟩ hMet ⟨hB, o9.mp hk, hts _ (pT_in (o2.trans (by rw [hk]; rfl)) rfl)⟩ ⟨pBlind G X D (v :: as) h, fun U hU hW => by have := hpre U hU hW; rw [List.map_cons, hrv] at this; exact this⟩ rfl (by rw [List.length_map]; exact hlen2) hsz hst2 hw8 hd ⟨hcl, hsl⟩
                rw [List.map_cons, hrv]
                exact this
      · rw [if_neg hk] at hs; cases hs
end STC
