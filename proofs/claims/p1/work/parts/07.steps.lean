/-! ===== STEPS: what the interpreter does at an instruction, the machine does ===== -/
theorem rV_str {G : pG} {a : Nat} (h : a < 4) : rV G (.ref a) = .ref (G.2.1 a) := by
  rw [rV_ref (by omega)]
  unfold rA
  rw [if_pos (by omega)]
theorem rV_byt {G : pG} {a : Nat} (h : a = 2 ∨ a = 3) : rV G (.ref a) = .ref (G.2.1 (a - 2 + 2)) := by
  rw [rV_str (by omega), show a - 2 + 2 = a by omega]
theorem lt_24 {a : Nat} (h : a < 2) : a < 4 := by omega
theorem lt_24b {a : Nat} (h : a < 2) : a + 2 < 4 := by omega
theorem lt_byt {a : Nat} (h : a = 2 ∨ a = 3) : a - 2 < 2 := by omega
theorem pALoad_some {lv : pL} {i : Nat} {st s1 : List Value} (h : pALoad lv i st = some s1) : ∃ a, ¬ a = 4 ∧ pGet lv i = some (.ref a) ∧ s1 = .ref a :: st := by
  unfold pALoad at h
  split at h
  · rename_i a hg
    by_cases q : a = 4
    · rw [if_pos q] at h; cases h
    · rw [if_neg q] at h; cases h; exact ⟨a, q, hg, rfl⟩
  · cases h
theorem pILoad_some {lv : pL} {i : Nat} {st s1 : List Value} (h : pILoad lv i st = some s1) : ∃ x, pGet lv i = some (.int x) ∧ s1 = .int x :: st := by
  unfold pILoad at h
  split at h
  · rename_i x hg
    cases h; exact ⟨x, hg, rfl⟩
  · cases h
theorem pLLoad_some {lv : pL} {i : Nat} {st s1 : List Value} (h : pLLoad lv i st = some s1) : ∃ x, pGet lv i = some (.long x) ∧ s1 = .long x :: st := by
  unfold pLLoad at h
  split at h
  · rename_i x hg
    cases h; exact ⟨x, hg, rfl⟩
  · cases h
theorem pIStore_some {nL : Nat} {lv : pL} {i : Nat} {st : List Value} {q : pL × List Value} (h : pIStore nL lv i st = some q) : ∃ x r, st = .int x :: r ∧ i < nL ∧ q = (pSet1 lv i (.int x), r) := by
  unfold pIStore at h
  split at h
  · rename_i x r
    by_cases z : i < nL
    · rw [if_pos z] at h; cases h; exact ⟨x, r, rfl, z, rfl⟩
    · rw [if_neg z] at h; cases h
  · cases h
theorem pLStore_some {nL : Nat} {lv : pL} {i : Nat} {st : List Value} {q : pL × List Value} (h : pLStore nL lv i st = some q) : ∃ x r, st = .long x :: r ∧ i + 1 < nL ∧ q = (pSet2 lv i (.long x), r) := by
  unfold pLStore at h
  split at h
  · rename_i x r
    by_cases z : i + 1 < nL
    · rw [if_pos z] at h; cases h; exact ⟨x, r, rfl, z, rfl⟩
    · rw [if_neg z] at h; cases h
  · cases h
theorem pAStore_some {nL : Nat} {lv : pL} {i : Nat} {st : List Value} {q : pL × List Value} (h : pAStore nL lv i st = some q) : ∃ a r, st = .ref a :: r ∧ i < nL ∧ ¬ a = 4 ∧ q = (pSet1 lv i (.ref a), r) := by
  unfold pAStore at h
  split at h
  · rename_i a r
    by_cases z : i < nL ∧ ¬ a = 4
    · rw [if_pos z] at h; cases h; exact ⟨a, r, rfl, z.1, z.2, rfl⟩
    · rw [if_neg z] at h; cases h
  · cases h
theorem pIinc_some {nL : Nat} {lv l : pL} {i : Nat} {n : Int} (h : pIinc nL lv i n = some l) : ∃ x, pGet lv i = some (.int x) ∧ i < nL ∧ l = pSet1 lv i (.int (x + Int32.ofInt n)) := by
  unfold pIinc at h
  split at h
  · rename_i x hg
    by_cases z : i < nL
    · rw [if_pos z] at h; cases h; exact ⟨x, hg, z, rfl⟩
    · rw [if_neg z] at h; cases h
  · cases h
theorem pII_some {st s1 : List Value} {f : Int32 → Int32 → Option Int32} (h : pII st f = some s1) : ∃ x y r z, st = .int y :: .int x :: r ∧ f x y = some z ∧ s1 = .int z :: r := by
  unfold pII at h
  split at h
  · rename_i y x r
    obtain ⟨z, h1, rfl⟩ := Option.map_eq_some_iff.mp h
    exact ⟨x, y, r, z, rfl, h1, rfl⟩
  · cases h
theorem pLL_some {st s1 : List Value} {f : Int64 → Int64 → Value} (h : pLL st f = some s1) : ∃ x y r, st = .long y :: .long x :: r ∧ s1 = f x y :: r := by
  unfold pLL at h
  split at h
  · rename_i y x r
    cases h; exact ⟨x, y, r, rfl, rfl⟩
  · cases h
theorem pI1_some {st s1 : List Value} {f : Int32 → Value} (h : pI1 st f = some s1) : ∃ x r, st = .int x :: r ∧ s1 = f x :: r := by
  unfold pI1 at h
  split at h
  · rename_i x r
    cases h; exact ⟨x, r, rfl, rfl⟩
  · cases h
theorem pL1_some {st s1 : List Value} {f : Int64 → Value} (h : pL1 st f = some s1) : ∃ x r, st = .long x :: r ∧ s1 = f x :: r := by
  unfold pL1 at h
  split at h
  · rename_i x r
    cases h; exact ⟨x, r, rfl, rfl⟩
  · cases h
theorem pIn_of {i : Int32} {n : Nat} {α : Type} {x y : Option α} {v : α} (h : (if i < 0 ∨ n ≤ i.toNatClampNeg then none else x) = some v) : vp_in i n ∧ x = some v := by
  by_cases q : i < 0 ∨ n ≤ i.toNatClampNeg
  · rw [if_pos q] at h; cases h
  · rw [if_neg q] at h; exact ⟨q, h⟩
theorem pCls : ∀ ci, ci < 13 → vwCl[ci]? = some (vwCl.getD ci ("", TX0, 0)) ∧ (∀ w ∈ u_ws (vwCl.getD ci ("", TX0, 0)).1 (vwCl.getD ci ("", TX0, 0)).2.1 (vwCl.getD ci ("", TX0, 0)).2.2, w ∈ pT) ∧ (∀ k, k < (vwCl.getD ci ("", TX0, 0)).2.2 → parseFieldDescriptor ((vwCl.getD ci ("", TX0, 0)).2.1 k).2.2.1 = some ((pTys.getD ci tyX0) k)) ∧ (∀ a, a < (vwCl.getD ci ("", TX0, 0)).2.2 → ∀ b, b < (vwCl.getD ci ("", TX0, 0)).2.2 → a ≠ b → ((vwCl.getD ci ("", TX0, 0)).2.1 a).2.1 ≠ ((vwCl.getD ci ("", TX0, 0)).2.1 b).2.1) ∧ (∀ j, j < (vwCl.getD ci ("", TX0, 0)).2.2 → defaultValue ((pTys.getD ci tyX0) j) = vp_V (pFs0.getD ci []) j) ∧ pCn.getD ci "" = (vwCl.getD ci ("", TX0, 0)).1 ∧ (∀ v ∈ pFs0.getD ci [], ∀ a, v ≠ .ref a)
  | 0, _ => ⟨rfl, pIn0, tyX0_ok, nmX0, by decide +kernel, rfl, fun v hv a => by
      have : (pFs0.getD 0 []).all (fun v => match v with | .ref _ => false | _ => true) = true := by decide +kernel
      have h2 := List.all_eq_true.mp this v hv
      intro e
      rw [e] at h2
      cases h2⟩
  | 1, _ => ⟨rfl, pIn1, tyX1_ok, nmX1, by decide +kernel, rfl, fun v hv a => by
      have : (pFs0.getD 1 []).all (fun v => match v with | .ref _ => false | _ => true) = true := by decide +kernel
      have h2 := List.all_eq_true.mp this v hv
      intro e
      rw [e] at h2
      cases h2⟩
  | 2, _ => ⟨rfl, pIn2, tyX2_ok, nmX2, by decide +kernel, rfl, fun v hv a => by
      have : (pFs0.getD 2 []).all (fun v => match v with | .ref _ => false | _ => true) = true := by decide +kernel
      have h2 := List.all_eq_true.mp this v hv
      intro e
      rw [e] at h2
      cases h2⟩
  | 3, _ => ⟨rfl, pIn3, tyX3_ok, nmX3, by decide +kernel, rfl, fun v hv a => by
      have : (pFs0.getD 3 []).all (fun v => match v with | .ref _ => false | _ => true) = true := by decide +kernel
      have h2 := List.all_eq_true.mp this v hv
      intro e
      rw [e] at h2
      cases h2⟩
  | 4, _ => ⟨rfl, pIn4, tyX4_ok, nmX4, by decide +kernel, rfl, fun v hv a => by
      have : (pFs0.getD 4 []).all (fun v => match v with | .ref _ => false | _ => true) = true := by decide +kernel
      have h2 := List.all_eq_true.mp this v hv
      intro e
      rw [e] at h2
      cases h2⟩
  | 5, _ => ⟨rfl, pIn5, tyX5_ok, nmX5, by decide +kernel, rfl, fun v hv a => by
      have : (pFs0.getD 5 []).all (fun v => match v with | .ref _ => false | _ => true) = true := by decide +kernel
      have h2 := List.all_eq_true.mp this v hv
      intro e
      rw [e] at h2
      cases h2⟩
  | 6, _ => ⟨rfl, pIn6, tyX6_ok, nmX6, by decide +kernel, rfl, fun v hv a => by
      have : (pFs0.getD 6 []).all (fun v => match v with | .ref _ => false | _ => true) = true := by decide +kernel
      have h2 := List.all_eq_true.mp this v hv
      intro e
      rw [e] at h2
      cases h2⟩
  | 7, _ => ⟨rfl, pIn7, tyX7_ok, nmX7, by decide +kernel, rfl, fun v hv a => by
      have : (pFs0.getD 7 []).all (fun v => match v with | .ref _ => false | _ => true) = true := by decide +kernel
      have h2 := List.all_eq_true.mp this v hv
      intro e
      rw [e] at h2
      cases h2⟩
  | 8, _ => ⟨rfl, pIn8, tyX8_ok, nmX8, by decide +kernel, rfl, fun v hv a => by
      have : (pFs0.getD 8 []).all (fun v => match v with | .ref _ => false | _ => true) = true := by decide +kernel
      have h2 := List.all_eq_true.mp this v hv
      intro e
      rw [e] at h2
      cases h2⟩
  | 9, _ => ⟨rfl, pIn9, tyX9_ok, nmX9, by decide +kernel, rfl, fun v hv a => by
      have : (pFs0.getD 9 []).all (fun v => match v with | .ref _ => false | _ => true) = true := by decide +kernel
      have h2 := List.all_eq_true.mp this v hv
      intro e
      rw [e] at h2
      cases h2⟩
  | 10, _ => ⟨rfl, pIn10, tyX10_ok, nmX10, by decide +kernel, rfl, fun v hv a => by
      have : (pFs0.getD 10 []).all (fun v => match v with | .ref _ => false | _ => true) = true := by decide +kernel
      have h2 := List.all_eq_true.mp this v hv
      intro e
      rw [e] at h2
      cases h2⟩
  | 11, _ => ⟨rfl, pIn11, tyX11_ok, nmX11, by decide +kernel, rfl, fun v hv a => by
      have : (pFs0.getD 11 []).all (fun v => match v with | .ref _ => false | _ => true) = true := by decide +kernel
      have h2 := List.all_eq_true.mp this v hv
      intro e
      rw [e] at h2
      cases h2⟩
  | 12, _ => ⟨rfl, pIn12, tyX12_ok, nmX12, by decide +kernel, rfl, fun v hv a => by
      have : (pFs0.getD 12 []).all (fun v => match v with | .ref _ => false | _ => true) = true := by decide +kernel
      have h2 := List.all_eq_true.mp this v hv
      intro e
      rw [e] at h2
      cases h2⟩
  | n + 13, h => absurd h (by omega)
/-- what is fixed in a method's body -/
def pFix (p : Program) (s : State) (m : MethodId) (args : Array Value) (meth : Method) (c : Code) (G : pG) (X : pX) (D : va_G) (cls nL : Nat) (ini : Bool) (cc : ByteArray) : Prop :=
  p.tables.exec = Jvm.exec ∧ c.code = cc ∧ c.maxLocals = nL ∧ s.vm.findClass (pCn.getD cls "") = some m.cls ∧ cls < 22 ∧ (∀ w ∈ pT, w.before args s = true) ∧ (ini = true → meth.name = "<init>") ∧ pExt G X D s ∧ G.1 ≤ s.heap.size
/-- the machine goes on from here to Q -/
def pK (p : Program) (l : Launch) (e : Env) (R : Room) (s : State) (m : MethodId) (args : Array Value) (below : List Frame) (meth : Method) (c : Code) (Q : State → Prop) (G : pG) (D : va_G) (nL : Nat) (pc : Nat) (lv : pL) (st : List Value) (h : pH) (nc ns : Nat) : Prop :=
  ∀ (ls : Array Slot) (H : Heap) (locs : List Loc), lv_has ls nL (rL G lv) → va_P D vwCl (rW G h) H → H.size = G.1 + h.length → va_S (pA G) s.heap H locs → W p l e R s m args below meth c H locs nc ns Q (F0 m pc ls (st.map (rV G)))
theorem pSize {G : pG} {h : pH} {H H1 : Heap} (hz : H.size = G.1 + h.length) (hz1 : H1.size = H.size) (a : Nat) (x : pE) : H1.size = G.1 + (pPut h a x).length := by
  rw [hz1, hz]; simp [pPut]
theorem pTy_get (G : pG) : (pTy G)[0]? = some (G.2.2.2 0, .int) ∧ (pTy G)[1]? = some (G.2.2.2 1, .long) ∧ (pTy G)[2]? = some (G.2.2.2 2, .boolean) ∧ (pTy G)[3]? = some (G.2.2.2 3, .array .int) := ⟨rfl, rfl, rfl, rfl⟩
theorem pFits_ok {G : pG} {ty : FieldType} {v : Value} (h : pFits ty v = true) : narrow ty (rV G v) = rV G v ∧ fits ty (rV G v) = true := by
  unfold pFits at h
  split at h
  · exact ⟨rfl, rfl⟩
  · rename_i x
    rcases Bool.or_eq_true _ _ ▸ h with q | q
    · have e := of_decide_eq_true q
      subst e
      exact ⟨rfl, rfl⟩
    · have e := of_decide_eq_true q
      subst e
      exact ⟨rfl, rfl⟩
  · have e := of_decide_eq_true h
    rw [rV_ref e]
    exact ⟨rfl, rfl⟩
  · have e := of_decide_eq_true h
    rw [rV_ref e]
    exact ⟨rfl, rfl⟩
  · cases h
section STP
variable {p : Program} {l : Launch} {e : Env} {R : Room} {s : State} {m : MethodId} {args : Array Value} {below : List Frame} {meth : Method} {c : Code} {Q : State → Prop}
variable {G : pG} {X : pX} {D : va_G} {cls nL : Nat} {ini : Bool} {cc : ByteArray}
variable {pc pc' : Nat} {lv lv' : pL} {st st' : List Value} {h h' : pH} {nc ns : Nat}
theorem st_getf (F : pFix p s m args meth c G X D cls nL ini cc) {n : Nat} {s1 : List Value} (hd : decode cc pc = .ok (.getfield n, 3)) (hs : pGetf cls n st h = some s1) (K : pK p l e R s m args below meth c Q G D nL (pc + 3) lv s1 h nc ns) : pK p l e R s m args below meth c Q G D nL pc lv st h nc ns := by
  obtain ⟨hx, hb, hml, hown, hcls, hts, hini, hE, hbase⟩ := F
  intro ls H locs hl hP hz hS
  unfold pGetf at hs
  split at hs
  · rename_i a r
    by_cases ha : a < 2
    · rw [if_pos ha] at hs
      obtain ⟨-, hE2, -⟩ := hE
      obtain ⟨-, g2, g3, -⟩ := hE2.1 a ha
      have e1 : rV G (.ref a) = .ref (G.2.1 a) := rV_str (lt_24 ha)
      show W p l e R s m args below meth c H locs nc ns Q (F0 m pc ls (rV G (.ref a) :: r.map (rV G)))
      rw [e1]
      split at hs
      · rename_i q hq
        cases hs
        have hw := pFS_ok cls hcls _ (pFind_some hq)
        rw [if_pos rfl] at hw
        have hw := hts _ (pT_in hw rfl)
        refine vk_getf hx hb g3 hS hown hw (fun _ h9 => h9) hd ?_
        have := K ls H locs hl hP hz hS
        rw [List.map_cons, rV_str (lt_24b ha)] at this
        exact this
      · rename_i q hq
        cases hs
        have hw := pFS_ok cls hcls _ (pFind_some hq)
        rw [if_neg (show ¬ (1 : Nat) = 0 by decide)] at hw
        have hw := hts _ (pT_in hw rfl)
        refine vk_getf hx hb g2 hS hown hw (fun _ h9 => h9) hd ?_
        exact K ls H locs hl hP hz hS
      · cases hs
    · rw [if_neg ha] at hs
      split at hs
      · rename_i ci fs cj k q hat hq
        by_cases hc : ci = cj
        · rw [if_pos hc] at hs
          subst hc
          obtain ⟨v, hv, rfl⟩ := Option.map_eq_some_iff.mp hs
          obtain ⟨ne, P⟩ := q
          obtain ⟨hci, hk, hC, hw⟩ := pFl_ok cls hcls _ (pFind_some hq)
          obtain ⟨c1, c2, c3, c4, c5, c6⟩ := pCls ci hci
          obtain ⟨ha6, hat⟩ := pAt_some hat
          show W p l e R s m args below meth c H locs nc ns Q (F0 m pc ls (rV G (.ref a) :: r.map (rV G)))
          rw [rV_heap ha6]
          have hv2 : (fs.map (rV G))[k]? = some (rV G v) := by rw [List.getElem?_map, hv]; rfl
          by_cases hne : ne = 0
          · rw [if_pos hne] at hw
            have hw := hts _ (pT_in hw rfl)
            exact va_get (C := (vwCl.getD ci ("", TX0, 0)).1) (T := (vwCl.getD ci ("", TX0, 0)).2.1) (N := (vwCl.getD ci ("", TX0, 0)).2.2) hx hb hts c2 hown hE.1 hP (a - 6) (rW_at hat) c1 k hk hw (fun x hx9 => by rw [hC] at hx9; exact hx9) hv2 hd (K ls H locs hl hP hz hS)
          · rw [if_neg hne] at hw
            have hw := hE.nest hw (args := args)
            exact va_getN (C := (vwCl.getD ci ("", TX0, 0)).1) (T := (vwCl.getD ci ("", TX0, 0)).2.1) (N := (vwCl.getD ci ("", TX0, 0)).2.2) hx hb hts c2 hown hE.1 hP (a - 6) (rW_at hat) c1 k hk hw (fun x hx9 => by rw [hC] at hx9; exact hx9) hv2 hd (K ls H locs hl hP hz hS)
        · rw [if_neg hc] at hs; cases hs
      · cases hs
  · cases hs
theorem st_putf (F : pFix p s m args meth c G X D cls nL ini cc) {n : Nat} {q : List Value × pH} (hd : decode cc pc = .ok (.putfield n, 3)) (hs : pPutf cls n ini st h = some q) (K : pK p l e R s m args below meth c Q G D nL (pc + 3) lv q.1 q.2 nc ns) : pK p l e R s m args below meth c Q G D nL pc lv st h nc ns := by
  obtain ⟨hx, hb, hml, hown, hcls, hts, hini, hE, hbase⟩ := F
  intro ls H locs hl hP hz hS
  unfold pPutf at hs
  split at hs
  · rename_i v a r
    split at hs
    · rename_i ci fs cj k ne P hat hq
      by_cases hc : ci = cj ∧ k < fs.length ∧ pFits ((pTys.getD ci tyX0) k) v = true ∧ (((vwCl.getD ci ("", TX0, 0)).2.1 k).2.2.2 = true → ini = true ∧ ci = cls ∧ ne = 0)
      · rw [if_pos hc] at hs
        obtain ⟨rfl, hkl, hft, hfn⟩ := hc
        cases hs
        obtain ⟨hci, hk, hC, hw⟩ := pFl_ok cls hcls _ (pFind_some hq)
        obtain ⟨c1, c2, c3, c4, c5, c6, c7⟩ := pCls ci hci
        obtain ⟨ha6, hat⟩ := pAt_some hat
        obtain ⟨f1, f2⟩ := pFits_ok (G := G) hft
        show W p l e R s m args below meth c H locs nc ns Q (F0 m pc ls (rV G v :: rV G (.ref a) :: r.map (rV G)))
        rw [rV_heap ha6]
        refine qa_put (C := (vwCl.getD ci ("", TX0, 0)).1) (T := (vwCl.getD ci ("", TX0, 0)).2.1) (N := (vwCl.getD ci ("", TX0, 0)).2.2) (host := "ClassHouse") hx hb hts c2 (pTys.getD ci tyX0) c3 c4 hown hE.1 hP (rW_D G h) hS (a - 6) (rW_at hat) c1 k hk hC ?_ f1 f2 (by rw [List.length_map]; exact hkl) hd (fun H1 locs1 hP1 hz1 hS1 => ?_)
        · by_cases hne : ne = 0
          · rw [if_pos hne] at hw
            have hw := hts _ (pT_in hw rfl)
            exact Or.inl ⟨hw, fun hf => ⟨hini (hfn hf).1, by rw [← c6, (hfn hf).2.1]⟩⟩
          · rw [if_neg hne] at hw
            refine Or.inr ⟨hE.nest hw, ?_⟩
            cases hf : ((vwCl.getD ci ("", TX0, 0)).2.1 k).2.2.2 with
            | false => rfl
            | true => exact absurd (hfn hf).2.2 hne
        · rw [← List.map_set] at hP1
          have hP2 : va_P D vwCl ((rW G h).set (a - 6) (G.1 + (a - 6), rE G (.inl (ci, fs.set k v)))) H1 := hP1
          rw [rW_set] at hP2
          exact K ls H1 locs1 hl hP2 (pSize hz hz1 a _) hS1
      · rw [if_neg hc] at hs; cases hs
    · cases hs
  · cases hs
theorem st_gets (F : pFix p s m args meth c G X D cls nL ini cc) {n : Nat} {s1 : List Value} (hd : decode cc pc = .ok (.getstatic n, 3)) (hs : pGets cls n st = some s1) (K : pK p l e R s m args below meth c Q G D nL (pc + 3) lv s1 h nc ns) : pK p l e R s m args below meth c Q G D nL pc lv st h nc ns := by
  obtain ⟨hx, hb, hml, hown, hcls, hts, hini, hE, hbase⟩ := F
  intro ls H locs hl hP hz hS
  obtain ⟨-, -, -, hE4, hE5, -⟩ := hE
  unfold pGets at hs
  split at hs
  · rename_i q hq
    cases hs
    have hw := pGs_ok cls hcls _ (pFind_some hq)
    rw [if_pos rfl] at hw
    have hw := hts _ (pT_in hw rfl)
    exact va_gets hx hb hE4 hS hown hw (fun _ h9 => h9) hd (K ls H locs hl hP hz hS)
  · rename_i q hq
    cases hs
    have hw := pGs_ok cls hcls _ (pFind_some hq)
    rw [if_neg (show ¬ (1 : Nat) = 0 by decide)] at hw
    have hw := hts _ (pT_in hw rfl)
    exact va_gets hx hb hE5 hS hown hw (fun _ h9 => h9) hd (K ls H locs hl hP hz hS)
  · cases hs
theorem st_ldc (F : pFix p s m args meth c G X D cls nL ini cc) {n : Nat} {s1 : List Value} (hd : decode cc pc = .ok (.ldc n, 2)) (hs : pLdc cls n st = some s1) (K : pK p l e R s m args below meth c Q G D nL (pc + 2) lv s1 h nc ns) : pK p l e R s m args below meth c Q G D nL pc lv st h nc ns := by
  obtain ⟨hx, hb, hml, hown, hcls, hts, hini, hE, hbase⟩ := F
  intro ls H locs hl hP hz hS
  obtain ⟨-, -, hE3, -⟩ := hE
  unfold pLdc at hs
  split at hs
  · rename_i k q hq
    cases hs
    obtain ⟨hk, he⟩ := pSt_ok cls hcls _ (pFind_some hq)
    have hR := hE3 k hk
    rw [he] at hR
    refine va_ldcS hx hb hown hR hd ?_
    have := K ls H locs hl hP hz hS
    rw [List.map_cons, rV_str (lt_24 hk)] at this
    exact this
  · split at hs
    · rename_i v q hq
      cases hs
      exact lv_ldc hx hb hown (hts _ (pT_in (pKi_ok cls hcls _ (pFind_some hq)) rfl)) hd (K ls H locs hl hP hz hS)
    · cases hs
theorem st_ldcw (F : pFix p s m args meth c G X D cls nL ini cc) {n : Nat} {s1 : List Value} (hd : decode cc pc = .ok (.ldc_w n, 3)) (hs : pLdcw cls n st = some s1) (K : pK p l e R s m args below meth c Q G D nL (pc + 3) lv s1 h nc ns) : pK p l e R s m args below meth c Q G D nL pc lv st h nc ns := by
  obtain ⟨hx, hb, hml, hown, hcls, hts, hini, hE, hbase⟩ := F
  intro ls H locs hl hP hz hS
  unfold pLdcw at hs
  split at hs
  · rename_i v q hq
    cases hs
    exact lv_ldcw hx hb hown (hts _ (pT_in (pKi_ok cls hcls _ (pFind_some hq)) rfl)) hd (K ls H locs hl hP hz hS)
  · cases hs
theorem st_ldc2 (F : pFix p s m args meth c G X D cls nL ini cc) {n : Nat} {s1 : List Value} (hd : decode cc pc = .ok (.ldc2_w n, 3)) (hs : pLdc2 cls n st = some s1) (K : pK p l e R s m args below meth c Q G D nL (pc + 3) lv s1 h nc ns) : pK p l e R s m args below meth c Q G D nL pc lv st h nc ns := by
  obtain ⟨hx, hb, hml, hown, hcls, hts, hini, hE, hbase⟩ := F
  intro ls H locs hl hP hz hS
  unfold pLdc2 at hs
  split at hs
  · rename_i v q hq
    cases hs
    exact lv_ldc2 hx hb hown (hts _ (pT_in (pKl_ok cls hcls _ (pFind_some hq)) rfl)) hd (K ls H locs hl hP hz hS)
  · cases hs
theorem st_iald (F : pFix p s m args meth c G X D cls nL ini cc) {s1 : List Value} (hd : decode cc pc = .ok (.iaload, 1)) (hs : pIald X st h = some s1) (K : pK p l e R s m args below meth c Q G D nL (pc + 1) lv s1 h nc ns) : pK p l e R s m args below meth c Q G D nL pc lv st h nc ns := by
  obtain ⟨hx, hb, hml, hown, hcls, hts, hini, hE, hbase⟩ := F
  intro ls H locs hl hP hz hS
  unfold pIald at hs
  split at hs
  · rename_i i a r
    by_cases ha : a = 5
    · rw [if_pos ha] at hs
      subst ha
      obtain ⟨hin, hs⟩ := pIn_of (y := none) hs
      cases hs
      obtain ⟨-, -, -, -, -, hE6, hE7, -⟩ := hE
      show W p l e R s m args below meth c H locs nc ns Q (F0 m pc ls (.int i :: rV G (.ref 5) :: r.map (rV G)))
      rw [show rV G (.ref 5) = .ref (G.2.1 5) from rfl]
      exact va_sld hx hb hE6 (by omega) (fun q => by have : G.1 ≤ G.2.1 5 := q; omega) hS hin hd (K ls H locs hl hP hz hS)
    · rw [if_neg ha] at hs
      split at hs
      · rename_i n f hat
        obtain ⟨hin, hs⟩ := pIn_of (y := none) hs
        cases hs
        obtain ⟨ha6, hat⟩ := pAt_some hat
        show W p l e R s m args below meth c H locs nc ns Q (F0 m pc ls (.int i :: rV G (.ref a) :: r.map (rV G)))
        rw [rV_heap ha6]
        exact va_iald hx hb hE.1 hP (a - 6) 0 (rW_at hat) rfl hin hd (K ls H locs hl hP hz hS)
      · cases hs
  · cases hs
theorem st_bald (F : pFix p s m args meth c G X D cls nL ini cc) {s1 : List Value} (hd : decode cc pc = .ok (.baload, 1)) (hs : pBald st h = some s1) (K : pK p l e R s m args below meth c Q G D nL (pc + 1) lv s1 h nc ns) : pK p l e R s m args below meth c Q G D nL pc lv st h nc ns := by
  obtain ⟨hx, hb, hml, hown, hcls, hts, hini, hE, hbase⟩ := F
  intro ls H locs hl hP hz hS
  unfold pBald at hs
  split at hs
  · rename_i i a r
    by_cases ha : a = 2 ∨ a = 3
    · rw [if_pos ha] at hs
      obtain ⟨hin, hs⟩ := pIn_of (y := none) hs
      cases hs
      obtain ⟨-, hE2, -⟩ := hE
      obtain ⟨-, -, -, g4⟩ := hE2.1 (a - 2) (lt_byt ha)
      show W p l e R s m args below meth c H locs nc ns Q (F0 m pc ls (.int i :: rV G (.ref a) :: r.map (rV G)))
      have e1 : rV G (.ref a) = .ref (G.2.1 (a - 2 + 2)) := rV_byt ha
      rw [e1]
      exact va_tb hx hb g4 hS hin rfl hd (K ls H locs hl hP hz hS)
    · rw [if_neg ha] at hs
      split at hs
      · rename_i n f hat
        obtain ⟨hin, hs⟩ := pIn_of (y := none) hs
        cases hs
        obtain ⟨ha6, hat⟩ := pAt_some hat
        show W p l e R s m args below meth c H locs nc ns Q (F0 m pc ls (.int i :: rV G (.ref a) :: r.map (rV G)))
        rw [rV_heap ha6]
        exact va_zald hx hb hE.1 hP (a - 6) 2 (rW_at hat) rfl hin hd (K ls H locs hl hP hz hS)
      · cases hs
  · cases hs
theorem st_lald (F : pFix p s m args meth c G X D cls nL ini cc) {s1 : List Value} (hd : decode cc pc = .ok (.laload, 1)) (hs : pLald st h = some s1) (K : pK p l e R s m args below meth c Q G D nL (pc + 1) lv s1 h nc ns) : pK p l e R s m args below meth c Q G D nL pc lv st h nc ns := by
  obtain ⟨hx, hb, hml, hown, hcls, hts, hini, hE, hbase⟩ := F
  intro ls H locs hl hP hz hS
  unfold pLald at hs
  split at hs
  · rename_i i a r
    split at hs
    · rename_i n f hat
      obtain ⟨hin, hs⟩ := pIn_of (y := none) hs
      cases hs
      obtain ⟨ha6, hat⟩ := pAt_some hat
      show W p l e R s m args below meth c H locs nc ns Q (F0 m pc ls (.int i :: rV G (.ref a) :: r.map (rV G)))
      rw [rV_heap ha6]
      exact va_lald hx hb hE.1 hP (a - 6) 1 (rW_at hat) rfl hin hd (K ls H locs hl hP hz hS)
    · cases hs
  · cases hs
theorem st_aald (F : pFix p s m args meth c G X D cls nL ini cc) {s1 : List Value} (hd : decode cc pc = .ok (.aaload, 1)) (hs : pAald st h = some s1) (K : pK p l e R s m args below meth c Q G D nL (pc + 1) lv s1 h nc ns) : pK p l e R s m args below meth c Q G D nL pc lv st h nc ns := by
  obtain ⟨hx, hb, hml, hown, hcls, hts, hini, hE, hbase⟩ := F
  intro ls H locs hl hP hz hS
  unfold pAald at hs
  split at hs
  · rename_i i a r
    split at hs
    · rename_i n f hat
      obtain ⟨hin, hs⟩ := pIn_of (y := none) hs
      split at hs
      · rename_i b hf
        by_cases hb6 : b < 6
        · rw [if_pos hb6] at hs; cases hs
        · rw [if_neg hb6] at hs
          cases hs
          obtain ⟨ha6, hat⟩ := pAt_some hat
          show W p l e R s m args below meth c H locs nc ns Q (F0 m pc ls (.int i :: rV G (.ref a) :: r.map (rV G)))
          rw [rV_heap ha6]
          refine qa_aald hx hb hE.1 hP (a - 6) 3 (rW_at hat) rfl hin hd ?_
          have := K ls H locs hl hP hz hS
          rw [List.map_cons, rV_ref (by omega)] at this
          show W p l e R s m args below meth c H locs nc ns Q (F0 m (pc + 1) ls (va_rf ((f i.toNatClampNeg).map (rA G)) :: r.map (rV G)))
          rw [hf]
          exact this
      · cases hs
    · cases hs
  · cases hs
theorem st_iast (F : pFix p s m args meth c G X D cls nL ini cc) {q : List Value × pH} (hd : decode cc pc = .ok (.iastore, 1)) (hs : pIast st h = some q) (K : pK p l e R s m args below meth c Q G D nL (pc + 1) lv q.1 q.2 nc ns) : pK p l e R s m args below meth c Q G D nL pc lv st h nc ns := by
  obtain ⟨hx, hb, hml, hown, hcls, hts, hini, hE, hbase⟩ := F
  intro ls H locs hl hP hz hS
  unfold pIast at hs
  split at hs
  · rename_i x i a r
    split at hs
    · rename_i n f hat
      obtain ⟨hin, hs⟩ := pIn_of (y := none) hs
      cases hs
      obtain ⟨ha6, hat⟩ := pAt_some hat
      show W p l e R s m args below meth c H locs nc ns Q (F0 m pc ls (.int x :: .int i :: rV G (.ref a) :: r.map (rV G)))
      rw [rV_heap ha6]
      refine qa_iast hx hb hE.1 hP (rW_D G h) hS (a - 6) 0 (rW_at hat) rfl hin hd (fun H1 locs1 hP1 hz1 hS1 => ?_)
      have hP2 : va_P D vwCl ((rW G h).set (a - 6) (G.1 + (a - 6), rE G (.inr (0, n, .inl (upd f i.toNatClampNeg x))))) H1 := hP1
      rw [rW_set] at hP2
      exact K ls H1 locs1 hl hP2 (pSize hz hz1 a _) hS1
    · cases hs
  · cases hs
theorem st_bast (F : pFix p s m args meth c G X D cls nL ini cc) {q : List Value × pH} (hd : decode cc pc = .ok (.bastore, 1)) (hs : pBast st h = some q) (K : pK p l e R s m args below meth c Q G D nL (pc + 1) lv q.1 q.2 nc ns) : pK p l e R s m args below meth c Q G D nL pc lv st h nc ns := by
  obtain ⟨hx, hb, hml, hown, hcls, hts, hini, hE, hbase⟩ := F
  intro ls H locs hl hP hz hS
  unfold pBast at hs
  split at hs
  · rename_i x i a r
    split at hs
    · rename_i n f hat
      obtain ⟨hin, hs⟩ := pIn_of (y := none) hs
      cases hs
      obtain ⟨ha6, hat⟩ := pAt_some hat
      show W p l e R s m args below meth c H locs nc ns Q (F0 m pc ls (.int x :: .int i :: rV G (.ref a) :: r.map (rV G)))
      rw [rV_heap ha6]
      refine qa_zast hx hb hE.1 hP (rW_D G h) hS (a - 6) 2 (rW_at hat) rfl hin hd (fun H1 locs1 hP1 hz1 hS1 => ?_)
      have hP2 : va_P D vwCl ((rW G h).set (a - 6) (G.1 + (a - 6), rE G (.inr (2, n, .inl (upd f i.toNatClampNeg (vp_nar .boolean x)))))) H1 := hP1
      rw [rW_set] at hP2
      exact K ls H1 locs1 hl hP2 (pSize hz hz1 a _) hS1
    · cases hs
  · cases hs
theorem st_last (F : pFix p s m args meth c G X D cls nL ini cc) {q : List Value × pH} (hd : decode cc pc = .ok (.lastore, 1)) (hs : pLast st h = some q) (K : pK p l e R s m args below meth c Q G D nL (pc + 1) lv q.1 q.2 nc ns) : pK p l e R s m args below meth c Q G D nL pc lv st h nc ns := by
  obtain ⟨hx, hb, hml, hown, hcls, hts, hini, hE, hbase⟩ := F
  intro ls H locs hl hP hz hS
  unfold pLast at hs
  split at hs
  · rename_i x i a r
    split at hs
    · rename_i n f hat
      obtain ⟨hin, hs⟩ := pIn_of (y := none) hs
      cases hs
      obtain ⟨ha6, hat⟩ := pAt_some hat
      show W p l e R s m args below meth c H locs nc ns Q (F0 m pc ls (.long x :: .int i :: rV G (.ref a) :: r.map (rV G)))
      rw [rV_heap ha6]
      refine qa_last hx hb hE.1 hP (rW_D G h) hS (a - 6) 1 (rW_at hat) rfl hin hd (fun H1 locs1 hP1 hz1 hS1 => ?_)
      have hP2 : va_P D vwCl ((rW G h).set (a - 6) (G.1 + (a - 6), rE G (.inr (1, n, .inr (.inl (vp_updL f i.toNatClampNeg x)))))) H1 := hP1
      rw [rW_set] at hP2
      exact K ls H1 locs1 hl hP2 (pSize hz hz1 a _) hS1
    · cases hs
  · cases hs
theorem pKind {G : pG} {X : pX} {D : va_G} {h : pH} {H : Heap} (hP : va_P D vwCl (rW G h) H) {k t n : Nat} {x : (Nat → Int32) ⊕ (Nat → Int64) ⊕ (Nat → Option Nat)} (hk : h[k]? = some (.inr (t, n, x))) : ∃ z : vp_A, z.1 = n ∧ (rW G h)[k]? = some (G.1 + k, .inl (G.2.2.2 t, z)) := by
  have := rW_at (G := G) hk
  rcases x with f | f | f
  · exact ⟨(n, .inl f), rfl, this⟩
  · exact ⟨(n, .inr (.inl f)), rfl, this⟩
  · exact ⟨(n, .inr (.inr (.inr (.inr (fun i => (f i).map (rA G)))))), rfl, this⟩
theorem st_alen (F : pFix p s m args meth c G X D cls nL ini cc) {s1 : List Value} (hd : decode cc pc = .ok (.arraylength, 1)) (hs : pAlen X st h = some s1) (K : pK p l e R s m args below meth c Q G D nL (pc + 1) lv s1 h nc ns) : pK p l e R s m args below meth c Q G D nL pc lv st h nc ns := by
  obtain ⟨hx, hb, hml, hown, hcls, hts, hini, hE, hbase⟩ := F
  intro ls H locs hl hP hz hS
  unfold pAlen at hs
  split at hs
  · rename_i a r
    by_cases ha : a = 5
    · rw [if_pos ha] at hs
      subst ha
      cases hs
      obtain ⟨-, -, -, -, -, hE6, hE7, -⟩ := hE
      show W p l e R s m args below meth c H locs nc ns Q (F0 m pc ls (rV G (.ref 5) :: r.map (rV G)))
      rw [show rV G (.ref 5) = .ref (G.2.1 5) from rfl]
      exact va_slen hx hb hE6 (by omega) (fun q => by have : G.1 ≤ G.2.1 5 := q; omega) hS hd (K ls H locs hl hP hz hS)
    · rw [if_neg ha] at hs
      by_cases ha : a = 2 ∨ a = 3
      · rw [if_pos ha] at hs
        cases hs
        obtain ⟨-, hE2, -⟩ := hE
        obtain ⟨-, -, -, g4⟩ := hE2.1 (a - 2) (lt_byt ha)
        show W p l e R s m args below meth c H locs nc ns Q (F0 m pc ls (rV G (.ref a) :: r.map (rV G)))
        have e1 : rV G (.ref a) = .ref (G.2.1 (a - 2 + 2)) := rV_byt ha
        rw [e1]
        exact va_tlen hx hb g4 hS rfl hd (K ls H locs hl hP hz hS)
      · rw [if_neg ha] at hs
        split at hs
        · rename_i t n x hat
          by_cases ht : t < 4
          · rw [if_pos ht] at hs
            cases hs
            obtain ⟨ha6, hat⟩ := pAt_some hat
            show W p l e R s m args below meth c H locs nc ns Q (F0 m pc ls (rV G (.ref a) :: r.map (rV G)))
            rw [rV_heap ha6]
            obtain ⟨z, hz1, hz2⟩ := pKind (X := X) hP hat
            obtain ⟨ty, hty⟩ : ∃ ty, (pTy G)[t]? = some (G.2.2.2 t, ty) := by
              match t, ht with
              | 0, _ => exact ⟨_, rfl⟩
              | 1, _ => exact ⟨_, rfl⟩
              | 2, _ => exact ⟨_, rfl⟩
              | 3, _ => exact ⟨_, rfl⟩
            exact va_alen hx hb hE.1 hP (a - 6) t hz2 hty (by rw [hz1]) hd (K ls H locs hl hP hz hS)
          · rw [if_neg ht] at hs; cases hs
        · cases hs
  · cases hs
end STP
