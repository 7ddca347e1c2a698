/-! ===== THE WORLD: how the interpreter's heap lies in the machine's. G: the first address, the addresses below 6, the value of 4, the classes of the arrays ===== -/
abbrev pG : Type := Nat × (Nat → Nat) × Value × (Nat → ClassId)
def rA (G : pG) (a : Nat) : Nat := if a < 6 then G.2.1 a else G.1 + (a - 6)
def rV (G : pG) (v : Value) : Value := match v with
  | .ref a => if a = 4 then G.2.2.1 else .ref (rA G a)
  | v => v
def rE (G : pG) (e : pE) : va_E := match e with
  | .inl (ci, fs) => .inr (ci, fs.map (rV G))
  | .inr (t, n, .inl f) => .inl (G.2.2.2 t, n, .inl f)
  | .inr (t, n, .inr (.inl f)) => .inl (G.2.2.2 t, n, .inr (.inl f))
  | .inr (t, n, .inr (.inr f)) => .inl (G.2.2.2 t, n, .inr (.inr (.inr (.inr (fun i => (f i).map (rA G))))))
def rW (G : pG) (h : pH) : va_W := h.mapIdx (fun k e => (G.1 + k, rE G e))
def rL (G : pG) (lv : pL) : List (Nat × Value) := lv.map (fun q => (q.1, rV G q.2))
def pA (G : pG) : Nat → Prop := fun q => G.1 ≤ q
theorem rW_get (G : pG) (h : pH) (k : Nat) : (rW G h)[k]? = (h[k]?).map (fun e => (G.1 + k, rE G e)) := by simp [rW]
theorem rW_at {G : pG} {h : pH} {k : Nat} {e : pE} (hk : h[k]? = some e) : (rW G h)[k]? = some (G.1 + k, rE G e) := by rw [rW_get, hk]; rfl
theorem rW_len (G : pG) (h : pH) : (rW G h).length = h.length := by simp [rW]
theorem rW_D (G : pG) (h : pH) : va_D (pA G) (rW G h) := by
  refine ⟨fun i j p q hi hj e => ?_, fun k q hk => ?_⟩
  · rw [rW_get] at hi hj
    obtain ⟨x, -, rfl⟩ := Option.map_eq_some_iff.mp hi
    obtain ⟨y, -, rfl⟩ := Option.map_eq_some_iff.mp hj
    exact Nat.add_left_cancel e
  · rw [rW_get] at hk
    obtain ⟨x, -, rfl⟩ := Option.map_eq_some_iff.mp hk
    exact Nat.le_add_right _ _
theorem rW_set (G : pG) (h : pH) (k : Nat) (e : pE) : (rW G h).set k (G.1 + k, rE G e) = rW G (h.set k e) := by
  apply List.ext_getElem?
  intro j
  rw [List.getElem?_set, rW_get, rW_get, List.getElem?_set, rW_len]
  by_cases hk : k = j
  · subst hk
    by_cases hl : k < h.length
    · simp [hl]
    · simp [hl]
  · simp [hk]
theorem rW_app (G : pG) (h h2 : pH) : rW G (h ++ h2) = rW G h ++ h2.mapIdx (fun k e => (G.1 + (h.length + k), rE G e)) := by
  apply List.ext_getElem?
  intro j
  rw [rW_get]
  by_cases hj : j < h.length
  · rw [List.getElem?_append_left hj, List.getElem?_append_left (by rw [rW_len]; exact hj), rW_get]
  · rw [List.getElem?_append_right (by omega), List.getElem?_append_right (by rw [rW_len]; omega), rW_len, List.getElem?_mapIdx]
    rw [show h.length + (j - h.length) = j by omega]
theorem rW_app1 (G : pG) (h : pH) (e : pE) : rW G (h ++ [e]) = rW G h ++ [(G.1 + h.length, rE G e)] := by rw [rW_app]; rfl
theorem rV_cat {G : pG} (hs : G.2.2.1.category = 1) (v : Value) : (rV G v).category = v.category := by
  cases v with
  | ref a =>
    show (if a = 4 then G.2.2.1 else Value.ref (rA G a)).category = 1
    by_cases h : a = 4
    · rw [if_pos h, hs]
    · rw [if_neg h]; rfl
  | _ => rfl
theorem rV_ref {G : pG} {a : Nat} (h : ¬ a = 4) : rV G (.ref a) = .ref (rA G a) := if_neg h
theorem rV_heap {G : pG} {a : Nat} (h : ¬ a < 6) : rV G (.ref a) = .ref (G.1 + (a - 6)) := by
  rw [rV_ref (by omega)]
  unfold rA
  rw [if_neg h]
theorem rV_new (G : pG) (n : Nat) : rV G (.ref (6 + n)) = .ref (G.1 + n) := by
  rw [rV_heap (by omega), show 6 + n - 6 = n by omega]
theorem pGet_mem {lv : pL} {i : Nat} {v : Value} (h : pGet lv i = some v) : (i, v) ∈ lv := by
  unfold pGet at h
  obtain ⟨q, hq, rfl⟩ := Option.map_eq_some_iff.mp h
  have h1 := List.mem_of_find?_eq_some hq
  have h2 := List.find?_some hq
  have h3 : q.1 = i := by simpa using h2
  rw [← h3]
  exact h1
theorem rL_get {G : pG} {lv : pL} {i nL : Nat} {v : Value} {ls : Array Slot} (h : pGet lv i = some v) (hl : lv_has ls nL (rL G lv)) : ls[i]? = some (.val (rV G v)) :=
  hl.2.2 (i, rV G v) (List.mem_map.mpr ⟨(i, v), pGet_mem h, rfl⟩)
theorem rL_idx {G : pG} {lv : pL} {i : Nat} {v : Value} (h : pGet lv i = some v) : ∃ k : Nat, (rL G lv)[k]? = some (i, rV G v) :=
  List.mem_iff_getElem?.mp (List.mem_map.mpr ⟨(i, v), pGet_mem h, rfl⟩)
theorem rL_set1 {G : pG} (hs : G.2.2.1.category = 1) (lv : pL) (i : Nat) (v : Value) : (i, rV G v) :: (rL G lv).filter (fun q => !(q.1 == i) && !(q.1 + 1 == i && q.2.category == 2)) = rL G (pSet1 lv i v) := by
  unfold rL pSet1
  rw [List.map_cons, List.filter_map]
  refine congrArg _ (congrArg _ (List.filter_congr (fun q _ => ?_)))
  simp [Function.comp, rV_cat hs]
theorem rL_set2 {G : pG} (hs : G.2.2.1.category = 1) (lv : pL) (i : Nat) (v : Value) : (i, rV G v) :: (rL G lv).filter (fun q => !(q.1 == i) && (!(q.1 == i + 1) && !(q.1 + 1 == i && q.2.category == 2))) = rL G (pSet2 lv i v) := by
  unfold rL pSet2
  rw [List.map_cons, List.filter_map]
  refine congrArg _ (congrArg _ (List.filter_congr (fun q _ => ?_)))
  simp [Function.comp, rV_cat hs]
theorem rL_args {G : pG} (hs : G.2.2.1.category = 1) : ∀ (as : List Value) (i : Nat), rL G (lv_args i as) = lv_args i (as.map (rV G))
  | [], _ => rfl
  | v :: as, i => by
    rw [List.map_cons, lv_args, lv_args, rV_cat hs, ← rL_args hs as]
    rfl
theorem rL_sl {G : pG} (hs : G.2.2.1.category = 1) : ∀ as : List Value, (lg_sl (as.map (rV G))).length = (lg_sl as).length
  | [] => rfl
  | v :: as => by
    have ih := rL_sl hs as
    unfold lg_sl at ih ⊢
    rw [List.map_cons, List.flatMap_cons, List.flatMap_cons, List.length_append, List.length_append, ih, rV_cat hs]
    by_cases h : v.category = 2
    · rw [if_pos h, if_pos h]; rfl
    · rw [if_neg h, if_neg h]; rfl
theorem rV_sum {G : pG} (hs : G.2.2.1.category = 1) (st : List Value) : ((st.map (rV G)).map fun v => v.category).sum = (st.map fun v => v.category).sum := by
  rw [List.map_map]
  exact congrArg _ (List.map_congr_left (fun v _ => rV_cat hs v))
theorem pAt_some {h : pH} {a : Nat} {e : pE} (q : pAt h a = some e) : ¬ a < 6 ∧ h[a - 6]? = some e := by
  unfold pAt at q
  by_cases ha : a < 6
  · rw [if_pos ha] at q; cases q
  · rw [if_neg ha] at q; exact ⟨ha, q⟩
theorem pJump_some {pc : Nat} {off : Int} {t : Nat} (h : pJump pc off = some t) : (pc : Int) + off = (t : Int) := by
  unfold pJump at h
  cases e : (pc : Int) + off with
  | ofNat n => rw [e] at h; cases h; rfl
  | negSucc n => rw [e] at h; cases h
theorem pFind_some {α : Type} {t : List (List (Nat × α))} {c i : Nat} {x : α} (h : pFind t c i = some x) : (i, x) ∈ t.getD c [] := by
  unfold pFind at h
  obtain ⟨q, hq, rfl⟩ := Option.map_eq_some_iff.mp h
  have h1 := List.mem_of_find?_eq_some hq
  have h2 := List.find?_some hq
  have h3 : q.1 = i := by simpa using h2
  rw [← h3]
  exact h1
/-- the four kinds of arrays -/
def pTy (G : pG) : List (ClassId × FieldType) := [(G.2.2.2 0, .int), (G.2.2.2 1, .long), (G.2.2.2 2, .boolean), (G.2.2.2 3, .array .int)]
/-- what stands outside of the heap, and the tables -/
def pExt (G : pG) (X : pX) (D : va_G) (U : State) : Prop :=
  va_K D vwCl (pTy G) U ∧ vk_S 2 pLen1 pByt (fun i => G.2.1 i) (fun i => G.2.1 (i + 2)) (pA G) U U.heap ∧
  (∀ i, i < 2 → vk_R (pSown.getD i ("", 0)).1 (pSown.getD i ("", 0)).2 (pTx.getD i "") (G.2.1 i) U) ∧
  va_Z "java/lang/String" "COMPACT_STRINGS" "Z" (.int 1) (pA G) U U.heap ∧
  va_Z "jdk/internal/util/Preconditions" "SIOOBE_FORMATTER" "Ljava/util/function/BiFunction;" G.2.2.1 (pA G) U U.heap ∧
  va_X (G.2.1 5) X.1 X.2 U U.heap ∧ G.2.1 5 < G.1 ∧ G.2.2.1.category = 1 ∧ (∀ w ∈ lw_tbl, pStay w = true → w.before #[] U = true)
theorem pStay_warm {w : Cond} {s U : State} (hp : pStay w = true) (hW : s.WarmedH U.vm) (h : w.before #[] s = true) : w.before #[] U = true := by
  unfold pStay at hp
  split at hp
  · exact va_Nw.warmF hW h
  · exact over_moved hW.alike h
  · cases hp
theorem pStay_same {w : Cond} {u U : State} (hp : pStay w = true) (hv : U.vm = u.vm) (h : w.before #[] u = true) : w.before #[] U = true := by
  unfold pStay at hp
  split at hp
  · exact va_Nw.same rfl hv.symm h
  · exact over_moved (by rw [hv]; exact Vm.Alike.refl _) h
  · cases hp
/-- it stays, where nothing below the heap's first address changes -/
theorem pExt.step {G : pG} {X : pX} {D : va_G} {s U : State} (h : pExt G X D s) (hW : s.WarmedH U.vm) (hk : ∀ q : Nat, q < s.heap.size → ¬ pA G q → U.heap[q]? = s.heap[q]?) (hb : G.1 ≤ s.heap.size) : pExt G X D U := by
  obtain ⟨h1, h2, h3, h4, h5, h6, h7, h8, h9⟩ := h
  have ha := hW.alike
  exact ⟨va_K.moved ha h1, vk_S.moved ha (vk_S.kept h2 hk), fun i hi => (h3 i hi).warm hW, va_Z.moved ha (h4.kept hk), va_Z.moved ha (h5.kept hk), va_X.moved ha (h6.kept (hk _ (by omega) (fun q => by have : G.1 ≤ G.2.1 5 := q; omega))), h7, h8, fun w hw hp => pStay_warm hp hW (h9 w hw hp)⟩
theorem pExt.nest {G : pG} {X : pX} {D : va_G} {s : State} {args : Array Value} {n i : Nat} {a b nm d hs : String} (h : pExt G X D s) (hw : pW n = some (.fieldLinkNest a i b nm d hs)) : (Cond.fieldLinkNest a i b nm d hs).before args s = true :=
  va_Nw.use rfl (h.2.2.2.2.2.2.2.2 _ (pW_in hw) rfl)
theorem pExt.over {G : pG} {X : pX} {D : va_G} {s : State} {args : Array Value} (h : pExt G X D s) : (Cond.arrayOver (.array .int)).before args s = true :=
  over_moved (Vm.Alike.refl _) (h.2.2.2.2.2.2.2.2 _ pa_over rfl)
