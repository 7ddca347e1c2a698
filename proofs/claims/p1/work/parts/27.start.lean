/-! THE CLAIM OUT OF ONE WALK OF THE LAW'S BODY. Your part is whole_start (and what it stands on); all else here is the same for every law, but numbers. -/
def R_law : String := "ClassHouseLaw"
def lw_P (b : Addr) (xs : List Int32) (args : Array Value) (s : State) : Prop := args = #[.ref b] ∧ s.IntsAt b xs ∧ xs.length ≤ 6 ∧ (Jvm.Cond.and given_1 narrow_1).before args s = true
def lw_Q (_ : Array Value) (s : State) (o : Outcome) (t : State) : Prop := o = .returned (some (.int 1)) ∧ Framed s o t [] 105980 8784308
def lw_Z (below : List Frame) (a : Array Value) (s : State) : State → Prop := fun t => ∃ o, t.status = .running ∧ Ended t below o ∧ lw_Q a s o t
/-- the law's own end, with 1 on the stack, nothing written that was there before, its room as the claim has it -/
theorem lw_ret {p : Program} {l : Launch} {e : Env} {s : State} {m : MethodId} {below : List Frame} {meth : Method} {c : Code} {b : Nat} (hx : p.tables.exec = Jvm.exec) (hb : c.code = code) (hr : meth.sig.returnType = ret) (hlocks : meth.locks = false) {pc : Nat} {H : Heap} {ls : Array Slot} (hdg : decode code pc = .ok (.ireturn, 1)) : W p l e room_1 s m #[Value.ref b] below meth c H [] 105980 8784308 (lw_Z below #[Value.ref b] s) (F0 m pc ls [.int 1]) := by
  intro T hT X
  obtain ⟨fs, hret, hrun, hended, hW, hframe⟩ := X.leave (v := some (.int 1)) (hlocks := hlocks) (fun h => by rw [hr] at h; cases h)
  have hmeth' : T.vm.method? m = some meth := X.method'
  refine ⟨T.setFrames fs, ?_, .returned (some (.int 1)), hrun, hended, rfl, ⟨_, rfl⟩, hW, hframe⟩
  jvm_step X.here [X.here.top, hx, hb, hdg, hmeth', hr, ret, narrow_b1]
  (try refine ⟨rfl, ?_⟩); (try refine ⟨rfl, ?_⟩)
  first | (intro acts; rw [hret _ acts rfl rfl rfl]) | rw [hret _ _ rfl rfl rfl]
  exact Steps.refl _
/-- what holds at the law's entry: the machine, the code, the tables' words (any of lw_tbl by 'hts w (by decide +kernel)'), the script of L ints xs at the cell b, what the Statement gives of the start (any of its parts by flat_of_before) -/
def lw_At (p : Program) (s : State) (m : MethodId) (meth : Method) (c : Code) (b L : Nat) (xs : Nat → Int32) : Prop :=
  p.tables.exec = Jvm.exec ∧ c.code = code ∧ meth.sig.returnType = ret ∧ c.maxLocals = 4 ∧ s.vm.findClass R_law = some m.cls ∧ (∀ w ∈ lw_tbl, w.before #[Value.ref b] s = true) ∧ va_X b L xs s s.heap ∧ b < s.heap.size ∧ meth.locks = false ∧ (Jvm.Cond.and given_1 narrow_1).before #[Value.ref b] s = true
/-! ===== THE ENTRY: the machine's start, as the interpreter has it ===== -/
def pIw : List Nat := [2061, 1088, 1204, 2180, 2157, 2174, 1135, 2018, 2080, 2074, 1031, 1023, 7001]
theorem pIw_ok : ∀ ci, ci < 13 → pW (pIw.getD ci 0) = some (.instantiable (vwCl.getD ci ("", TX0, 0)).1 (vwCl.getD ci ("", TX0, 0)).2.2) := by decide +kernel
theorem pClasses {s : State} {args : Array Value} (hts : ∀ w ∈ pT, w.before args s = true) : ∃ D : va_G, ∀ (c : Nat) (q : vw_C), vwCl[c]? = some q → u_Kn s q.1 q.2.1 q.2.2 (D.1 c) (D.2 c) := by
  have h0 : ∀ ci : Nat, ∃ d : ClassId × (Nat → Nat), ∀ q : vw_C, vwCl[ci]? = some q → u_Kn s q.1 q.2.1 q.2.2 d.1 d.2 := by
    intro ci
    by_cases hc : ci < 13
    · obtain ⟨c1, c2, -⟩ := pCls ci hc
      obtain ⟨cC, iS, h⟩ := u_known hts c2 (hts _ (pT_in (pIw_ok ci hc) rfl))
      refine ⟨(cC, iS), fun q hq => ?_⟩
      rw [c1] at hq
      rw [← Option.some.inj hq]
      exact h
    · refine ⟨(0, fun _ => 0), fun q hq => ?_⟩
      have : ci < vwCl.length := (List.getElem?_eq_some_iff.mp hq).1
      exact absurd this hc
  obtain ⟨f, hf⟩ := Classical.axiomOfChoice h0
  exact ⟨(fun c => (f c).1, fun c => (f c).2), fun c q hq => hf c q hq⟩
theorem pArrs {s : State} {args : Array Value} {ty : FieldType} (h : (Cond.arrayClass ty).before args s = true) : ∃ c : ClassId, ArrOfT s c ty ∧ s.vm.findClass ("[" ++ ty.toString) = some c := by
  obtain ⟨c, k, comp, h1, h2, h3⟩ := Cond.arrayClass_spec h
  exact ⟨c, fun n z => ⟨(fun k h => by cases h), k, h2, comp, h3⟩, h1⟩
def pTm (i : Nat) : Term := Term.string (pSown.getD i ("", 0)).1 (pSown.getD i ("", 0)).2
def pFc : List Cond := flatC (Jvm.Cond.and given_1 narrow_1)
def pFp : List Nat := [9, 159]
theorem pFc_ok : ∀ i, i < 2 → pFc[pFp.getD i 0]? = some (Cond.exactly (pTm i) "java/lang/String") ∧ pFc[pFp.getD i 0 + 1]? = some (Cond.eq (.field (pTm i) "java/lang/String" "coder" "B") (.int 0)) ∧ pFc[pFp.getD i 0 + 2]? = some (Cond.arrayOf (.field (pTm i) "java/lang/String" "value" "[B") .byte) ∧ pFc[pFp.getD i 0 + 3]? = some (Cond.eq (.length (.field (pTm i) "java/lang/String" "value" "[B")) (.int (Int32.ofNat (pLen1.getD i 0)))) := by decide +kernel
theorem pFc_el : ∀ i, i < 2 → ∀ j, j < pLen1.getD i 0 → pFc[pFp.getD i 0 + 4 + j]? = some (Cond.eq (.elem (.field (pTm i) "java/lang/String" "value" "[B") (.int (Int32.ofNat j))) (.int ((pByt.getD i []).getD j 0))) := by decide +kernel
theorem pFc_ne : pFc[181]? = some (Cond.not (Cond.eq (pTm 0) (pTm 1))) := by decide +kernel
theorem pFc_cs : pFc[4]? = some (Cond.eq (.static "java/lang/String" "COMPACT_STRINGS" "Z") (.int 1)) := by decide +kernel
theorem pFc_si : pFc[5]? = some (Cond.isRef (.static "jdk/internal/util/Preconditions" "SIOOBE_FORMATTER" "Ljava/util/function/BiFunction;")) := by decide +kernel
def pGof (z b : Nat) (adK adV : Nat → Nat) (v : Value) (cI cL cZ cR : ClassId) : pG := (z, (fun i => match i with | 0 => adK 0 | 1 => adK 1 | 2 => adV 0 | 3 => adV 1 | _ => b), v, (fun t => match t with | 0 => cI | 1 => cL | 2 => cZ | _ => cR))
theorem pStart {s : State} {b L : Nat} {xs : Nat → Int32} (hts : ∀ w ∈ lw_tbl, w.before #[Value.ref b] s = true) (hX : va_X b L xs s s.heap) (hbl : b < s.heap.size) (hgv : (Jvm.Cond.and given_1 narrow_1).before #[Value.ref b] s = true) : ∃ (G : pG) (D : va_G), G.1 = s.heap.size ∧ G.2.1 5 = b ∧ pExt G (L, xs) D s := by
  have hA : ∀ a : Nat, a < s.heap.size → ¬ s.heap.size ≤ a := fun a h => Nat.not_le.mpr h
  have hpT : ∀ w ∈ pT, w.before #[Value.ref b] s = true := fun w hw => hts w (List.mem_filter.mp hw).1
  have hf := flat_of_before _ hgv
  have hF : ∀ {k : Nat} {w : Cond}, pFc[k]? = some w → w.before #[Value.ref b] s = true := fun h => hf _ (List.mem_of_getElem? h)
  obtain ⟨D, hD⟩ := pClasses hpT
  obtain ⟨cI, i1, i2⟩ := pArrs (hpT _ pa_int)
  obtain ⟨cL, l1, l2⟩ := pArrs (hpT _ pa_long)
  obtain ⟨cZ, z1, z2⟩ := pArrs (hpT _ pa_boolean)
  obtain ⟨comp, cR, kR, r1, r2, r3, r4, r5⟩ := arrayOverA_spec (hts _ pa_over)
  obtain ⟨adK, adV, hS, hev⟩ := vk_Sof (N := 2) (tm := pTm) (len := pLen1) (byt := pByt) (A := fun q => s.heap.size ≤ q) (args := #[Value.ref b]) (s := s) (fun i hi => by
      rcases (show i = 0 ∨ i = 1 by omega) with rfl | rfl <;> decide) (fun i hi => hF (pFc_ok i hi).1) (fun i hi => hF (pFc_ok i hi).2.1) (fun i hi => hF (pFc_ok i hi).2.2.1) (fun i hi => hF (pFc_ok i hi).2.2.2) (fun i hi j hj => hF (pFc_el i hi j hj)) (fun i j hi hj hij => by
      have h0 := hF pFc_ne
      rcases (show i = 0 ∨ i = 1 by omega) with rfl | rfl
      · rcases (show j = 0 ∨ j = 1 by omega) with rfl | rfl
        · exact absurd rfl hij
        · exact Or.inl h0
      · rcases (show j = 0 ∨ j = 1 by omega) with rfl | rfl
        · exact Or.inr h0
        · exact absurd rfl hij) hA
  have hcs := va_Zof (A := fun q => s.heap.size ≤ q) (hts _ (pW_in (n := 1046) (w := Cond.laysStatic "java/lang/String" "COMPACT_STRINGS" "Z") (by decide +kernel))) (hts _ (pW_in (n := 1003) (w := Cond.initialized "java/lang/String") (by decide +kernel))) (va_eqi (hF pFc_cs)) hA
  have hsi := va_Zqof (A := fun q => s.heap.size ≤ q) (hts _ (pW_in (n := 3105) (w := Cond.laysStatic "jdk/internal/util/Preconditions" "SIOOBE_FORMATTER" "Ljava/util/function/BiFunction;") (by decide +kernel))) (hts _ (pW_in (n := 1017) (w := Cond.initialized "jdk/internal/util/Preconditions") (by decide +kernel))) (hF pFc_si) hA
  obtain ⟨v, hvc, hv⟩ : ∃ v : Value, v.category = 1 ∧ va_Z "jdk/internal/util/Preconditions" "SIOOBE_FORMATTER" "Ljava/util/function/BiFunction;" v (fun q => s.heap.size ≤ q) s s.heap := by
    rcases hsi with h | ⟨t, h⟩
    · exact ⟨_, rfl, h⟩
    · exact ⟨_, rfl, h⟩
  refine ⟨pGof s.heap.size b adK adV v cI cL cZ cR, D, rfl, rfl, ⟨hD, ?_⟩, ?_, ?_, hcs, hv, hX, hbl, hvc, ?_⟩
  · intro k q hk
    match k, hk with
    | 0, hk => rw [← Option.some.inj hk]; exact ⟨i1, i2⟩
    | 1, hk => rw [← Option.some.inj hk]; exact ⟨l1, l2⟩
    | 2, hk => rw [← Option.some.inj hk]; exact ⟨z1, z2⟩
    | 3, hk => rw [← Option.some.inj hk]; exact ⟨fun n z => ⟨(fun k h => by cases h), kR, r3, comp, r4⟩, r5⟩
    | k + 4, hk => cases hk
  · refine ⟨fun i hi => ?_, fun i j hi hj => ?_⟩
    · rcases (show i = 0 ∨ i = 1 by omega) with rfl | rfl
      · exact hS.1 0 (by decide)
      · exact hS.1 1 (by decide)
    · rcases (show i = 0 ∨ i = 1 by omega) with rfl | rfl <;> rcases (show j = 0 ∨ j = 1 by omega) with rfl | rfl
      · exact fun _ => rfl
      · exact fun h => hS.2 0 1 (by decide) (by decide) h
      · exact fun h => hS.2 1 0 (by decide) (by decide) h
      · exact fun _ => rfl
  · intro i hi
    rcases (show i = 0 ∨ i = 1 by omega) with rfl | rfl
    · exact vk_R.of (A := #[Value.ref b]) (hts _ (pW_in (n := 1036) (by decide +kernel))) (hev 0 (by decide))
    · exact vk_R.of (A := #[Value.ref b]) (hts _ (pW_in (n := 3165) (by decide +kernel))) (hev 1 (by decide))
  · intro w hw hp
    have h := hts w hw
    unfold pStay at hp
    split at hp
    · exact va_Nw.of rfl h
    · exact over_moved (Vm.Alike.refl _) h
    · cases hp
/-- the claim out of what the law's function comes to -/
theorem whole_of {B : Nat} (hp : ∀ X : pX, X.1 ≤ B → ∃ N q, fL_law X N [] = some q ∧ q.1 = 1 ∧ q.2.2.1 ≤ 105980 ∧ q.2.2.2 ≤ 8784308) {p : Program} {e : Env} {s : State} {m : MethodId} {below : List Frame} {meth : Method} {c : Code} (l : Launch) {b L : Nat} {xs : Nat → Int32} (hL : L ≤ B) (C0 : lw_At p s m meth c b L xs) : W p l e room_1 s m #[Value.ref b] below meth c s.heap [] 0 0 (lw_Z below #[Value.ref b] s) (entryFrame m ([Value.ref b] : List Value).toArray 4) := by
  obtain ⟨hx, hb, hr, hml, hown, hts, hX, hbl, hlocks, hgv⟩ := id C0
  obtain ⟨G, D, g1, g2, hE⟩ := pStart hts hX hbl hgv
  obtain ⟨N, q, hf, q1, q2, q3⟩ := hp (L, xs) hL
  obtain ⟨K0, hK⟩ := rL_law (L, xs) N 0 [] q hf
  have hrun := hK K0 (Nat.le_refl _) K0 (Nat.le_refl _)
  have FX : pFix p s m #[Value.ref b] meth c G (L, xs) D 21 4 false code := ⟨hx, hb, hml, hown, by decide, fun w hw => hts w (List.mem_filter.mp hw).1, (fun h => by cases h), hE, by rw [g1]; exact Nat.le_refl _⟩
  have Kr : pKr p l e room_1 s m #[Value.ref b] below meth c (lw_Z below #[Value.ref b] s) G D 4 code (some .boolean) (some (.int q.1), q.2.1, q.2.2.1, q.2.2.2) := by
    intro pc i st lv hd hpr ls H locs hl hP hz hS
    unfold pret at hpr
    split at hpr
    · rename_i v ty e9
      by_cases hv : pRet ty v = true
      · rw [if_pos hv] at hpr
        have e1 : Value.int v = Value.int q.1 := Option.some.inj (Option.some.inj hpr)
        refine va_forget (fun z hz => by have h9 : G.1 ≤ z.base := hS.2.2 z hz; rw [g1] at h9; exact h9) ?_
        refine W.widen (k := 105980) (n := 8784308) q2 q3 ?_
        show W p l e room_1 s m #[Value.ref b] below meth c H [] 105980 8784308 (lw_Z below #[Value.ref b] s) (F0 m pc ls [.int v])
        rw [e1, q1]
        exact lw_ret hx hb hr hlocks hd
      · rw [if_neg hv] at hpr; cases hpr
    · cases hpr
    · rename_i e9; cases e9
    · rename_i e9; cases e9
    · cases hpr
  have hl := lv_entry ([Value.ref b]) (n := 4) (Nat.le_of_ble_eq_true rfl)
  rw [lg_entry_eq]
  have hl2 : lv_has (lg_sl ([Value.ref b]) ++ List.replicate (4 - (lg_sl ([Value.ref b])).length) Slot.unset).toArray 4 (rL G [(0, .ref 5)]) := by
    have : rL G [(0, .ref 5)] = lv_args 0 [Value.ref b] := by
      show [((0 : Nat), rV G (.ref 5))] = [((0 : Nat), Value.ref b)]
      rw [rV_ref (by decide)]
      show [((0 : Nat), Value.ref (G.2.1 5))] = _
      rw [g2]
    rw [this]
    exact hl
  exact prun_sound FX (nd := 808) (call := pcf (L, xs) K0 (0 + 809)) (nat := true) (fun mn as h r hr => pcall_sound l G (L, xs) D K0 808 mn as h r hr) (fun _ => ⟨by decide, by decide⟩) (fun h => by cases h) _ q2 q3 Kr K0 0 [(0, .ref 5)] [] [] 0 0 hrun _ s.heap [] hl2 (fun k q h => by simp [rW] at h) (by rw [g1]; rfl) va_S.rf
