/-! ===== THE REFERENCE'S TABLES HOLD WHAT WAS READ; ITS CHECK OF CLASSES ===== -/
/-- the number of a name in the reference's table -/
def rnum (h : pH) (w : List Int32) : Nat := match fstN (fun i => decide (nmR h i = w)) (nmM h) 0 with
  | some i => i
  | none => 3999
def rD (h : pH) (w : List Int32) : Prop := ∃ i, i < nmM h ∧ nmR h i = w
theorem rnum_of {h : pH} (hi : nmInj h) {i : Nat} (h1 : i < nmM h) : rnum h (nmR h i) = i := by
  unfold rnum
  rcases hf : fstN (fun j => decide (nmR h j = nmR h i)) (nmM h) 0 with _ | j
  · have := fstN_none hf i (Nat.zero_le _) (by omega)
    exact absurd rfl (of_decide_eq_false this)
  · obtain ⟨a1, a2, a3, a4⟩ := fstN_some hf
    exact hi j i (by omega) h1 (of_decide_eq_true a3)
theorem NmIs.num {T : Txt} {h : pH} {w : Nat} {x : Int32} (hi : nmInj h) (q : NmIs T h w x) : rD h (tkW T w) ∧ x = Int32.ofNat (rnum h (tkW T w)) := by
  obtain ⟨id, e1, e2, e3⟩ := q
  refine ⟨⟨id, e2, e3⟩, ?_⟩
  rw [← e3, rnum_of hi e2]
  exact e1
theorem rnum_inj {h : pH} (hi : nmInj h) : NmI (rD h) (rnum h) := by
  intro a b ⟨i, i1, i2⟩ ⟨j, j1, j2⟩ hab
  rw [← i2, ← j2, rnum_of hi i1, rnum_of hi j1] at hab
  rw [← i2, ← j2, hab]
theorem rnum_lt {h : pH} (hM : nmM h ≤ 1600) (w : List Int32) : rnum h w < 4000 := by
  unfold rnum
  split
  · rename_i i hf
    have := (fstN_some hf).2.1
    omega
  · omega
theorem csR_get {T : Txt} {h : pH} : ∀ {cs : List Cl} {c m p s n l i : Nat} {x : Cl}, csR T h cs c m p s n l → cs[i]? = some x → clR T h x (c + i) (m + csM (cs.take i)) (p + csP (cs.take i)) (s + csS (cs.take i)) (n + csN (cs.take i)) (l + csL (cs.take i))
  | [], c, m, p, s, n, l, i, x, _, hx => by cases hx
  | y :: ys, c, m, p, s, n, l, 0, x, q, hx => by
    obtain rfl := Option.some.inj hx
    exact q.1
  | y :: ys, c, m, p, s, n, l, i + 1, x, q, hx => by
    have := csR_get q.2 (i := i) hx
    rw [List.take_succ_cons, csM_cons, csP_cons, show csS (y :: List.take i ys) = msS y.2.2.2 + csS (List.take i ys) from rfl, show csN (y :: List.take i ys) = msN y.2.2.2 + csN (List.take i ys) from rfl, show csL (y :: List.take i ys) = msL y.2.2.2 + csL (List.take i ys) from rfl, show c + (i + 1) = c + 1 + i by omega, ← Nat.add_assoc, ← Nat.add_assoc, ← Nat.add_assoc, ← Nat.add_assoc, ← Nat.add_assoc]
    exact this
theorem msQ_app {T : Txt} {h : pH} : ∀ {a b : List Mb} {m p s n l : Nat}, msQ T h a m p s n l → msQ T h b (m + a.length) (p + msP a) (s + msS a) (n + msN a) (l + msL a) → msQ T h (a ++ b) m p s n l
  | [], b, m, p, s, n, l, _, q => q
  | x :: a, b, m, p, s, n, l, ⟨q1, q2⟩, q => by
    refine ⟨q1, msQ_app q2 ?_⟩
    rw [msP_cons, show msS (x :: a) = stB (mbB x) + msS a from rfl, show msN (x :: a) = szB (mbB x) + msN a from rfl, show msL (x :: a) = lsB (mbB x) + msL a from rfl, ← Nat.add_assoc, ← Nat.add_assoc, ← Nat.add_assoc, ← Nat.add_assoc, show m + (x :: a).length = m + 1 + a.length by show m + (a.length + 1) = _; omega] at q
    exact q
theorem csR_ms {T : Txt} {h : pH} : ∀ {cs : List Cl} {c m p s n l : Nat}, csR T h cs c m p s n l → msQ T h (cs.flatMap (fun x => x.2.2.2)) m p s n l
  | [], c, m, p, s, n, l, _ => trivial
  | x :: xs, c, m, p, s, n, l, q => by
    rw [List.flatMap_cons]
    exact msQ_app q.1.2.2.2.2 (csR_ms q.2)
theorem msQ_get {T : Txt} {h : pH} : ∀ {ls : List Mb} {m p s n l i : Nat} {b : Mb}, msQ T h ls m p s n l → ls[i]? = some b → mbR T h b (m + i) (p + msP (ls.take i)) (s + msS (ls.take i)) (n + msN (ls.take i)) (l + msL (ls.take i))
  | [], m, p, s, n, l, i, b, _, hb => by cases hb
  | y :: ys, m, p, s, n, l, 0, b, q, hb => by
    obtain rfl := Option.some.inj hb
    exact q.1
  | y :: ys, m, p, s, n, l, i + 1, b, q, hb => by
    have := msQ_get q.2 (i := i) hb
    rw [List.take_succ_cons, msP_cons, show msS (y :: List.take i ys) = stB (mbB y) + msS (List.take i ys) from rfl, show msN (y :: List.take i ys) = szB (mbB y) + msN (List.take i ys) from rfl, show msL (y :: List.take i ys) = lsB (mbB y) + msL (List.take i ys) from rfl, show m + (i + 1) = m + 1 + i by omega, ← Nat.add_assoc, ← Nat.add_assoc, ← Nat.add_assoc, ← Nat.add_assoc]
    exact this
theorem Parsed.rt {T : Txt} {cs : List Cl} {t' : Nat} {h : pH} (hq : (tkS T).prog = ok cs t') (q : Parsed T cs h) : RT (tkW T, cs) (rD h) (rnum h) h ∧ RPn (tkW T, cs) (rD h) (rnum h) h ∧ (∀ c, c < 5 → rd h 165 c = -1) := by
  obtain ⟨⟨t, n, l, qq, s, a3, _⟩, q2, q3, q4, q5, q6, q7, q8, q9⟩ := q
  obtain ⟨a2, e44, e53, b44, b53⟩ := id a3
  have hs := a2.1.sg
  have rp : RP T t h := a2.1.1
  have hi := rp.2.2.2.2.1
  have hM := rp.2.2.2.1.2.2.1
  have hP := (tkP_le T t).1
  have hT : T.2 ≤ 3000 := by
    have := rp.1.2.2
    rw [rp.2.2.1] at this
    omega
  have hn : Pgm.n (tkW T, cs) = 5 + cs.length := rfl
  have hml : (Pgm.ms (tkW T, cs)).length = csM cs := Pgm.ms_len _
  have kn : ∀ k, k < 8 → rD h (knW k) ∧ rnum h (knW k) = k := fun k hk => ⟨⟨k, by omega, q6 k hk⟩, by rw [← q6 k hk]; exact rnum_of hi (by omega)⟩
  have cls : ∀ c, 5 ≤ c → c < 5 + cs.length → ∃ x, cs[c - 5]? = some x ∧ clR T h x c (csM (cs.take (c - 5))) (csP (cs.take (c - 5))) (csS (cs.take (c - 5))) (csN (cs.take (c - 5))) (csL (cs.take (c - 5))) := by
    intro c c1 c2
    have hx : cs[c - 5]? = some (cs[c - 5]'(by omega)) := List.getElem?_eq_getElem (by omega)
    have := csR_get q2 hx
    rw [show 5 + (c - 5) = c by omega, Nat.zero_add, Nat.zero_add, Nat.zero_add, Nat.zero_add, Nat.zero_add] at this
    exact ⟨_, hx, this⟩
  refine ⟨⟨hs, rnum_inj hi, rnum_lt hM, kn, q3, by rw [hn]; omega, fun c hc => ?_, fun c hc => ?_, fun c c1 hc => ?_, by rw [hml]; exact e44, by rw [hml]; omega, fun m b hb => ?_⟩, fun c c1 hc => ?_, fun c hc => (q7 c hc).2.1⟩
  · rcases Nat.lt_or_ge c 5 with z | z
    · have e : Pgm.cn (tkW T, cs) c = knW c := if_pos z
      obtain ⟨n1, n2⟩ := kn c (by omega)
      rw [e, n2]
      exact ⟨n1, (q7 c z).1⟩
    · obtain ⟨x, hx, cx⟩ := cls c z hc
      have e : Pgm.cn (tkW T, cs) c = tkW T x.1 := by unfold Pgm.cn; rw [if_neg (by omega), hx]
      rw [e]
      exact cx.1.num hi
  · rcases Nat.lt_or_ge c 6 with z | z
    · rw [Pgm.mf_5 (by omega)]
      by_cases y : c = 5
      · rw [y]; exact q8
      · exact (q7 c (by omega)).2.2
    · obtain ⟨x, hx, cx⟩ := cls (c - 1) (by omega) (by omega)
      have em := Pgm.mf_succ (P := (tkW T, cs)) (i := c - 1 - 5) hx
      rw [show 5 + (c - 1 - 5) + 1 = c by omega, show 5 + (c - 1 - 5) = c - 1 by omega] at em
      have h167 := cx.2.2.2.1
      rw [show c - 1 + 1 = c by omega] at h167
      rw [h167, em]
      rfl
  · obtain ⟨x, hx, cx⟩ := cls c c1 hc
    have e : Pgm.pl (tkW T, cs) c = x.2.1 := by unfold Pgm.pl; rw [hx]
    rw [e]
    refine ⟨cx.2.1, ?_⟩
    have := Tks.prog_pl hq x (List.mem_of_getElem? hx)
    rw [this]
    have := (tkP_le T x.1).1
    show tkP T x.1 ≤ 3000
    omega
  · have := msQ_get (csR_ms q2) hb
    rw [Nat.zero_add] at this
    obtain ⟨m1, m2, m3, m4, m5⟩ := this
    exact ⟨(m1.num hi).1, (m1.num hi).2, m4, m2⟩
  · obtain ⟨x, hx, cx⟩ := cls c c1 hc
    have e : Pgm.pw (tkW T, cs) c = x.2.2.1 := by unfold Pgm.pw; rw [if_neg (by omega), hx]
    rw [e]
    have h3 := cx.2.2.1
    refine ⟨fun v hv => ?_, fun hv => ?_⟩
    · rw [hv] at h3
      exact h3.num hi
    · rw [hv] at h3
      exact h3
theorem e12_isBad {N : Nat} {x : Int32} {h : pH} (hs : Sg h) (e : rd h 138 58 < 0) : fX12_isBad N 138 x h = some (wr h 138 58 x) := by
  have e2 : ¬ 0 ≤ rd h 138 58 := by rw [Int32.not_le]; exact e
  unfold fX12_isBad
  simp only [o_138, R_138_0, g_138_1, p_138_1, R_138_2, g_138_3, p_138_3, g_138_4, p_138_4, g_138_5, p_138_5, g_138_6, p_138_6, g_138_7, p_138_7, g_138_8, p_138_8, g_138_9, p_138_9, g_138_10, p_138_10, g_138_11, p_138_11, R_138_12, R_138_13, R_138_14, g_138_15, p_138_15, R_138_16, R_138_17, R_138_18, R_138_19, R_138_20, g_138_21, p_138_21, R_138_22, g_138_23, p_138_23, R_138_24, g_138_25, p_138_25, R_138_26, R_138_27, R_138_28, R_138_29, R_138_30, R_138_31, R_138_32, R_138_33, R_138_34, R_138_35, R_138_36, g_138_37, p_138_37, R_138_38, R_138_39, R_138_40, R_138_41, R_138_42, R_138_43, g_138_44, p_138_44, R_138_45, R_138_46, R_138_47, R_138_48, R_138_49, R_138_50, R_138_51, R_138_52, g_138_53, p_138_53, R_138_54, R_138_55, g_138_56, p_138_56, g_138_57, p_138_57, g_138_58, p_138_58, g_138_59, p_138_59, g_138_60, p_138_60, g_138_61, p_138_61, g_138_62, p_138_62, R_138_63, R_138_64, R_138_65, g_138_66, p_138_66, R_138_67, R_138_68, g_138_69, p_138_69, g_138_70, p_138_70, g_138_71, p_138_71, g_138_72, p_138_72, g_138_73, p_138_73, g_138_74, p_138_74, g_138_75, p_138_75, g_138_76, p_138_76, g_138_77, p_138_77, g_138_78, p_138_78, R_138_79, g_138_80, p_138_80, R_138_81, g_138_82, p_138_82, R_138_83, R_138_84, R_138_85, R_138_86, R_138_87, R_138_88, g_138_89, p_138_89, g_138_90, p_138_90, R_138_91, R_138_92, g_138_93, p_138_93, R_138_94, R_138_95, R_138_96, R_138_97, R_138_98, R_138_99, g_138_100, p_138_100, R_138_101, R_138_102, g_138_103, p_138_103, R_138_104, R_138_105, g_138_106, p_138_106, R_138_107, R_138_108, hs, e2, Sg_wr, Sg_wrJ, rd_wr_ne, rd_wrJ, rdJ_wr, Option.bind_some, if_true, if_false, i_add1, i_sub1, false_and, and_false, not_false_eq_true, Nat.reduceEqDiff, ne_eq, reduceIte]
theorem RT.ofW {P : Pgm} {D : List Int32 → Prop} {num : List Int32 → Nat} {a k : Nat} {x : Int32} {h : pH} (q : RT P D num h) (ha : ¬ rtA a) (h37 : ¬ (a = 138 ∧ k = 37)) (h44 : ¬ (a = 138 ∧ k = 44)) : RT P D num (wr h a k x) := q.chg (A := fun b j => b = a ∧ j = k) (Chg.wr _ _ _ _ ⟨rfl, rfl⟩) (fun b j hb z => ha (z.1 ▸ hb)) (fun z => h37 ⟨z.1.symm, z.2.symm⟩) (fun z => h44 ⟨z.1.symm, z.2.symm⟩)
/-- once something is bad, the rest of the loops does nothing -/
theorem cc_129 {N n k i : Nat} {h : pH} (hs : Sg h) (e : rd h 138 37 = Int32.ofNat n) (hn : n ≤ 350) (hi : i ≤ 350) (hb : 0 ≤ rd h 138 58) : fX12_checkClasses_129 N (k + 1) 138 (Int32.ofNat i) h = some h := by
  rw [fX12_checkClasses_129, g_138_37 hs, Option.bind_some, e]
  split
  · rfl
  · rw [g_138_58 hs, Option.bind_some, if_pos hb]
theorem cc_49 {N n k i : Nat} {h : pH} (hN : 1 ≤ N) (hs : Sg h) (e : rd h 138 37 = Int32.ofNat n) (hn : n ≤ 350) (hi : i ≤ 350) (hb : 0 ≤ rd h 138 58) : fX12_checkClasses_49 N (k + 1) 138 (Int32.ofNat i) h = some h := by
  obtain ⟨k', hk'⟩ : ∃ k', N = k' + 1 := ⟨N - 1, by omega⟩
  have e1 : fX12_checkClasses_127 N 138 h = some h := by
    unfold fX12_checkClasses_127
    rw [show fX12_checkClasses_129 N N = fX12_checkClasses_129 N (k' + 1) from congrArg _ hk']
    exact cc_129 (i := 5) hs e hn (by omega) hb
  rw [fX12_checkClasses_49, g_138_37 hs, Option.bind_some, e]
  split
  · exact e1
  · rw [g_138_58 hs, Option.bind_some, if_pos hb]
    exact e1
theorem cc_2 {N n k i : Nat} {h : pH} (hN : 1 ≤ N) (hs : Sg h) (e : rd h 138 37 = Int32.ofNat n) (hn : n ≤ 350) (hi : i ≤ 350) (hb : 0 ≤ rd h 138 58) : fX12_checkClasses_2 N (k + 1) 138 (Int32.ofNat i) h = some h := by
  obtain ⟨k', hk'⟩ : ∃ k', N = k' + 1 := ⟨N - 1, by omega⟩
  have e1 : fX12_checkClasses_47 N 138 h = some h := by
    unfold fX12_checkClasses_47
    rw [show fX12_checkClasses_49 N N = fX12_checkClasses_49 N (k' + 1) from congrArg _ hk']
    exact cc_49 (i := 5) hN hs e hn (by omega) hb
  rw [fX12_checkClasses_2, g_138_37 hs, Option.bind_some, e]
  split
  · exact e1
  · rw [g_138_58 hs, Option.bind_some, if_pos hb]
    exact e1
theorem i_nn0 {a : Nat} (h : a < 2 ^ 31) : (0 : Int32) ≤ Int32.ofNat a := by
  rw [show (0 : Int32) = Int32.ofNat 0 from rfl, iLe (by decide) h]
  omega
theorem bad_neg {h : pH} (hb : rd h 138 58 = -1) : ¬ (0 : Int32) ≤ rd h 138 58 := by rw [hb]; decide
/-- what checkClasses may change -/
def ccA : Nat → Nat → Prop := fun a k => a = 165 ∨ (a = 138 ∧ k = 58)
theorem RT.c2 {P : Pgm} {D : List Int32 → Prop} {num : List Int32 → Nat} {N : Nat} {h : pH} (q : RT P D num h) (hN : 1100 ≤ N) (hb : rd h 138 58 = -1) : ∀ (d i k : Nat), i + d = P.n → 5 ≤ i → d < k → fX12_checkClasses_2 N k 138 (Int32.ofNat i) h = match fstN P.b1 d i with
    | some c => some (wr h 138 58 (Int32.ofNat (P.pl c)))
    | none => fX12_checkClasses_49 N N 138 5 h
  | 0, i, k, hd, hi, hk => by
    obtain ⟨k, rfl⟩ : ∃ k', k = k' + 1 := ⟨k - 1, by omega⟩
    have := q.2.2.2.2.2.1
    rw [fX12_checkClasses_2, g_138_37 q.1, Option.bind_some, q.2.2.2.2.1, ifLe (by omega) (by omega), if_pos (by omega)]
    rfl
  | d + 1, i, k, hd, hi, hk => by
    obtain ⟨k, rfl⟩ : ∃ k', k = k' + 1 := ⟨k - 1, by omega⟩
    have hn := q.2.2.2.2.2.1
    obtain ⟨z1, z2⟩ := q.2.2.2.2.2.2.1 i (by omega)
    obtain ⟨hpl, hpl2⟩ := q.2.2.2.2.2.2.2.2.1 i hi (by omega)
    have IH := RT.c2 q hN hb d (i + 1) k (by omega) (by omega) (by omega)
    rw [fX12_checkClasses_2, g_138_37 q.1, Option.bind_some, q.2.2.2.2.1, ifLe (by omega) (by omega), if_neg (by omega), g_138_58 q.1, Option.bind_some, if_neg (bad_neg hb), R_138_38 q.1, Option.bind_some, L_162 q.1 (by omega), Option.bind_some, z2, q.classOf hN z1, Option.bind_some]
    dsimp only
    unfold fstN Pgm.b1 fX12_checkClasses_41
    have bad : (fX12_isBad N 138 (Int32.ofNat (P.pl i)) h).bind (fun h48 => fX12_checkClasses_2 N k 138 (Int32.ofNat i + 1) h48) = some (wr h 138 58 (Int32.ofNat (P.pl i))) := by
      rw [e12_isBad q.1 (by rw [hb]; decide), Option.bind_some, i_add1]
      obtain ⟨k, rfl⟩ : ∃ k', k = k' + 1 := ⟨k - 1, by omega⟩
      refine cc_2 (n := P.n) (by omega) (q.1.wr _ _ _) ?_ (by omega) (by omega) ?_
      · rw [rd_wr_ne _ _ (by omega)]; exact q.2.2.2.2.1
      · rw [w_138_58 q.1]; exact i_nn0 (a := P.pl i) (by omega)
    rcases hf : P.fnd (P.cn i) with _ | e
    · rw [if_neg (show ¬ oI (-1) none = Int32.ofNat i from fun z => i_ne_neg (by omega) (by decide) z.symm), if_pos (decide_eq_true (show (none : Option Nat) ≠ some i from by intro z; cases z)), R_138_39 q.1, Option.bind_some, L_163 q.1 (by omega), Option.bind_some, hpl]
      exact bad
    · have he := (Pgm.fnd_lt hf).1
      show (if Int32.ofNat e = Int32.ofNat i then _ else _) = _
      rw [ifEq (by omega) (by omega)]
      by_cases z : e = i
      · rw [if_pos z, if_neg (fun y => (of_decide_eq_true y) (by rw [z])), i_add1]
        exact IH
      · rw [if_neg z, if_pos (decide_eq_true (show some e ≠ some i from fun y => z (Option.some.inj y))), R_138_39 q.1, Option.bind_some, L_163 q.1 (by omega), Option.bind_some, hpl]
        exact bad
theorem RT.c49 {P : Pgm} {D : List Int32 → Prop} {num : List Int32 → Nat} {N : Nat} (hN : 1100 ≤ N) : ∀ (d i k : Nat) (h : pH), i + d = P.n → 5 ≤ i → d < k → RT P D num h → RPn P D num h → rd h 138 58 = -1 → (∀ c, c < i → rd h 165 c = oI (-1) (P.par c)) → match fstN P.b2 d i with
    | some c => ∃ h', fX12_checkClasses_49 N k 138 (Int32.ofNat i) h = some h' ∧ rd h' 138 58 = Int32.ofNat (P.pl c) ∧ Chg ccA h h'
    | none => ∃ h', fX12_checkClasses_49 N k 138 (Int32.ofNat i) h = fX12_checkClasses_129 N N 138 5 h' ∧ RPr P h' ∧ rd h' 138 58 = -1 ∧ Chg ccA h h'
  | 0, i, k, h, hd, hi, hk, q, qn, hb, hp => by
    obtain ⟨k, rfl⟩ : ∃ k', k = k' + 1 := ⟨k - 1, by omega⟩
    have := q.2.2.2.2.2.1
    refine ⟨h, ?_, fun c hc => hp c (by omega), hb, Chg.refl _ _⟩
    rw [fX12_checkClasses_49, g_138_37 q.1, Option.bind_some, q.2.2.2.2.1, ifLe (by omega) (by omega), if_pos (by omega)]
    rfl
  | d + 1, i, k, h, hd, hi, hk, q, qn, hb, hp => by
    obtain ⟨k, rfl⟩ : ∃ k', k = k' + 1 := ⟨k - 1, by omega⟩
    have hn := q.2.2.2.2.2.1
    obtain ⟨hpl, hpl2⟩ := q.2.2.2.2.2.2.2.2.1 i hi (by omega)
    obtain ⟨n1, n2⟩ := qn i hi (by omega)
    have s1 := q.1.wr 165 i (oI (-1) (P.par i))
    have q1 : RT P D num (wr h 165 i (oI (-1) (P.par i))) := q.ofW (by unfold rtA; omega) (by omega) (by omega)
    have r58 : rd (wr h 165 i (oI (-1) (P.par i))) 138 58 = -1 := by rw [rd_wr_ne _ _ (by omega)]; exact hb
    have r164 : rd (wr h 165 i (oI (-1) (P.par i))) 164 i = rd h 164 i := rd_wr_ne _ _ (by omega)
    have r163 : rd (wr h 165 i (oI (-1) (P.par i))) 163 i = rd h 163 i := rd_wr_ne _ _ (by omega)
    have r165 : rd (wr h 165 i (oI (-1) (P.par i))) 165 i = oI (-1) (P.par i) := W_165 q.1 _ _
    have g1 : Chg ccA h (wr h 165 i (oI (-1) (P.par i))) := Chg.wr _ _ _ _ (Or.inl rfl)
    have step : fX12_checkClasses_49 N (k + 1) 138 (Int32.ofNat i) h = if P.b2 i = true then (fX12_isBad N 138 (Int32.ofNat (P.pl i)) (wr h 165 i (oI (-1) (P.par i)))).bind (fun h26 => fX12_checkClasses_49 N k 138 (Int32.ofNat (i + 1)) h26) else fX12_checkClasses_49 N k 138 (Int32.ofNat (i + 1)) (wr h 165 i (oI (-1) (P.par i))) := by
      rw [fX12_checkClasses_49, g_138_37 q.1, Option.bind_some, q.2.2.2.2.1, ifLe (by omega) (by omega), if_neg (by omega), g_138_58 q.1, Option.bind_some, if_neg (bad_neg hb), R_138_41 q.1, Option.bind_some, R_138_40 q.1, Option.bind_some, L_164 q.1 (by omega), Option.bind_some]
      unfold fX12_checkClasses_92 fX12_checkClasses_121
      rcases hw : P.pw i with _ | w
      · have hpar : P.par i = none := by unfold Pgm.par; rw [hw]
        have hb2 : ¬ P.b2 i = true := by unfold Pgm.b2; rw [hw]; exact Bool.false_ne_true
        rw [hpar] at s1 r164
        rw [if_neg hb2, hpar, n2 hw, if_neg (show ¬ (0 : Int32) ≤ -1 by decide), if_neg (show ¬ (165 : Nat) = 4 by decide), T_165 q.1 (by omega), Option.bind_some, show wr h 165 i (-1) = wr h 165 i (oI (-1) none) from rfl, R_138_40 s1, Option.bind_some, L_164 s1 (by omega), Option.bind_some, r164, n2 hw, if_pos (show (-1 : Int32) < 0 by decide), i_add1]
      · obtain ⟨dw, e164⟩ := n1 w hw
        have hlt := q.2.2.1 (P.1 w)
        have hpar : P.par i = P.fnd (P.1 w) := by unfold Pgm.par; rw [hw]
        rw [e164, if_pos (i_nn0 (by omega)), Option.bind_some, L_164 q.1 (by omega), Option.bind_some, e164, q.classOf hN dw, Option.bind_some, if_neg (show ¬ (165 : Nat) = 4 by decide), ← hpar]
        dsimp only
        rw [T_165 q.1 (by omega), Option.bind_some, R_138_40 s1, Option.bind_some, L_164 s1 (by omega), Option.bind_some, r164, e164, if_neg (i_nneg (by omega)), R_138_41 s1, Option.bind_some, L_165 s1 (by omega), Option.bind_some, r165, R_138_39 s1, Option.bind_some, L_163 s1 (by omega), Option.bind_some, r163, hpl, i_add1]
        rcases hf : P.par i with _ | e
        · have hb2 : P.b2 i = true := by unfold Pgm.b2; rw [hw, hf]; rfl
          rw [if_pos hb2, if_neg (show ¬ (0 : Int32) ≤ oI (-1) none by decide)]
        · have he := Pgm.par_lt hf
          have hb2 : ¬ P.b2 i = true := by unfold Pgm.b2; rw [hw, hf]; exact Bool.false_ne_true
          rw [if_neg hb2, if_pos (show (0 : Int32) ≤ oI (-1) (some e) from i_nn0 (by omega))]
    rw [step]
    unfold fstN
    by_cases hb2 : P.b2 i = true
    · rw [if_pos hb2, if_pos hb2, e12_isBad s1 (by rw [r58]; decide), Option.bind_some]
      obtain ⟨k, rfl⟩ : ∃ k', k = k' + 1 := ⟨k - 1, by omega⟩
      refine ⟨_, cc_49 (n := P.n) (by omega) (s1.wr _ _ _) ?_ (by omega) (by omega) ?_, w_138_58 s1 _, g1.trans (Chg.wr _ _ _ _ (Or.inr ⟨rfl, rfl⟩))⟩
      · rw [rd_wr_ne _ _ (by omega)]; exact q1.2.2.2.2.1
      · rw [w_138_58 s1]; exact i_nn0 (a := P.pl i) (by omega)
    · rw [if_neg hb2, if_neg hb2]
      have IH := RT.c49 hN d (i + 1) k (wr h 165 i (oI (-1) (P.par i))) (by omega) (by omega) (by omega) q1 (fun c c1 hc => by rw [rd_wr_ne _ _ (by omega)]; exact qn c c1 hc) r58 (fun c hc => by
        by_cases z : c = i
        · subst z
          exact r165
        · rw [rd_wr_ne _ _ (by omega)]
          exact hp c (by omega))
      rcases hf : fstN P.b2 d (i + 1) with _ | c
      · rw [hf] at IH
        obtain ⟨h', e1, e2, e3, e4⟩ := IH
        exact ⟨h', e1, e2, e3, g1.trans e4⟩
      · rw [hf] at IH
        obtain ⟨h', e1, e2, e3⟩ := IH
        exact ⟨h', e1, e2, g1.trans e3⟩
theorem RT.c153 {P : Pgm} {D : List Int32 → Prop} {num : List Int32 → Nat} {N c : Nat} {h : pH} {k129 : Nat → Int32 → pH → Option pH} (q : RT P D num h) (hp : RPr P h) (hc5 : 5 ≤ c) (hc : c < P.n) (hb : rd h 138 58 = -1) : ∀ (f g k : Nat) (o : Option Nat), g + f = P.n → f < k → (∀ d, o = some d → d < P.n) → fX12_checkClasses_153 N k129 k 138 (Int32.ofNat c) (oI (-1) o) (Int32.ofNat g) h = if P.b3F c (f + 1) o = true then k129 138 (Int32.ofNat (c + 1)) (wr h 138 58 (Int32.ofNat (P.pl c))) else k129 138 (Int32.ofNat (c + 1)) h
  | f, g, k, none, hg, hk, ho => by
    obtain ⟨k, rfl⟩ : ∃ k', k = k' + 1 := ⟨k - 1, by omega⟩
    have hn := q.2.2.2.2.2.1
    have e183 : fX12_checkClasses_183 N k129 138 (Int32.ofNat c) (oI (-1) none) h = k129 138 (Int32.ofNat (c + 1)) h := by
      unfold fX12_checkClasses_183 fX12_checkClasses_198
      rw [if_neg (show ¬ oI (-1) none = Int32.ofNat c from fun z => i_ne_neg (by omega) (by decide) z.symm), i_add1]
    rw [fX12_checkClasses_153, g_138_37 q.1, Option.bind_some, q.2.2.2.2.1, e183]
    unfold Pgm.b3F
    rw [if_neg Bool.false_ne_true, if_pos (show oI (-1) none < 0 by decide)]
    split <;> rfl
  | f, g, k, some d, hg, hk, ho => by
    obtain ⟨k, rfl⟩ : ∃ k', k = k' + 1 := ⟨k - 1, by omega⟩
    have hn := q.2.2.2.2.2.1
    have hd := ho d rfl
    obtain ⟨hpl, hpl2⟩ := q.2.2.2.2.2.2.2.2.1 c hc5 hc
    rw [fX12_checkClasses_153, g_138_37 q.1, Option.bind_some, q.2.2.2.2.1, ifLe (by omega) (by omega), if_neg (show ¬ oI (-1) (some d) < 0 from i_nneg (by omega))]
    show (if P.n ≤ g then fX12_checkClasses_183 N k129 138 (Int32.ofNat c) (Int32.ofNat d) h else if Int32.ofNat d = Int32.ofNat c then fX12_checkClasses_183 N k129 138 (Int32.ofNat c) (Int32.ofNat d) h else (getR h 138 12 41).bind fun t9 => (ldI h t9 (Int32.ofNat d)).bind fun t10 => fX12_checkClasses_153 N k129 k 138 (Int32.ofNat c) t10 (Int32.ofNat g + 1) h) = _
    unfold fX12_checkClasses_183 fX12_checkClasses_198 Pgm.b3F
    rw [ifEq (by omega) (by omega), R_138_39 q.1, Option.bind_some, L_163 q.1 (by omega), Option.bind_some, hpl, e12_isBad q.1 (by rw [hb]; decide), Option.bind_some, i_add1]
    by_cases z : d = c
    · rw [if_pos z, if_pos z, if_pos (show true = true from rfl), if_pos (show Int32.ofNat d = Int32.ofNat c by rw [z])]
      split <;> rfl
    · rw [if_neg z, if_neg z, if_neg (show ¬ Int32.ofNat d = Int32.ofNat c from i_ne (by omega) (by omega) z)]
      by_cases y : P.n ≤ g
      · obtain rfl : f = 0 := by omega
        rw [if_pos y]
        unfold Pgm.b3F
        rw [if_neg Bool.false_ne_true]
      · obtain ⟨f, rfl⟩ : ∃ f', f = f' + 1 := ⟨f - 1, by omega⟩
        rw [if_neg y, R_138_41 q.1, Option.bind_some, L_165 q.1 (by omega), Option.bind_some, hp d hd, i_add1]
        exact RT.c153 q hp hc5 hc hb f (g + 1) k (P.par d) (by omega) (by omega) (fun e he => Pgm.par_lt he)
theorem RT.c129 {P : Pgm} {D : List Int32 → Prop} {num : List Int32 → Nat} {N : Nat} {h : pH} (q : RT P D num h) (hp : RPr P h) (hN : 1100 ≤ N) (hb : rd h 138 58 = -1) : ∀ (d i k : Nat), i + d = P.n → 5 ≤ i → d < k → fX12_checkClasses_129 N k 138 (Int32.ofNat i) h = match fstN P.b3 d i with
    | some c => some (wr h 138 58 (Int32.ofNat (P.pl c)))
    | none => some h
  | 0, i, k, hd, hi, hk => by
    obtain ⟨k, rfl⟩ : ∃ k', k = k' + 1 := ⟨k - 1, by omega⟩
    have := q.2.2.2.2.2.1
    rw [fX12_checkClasses_129, g_138_37 q.1, Option.bind_some, q.2.2.2.2.1, ifLe (by omega) (by omega), if_pos (by omega)]
    rfl
  | d + 1, i, k, hd, hi, hk => by
    obtain ⟨k, rfl⟩ : ∃ k', k = k' + 1 := ⟨k - 1, by omega⟩
    have hn := q.2.2.2.2.2.1
    have IH := RT.c129 q hp hN hb d (i + 1) k (by omega) (by omega) (by omega)
    have hpl2 := (q.2.2.2.2.2.2.2.2.1 i hi (by omega)).2
    rw [fX12_checkClasses_129, g_138_37 q.1, Option.bind_some, q.2.2.2.2.1, ifLe (by omega) (by omega), if_neg (by omega), g_138_58 q.1, Option.bind_some, if_neg (bad_neg hb), R_138_41 q.1, Option.bind_some, L_165 q.1 (by omega), Option.bind_some, hp i (by omega), show (0 : Int32) = Int32.ofNat 0 from rfl, RT.c153 q hp hi (by omega) hb P.n 0 N (P.par i) (by omega) (by omega) (fun e he => Pgm.par_lt he), Pgm.b3_more (by omega)]
    unfold fstN
    by_cases hb3 : P.b3 i = true
    · rw [if_pos hb3, if_pos hb3]
      obtain ⟨k, rfl⟩ : ∃ k', k = k' + 1 := ⟨k - 1, by omega⟩
      refine cc_129 (n := P.n) (q.1.wr _ _ _) ?_ (by omega) (by omega) ?_
      · rw [rd_wr_ne _ _ (by omega)]; exact q.2.2.2.2.1
      · rw [w_138_58 q.1]; exact i_nn0 (a := P.pl i) (by omega)
    · rw [if_neg hb3, if_neg hb3]
      exact IH
/-- what checkClasses comes to -/
theorem RT.checkClasses {P : Pgm} {D : List Int32 → Prop} {num : List Int32 → Nat} {N : Nat} {h : pH} (hN : 1100 ≤ N) (q : RT P D num h) (qn : RPn P D num h) (h5 : ∀ c, c < 5 → rd h 165 c = -1) (hb : rd h 138 58 = -1) : ∃ h', fX12_checkClasses N 138 h = some h' ∧ rd h' 138 58 = oI (-1) P.badA ∧ (P.badA = none → RPr P h' ∧ Acy P) ∧ Chg ccA h h' := by
  have hn := q.2.2.2.2.2.1
  have hnn : P.n = 5 + P.2.length := rfl
  have e2 := q.c2 hN hb P.2.length 5 N (by omega) (by omega) (by omega)
  have e0 : fX12_checkClasses N 138 h = fX12_checkClasses_2 N N 138 (Int32.ofNat 5) h := by
    unfold fX12_checkClasses
    rw [if_pos (o_138 q.1)]
    rfl
  rw [e0, e2]
  unfold Pgm.badA
  rcases h1 : fstN P.b1 P.2.length 5 with _ | c
  · dsimp only
    have e49 := RT.c49 (P := P) (D := D) (num := num) hN P.2.length 5 N h (by omega) (by omega) (by omega) q qn hb (fun c hc => by
      have : P.par c = none := by unfold Pgm.par Pgm.pw; rw [if_pos hc]
      rw [h5 c hc, this]
      rfl)
    rcases h2 : fstN P.b2 P.2.length 5 with _ | c
    · rw [h2] at e49
      obtain ⟨h', e3, p3, b3, g3⟩ := e49
      have q' := q.chg g3 (fun a k ha => by unfold rtA at ha; unfold ccA; omega) (by unfold ccA; omega) (by unfold ccA; omega)
      have e129 := q'.c129 p3 hN b3 P.2.length 5 N (by omega) (by omega) (by omega)
      dsimp only
      rcases hb3 : fstN P.b3 P.2.length 5 with _ | c
      · rw [hb3] at e129
        refine ⟨h', ?_, b3, fun _ => ⟨p3, Pgm.acy hb3⟩, g3⟩
        show fX12_checkClasses_49 N N 138 (Int32.ofNat 5) h = _
        rw [e3]
        exact e129
      · rw [hb3] at e129
        refine ⟨wr h' 138 58 (Int32.ofNat (P.pl c)), ?_, w_138_58 q'.1 _, fun z => (by cases z), g3.trans (Chg.wr _ _ _ _ (Or.inr ⟨rfl, rfl⟩))⟩
        show fX12_checkClasses_49 N N 138 (Int32.ofNat 5) h = _
        rw [e3]
        exact e129
    · rw [h2] at e49
      obtain ⟨h', e3, b3, g3⟩ := e49
      exact ⟨h', e3, b3, fun z => (by cases z), g3⟩
  · exact ⟨_, rfl, w_138_58 q.1 _, fun z => (by cases z), Chg.wr _ _ _ _ (Or.inr ⟨rfl, rfl⟩)⟩
