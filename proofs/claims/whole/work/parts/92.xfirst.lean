/-! ===== THE READER OF EXPRESSIONS: leaves, brackets, arguments ===== -/
theorem cl_leaf {k : Nat} (v w : Nat) (h1 : ¬ (k = 28 ∨ k = 29)) (h2 : k ≠ 70) : cl (eLeaf k v w) = 1 := by
  unfold eLeaf
  rw [cl_nd, if_neg h1, if_neg h2, cl_nl]
theorem cl_un {k : Nat} (v w : Nat) (a : Tr) (h1 : ¬ (k = 28 ∨ k = 29)) (h2 : k ≠ 70) : cl (eUn k v w a) = cl a + 1 := by
  unfold eUn
  rw [cl_nd, if_neg h1, if_neg h2, cl_nl]
theorem cl_bin {k : Nat} (a b : Tr) (h1 : ¬ (k = 28 ∨ k = 29)) (h2 : k ≠ 70) : cl (eBin k a b) = cl a + cl b + 1 := by
  unfold eBin
  rw [cl_nd, if_neg h1, if_neg h2]
theorem cl_arg (a b : Tr) : cl (eArg a b) = cl a + cl b := rfl
theorem cl_call (n w : Nat) (s : Tr) : cl (eCall n w s) = cl s + 1 := rfl
theorem cl_self : cl eSelf = 1 := rfl
theorem CE_leaf {Q : Nat → Nat → Nat → Nat → Nat → Prop} {k v w c : Nat} (h1 : ¬ (k = 28 ∨ k = 29)) (h2 : k ≠ 70) (q : Q c k v w 0) : CE Q (eLeaf k v w) c := by
  unfold eLeaf
  rw [CE_nd, if_neg h1, if_neg h2]
  exact ⟨CE_nl _ _, CE_nl _ _, q⟩
theorem CE_un {Q : Nat → Nat → Nat → Nat → Nat → Prop} {k v w c : Nat} {a : Tr} (h1 : ¬ (k = 28 ∨ k = 29)) (h2 : k ≠ 70) (qa : CE Q a c) (q : Q (c + cl a) k v w 0) : CE Q (eUn k v w a) c := by
  unfold eUn
  rw [CE_nd, if_neg h1, if_neg h2]
  exact ⟨qa, CE_nl _ _, q⟩
theorem CE_bin {Q : Nat → Nat → Nat → Nat → Nat → Prop} {k c : Nat} {a b : Tr} (h1 : ¬ (k = 28 ∨ k = 29)) (h2 : k ≠ 70) (qa : CE Q a c) (qb : CE Q b (c + cl a)) (q : Q (c + cl a + cl b) k 0 0 0) : CE Q (eBin k a b) c := by
  unfold eBin
  rw [CE_nd, if_neg h1, if_neg h2]
  exact ⟨qa, qb, q⟩
theorem CE_arg {Q : Nat → Nat → Nat → Nat → Nat → Prop} {c : Nat} {a b : Tr} (qa : CE Q a c) (qb : CE Q b (c + cl a)) : CE Q (eArg a b) c := by
  unfold eArg
  rw [CE_nd, if_neg (by decide), if_pos rfl]
  exact ⟨qa, qb⟩
theorem CE_call {Q : Nat → Nat → Nat → Nat → Nat → Prop} {n w c : Nat} {s : Tr} (qa : CE Q s c) (q : Q (c + cl s) 30 n w 0) : CE Q (eCall n w s) c := by
  unfold eCall
  rw [CE_nd, if_neg (by decide), if_neg (by decide)]
  exact ⟨qa, CE_nl _ _, q⟩
theorem emH_x {h : pH} {W c c' : Nat} {k a b : Int32} (hc : c ≤ c') : Chg (xA W c) h (emH h c' k a b) := (emH_chg h c' k a b).mono (fun a k z => by unfold emA at z; unfold xA; omega)
theorem At7.cap {r t W c : Nat} {p o : Int32} {C : Cx} {h : pH} (q : At7 C r t W c p o h) : c ≤ C.1.P t := q.2.2.2.2.1
/-- one more piece behind what stands from c on -/
theorem At7.more {N r t W c : Nat} {p o : Int32} {C : Cx} {h : pH} {x : Tr} (q : At7 C r t W (c + cl x) p o h) (qx : CE (QC C p o h) x c) (hc : c + cl x + 1 ≤ C.1.P t) (k v w : Nat) : ∃ h', fX2_emit N 38 (Int32.ofNat k) (pa C k v w) (pb C k v w) h = some (Int32.ofNat (c + cl x), h') ∧ At7 C r t W (c + cl x + 1) p o h' ∧ CE (QC C p o h') x c ∧ QC C p o h' (c + cl x) k v w 0 ∧ Chg (xA W (c + cl x)) h h' := by
  obtain ⟨m1, m2, m3⟩ := q.emit (N := N) (Int32.ofNat k) (pa C k v w) (pb C k v w) hc
  exact ⟨_, m1, m2, qx.chg (emH_chg _ _ _ _ _) (fun y i y1 y2 i1 i2 => by unfold emA; omega), m3, emH_x (Nat.le_refl _)⟩
theorem At7.leaf {N r t W c k : Nat} {p o a : Int32} {C : Cx} {h : pH} (q : At7 C r t W c p o h) (ht : t < C.2.2) (v w : Nat) (h1 : ¬ (k = 28 ∨ k = 29)) (h2 : k ≠ 70) (ha : pa C k v w = a) (hb : pb C k v w = 0) : PX C (ok (eLeaf k v w) (t + 1)) r W c p o h (fX7_readSingle N 46 (Int32.ofNat k) a h) := by
  obtain ⟨h', e1, q1, c1⟩ := e7_advance (N := N) q ht
  have hm := C.1.mono t (q.1.2.2.2.1 t ht).1
  have hc := q.cap
  obtain ⟨m1, m2, m3⟩ := q1.emit (N := N) (Int32.ofNat k) a 0 (by omega)
  refine PX.mk_ok (h' := emH h' c (Int32.ofNat k) a 0) ?_ (by rw [cl_leaf v w h1 h2]; exact m2) (CE_leaf h1 h2 ?_) ((c1.mono (fun a k z => m7_x z)).trans (emH_x (Nat.le_refl _)))
  · unfold fX7_readSingle
    rw [if_pos (o_46 q.sg), e1, Option.bind_some, R_46_3 q1.sg, Option.bind_some, m1, Option.bind_some]
  · show PcAt _ _ _ (pa C k v w) (pb C k v w) _ _ _
    rw [ha, hb]
    exact m3
theorem At7.le_E {r t W c : Nat} {p o : Int32} {C : Cx} {h : pH} (q : At7 C r t W c p o h) : C.2.2 ≤ C.1.E := by
  rcases Nat.eq_zero_or_pos C.2.2 with z | z
  · omega
  · have := Tks.lt_of (S := C.1) (t := C.2.2 - 1) (q.1.2.2.2.1 (C.2.2 - 1) (by omega)).1
    omega
/-- ( E ), [ E ] -/
theorem brk_body {C : Cx} {N J j r t W c : Nat} {p o a b : Int32} {h : pH} {sub : Nat → Pr Tr} (hsub : ∀ r', r = r' + 1 → RX C N J 76 sub r' (7 * (30 - r'))) (hJ : 3 ≤ J) (hN : 400 < N) (a0 : a ≠ 0) (a24 : a ≠ 24) (b0 : b ≠ 0) (b24 : b ≠ 24) (hj : J ≤ j) (q : At7 C r t W c p o h) (hW : W ≤ 7 * (30 - r) + 7) : PX C (C.1.brk r sub a b t) r W c p o h ((fX7_open N 46 a h).bind fun h1 => (if isO h1 46 7 = true then some () else none).bind fun _ => (rcV (gX7_readSign N j) 76 [.ref 46] h1).bind fun h3 => (fX7_close N 46 b h3).bind fun h4 => some h4) := by
  unfold Tks.brk
  by_cases hk : C.1.K t ≠ a ∨ r = 0
  · rw [if_pos hk]
    obtain ⟨h1, e1, q1, c1⟩ := e7_open_no (N := N) q hk
    obtain ⟨h3, e3, q3, c3⟩ := Er7.expr hN j (by omega) _ _ _ q1
    obtain ⟨h4, e4, q4, c4⟩ := q3.close (N := N) (k := b) b24
    refine PX.mk_no (h' := h4) ?_ q4 (((c1.mono (fun a k z => m7_e z)).trans c3).trans (c4.mono (fun a k z => m7_e z)))
    rw [e1, Option.bind_some, guard46 q1.sg, Option.bind_some, e3, Option.bind_some, e4, Option.bind_some]
  · rw [if_neg hk]
    have hka : C.1.K t = a := Decidable.not_not.mp (fun z => hk (Or.inl z))
    obtain ⟨r', rfl⟩ : ∃ r', r = r' + 1 := ⟨r - 1, by omega⟩
    have hr := q.2.2.1
    obtain ⟨h1, e1, q1, c1⟩ := e7_open (N := N) q hka a0 a24
    have pq := hsub r' rfl j hj (t + 1) W c p o h1 q1 (by omega)
    rcases hq : sub (t + 1) with ⟨x, t'⟩ | w
    · obtain ⟨h3, e3, q3, x3, c3⟩ := pq.1 x t' hq
      rw [Pr.bind_ok]
      by_cases hb : C.1.K t' = b
      · rw [if_pos hb]
        obtain ⟨h4, e4, q4, c4⟩ := e7_close (N := N) q3 hr hb b0 b24
        refine PX.mk_ok (h' := h4) ?_ q4 (x3.chg c4 (fun y i y1 y2 i1 i2 => by unfold m7; omega)) (((c1.mono (fun a k z => m7_x z)).trans c3).trans (c4.mono (fun a k z => m7_x z)))
        rw [e1, Option.bind_some, guard46 q1.sg, Option.bind_some, e3, Option.bind_some, e4, Option.bind_some]
      · rw [if_neg hb]
        obtain ⟨h4, e4, q4, c4⟩ := e7_close_no (N := N) q3 hb
        refine PX.mk_no (h' := h4) ?_ q4 (((c1.mono (fun a k z => m7_e z)).trans (c3.mono (fun a k z => xA_e z))).trans (c4.mono (fun a k z => m7_e z)))
        rw [e1, Option.bind_some, guard46 q1.sg, Option.bind_some, e3, Option.bind_some, e4, Option.bind_some]
    · obtain ⟨h3, e3, q3, c3⟩ := pq.2 w hq
      rw [Pr.bind_no]
      obtain ⟨h4, e4, q4, c4⟩ := q3.close (N := N) (k := b) b24
      refine PX.mk_no (h' := h4) ?_ q4 (((c1.mono (fun a k z => m7_e z)).trans c3).trans (c4.mono (fun a k z => m7_e z)))
      rw [e1, Option.bind_some, guard46 q1.sg, Option.bind_some, e3, Option.bind_some, e4, Option.bind_some]
theorem bracketed_run {C : Cx} {N J r : Nat} {sub : Nat → Pr Tr} (hsub : ∀ r', r = r' + 1 → RX C N J 76 sub r' (7 * (30 - r'))) (hJ : 3 ≤ J) (hN : 400 < N) : RX C N (J + 1) 75 (C.1.brk r sub 40 41) r (7 * (30 - r) + 7) := by
  intro j hj t W c p o h q hW
  obtain ⟨i, rfl⟩ : ∃ i, j = i + 1 := ⟨j - 1, by omega⟩
  rw [k_75]
  unfold fX7_readBracketed
  rw [if_pos (o_46 q.sg)]
  exact brk_body hsub hJ hN (by decide) (by decide) (by decide) (by decide) (by omega) q hW
theorem index_run {C : Cx} {N J r : Nat} {sub : Nat → Pr Tr} (hsub : ∀ r', r = r' + 1 → RX C N J 76 sub r' (7 * (30 - r'))) (hJ : 3 ≤ J) (hN : 400 < N) : RX C N (J + 1) 85 (C.1.brk r sub 91 93) r (7 * (30 - r) + 7) := by
  intro j hj t W c p o h q hW
  obtain ⟨i, rfl⟩ : ∃ i, j = i + 1 := ⟨j - 1, by omega⟩
  rw [k_85]
  unfold fX7_readIndex
  rw [if_pos (o_46 q.sg)]
  exact brk_body hsub hJ hN (by decide) (by decide) (by decide) (by decide) (by omega) q hW
theorem Er7.index {C : Cx} {N : Nat} (hN : 400 < N) : EX C N 4 85 := by
  intro j hj w W h q
  obtain ⟨i, rfl⟩ : ∃ i, j = i + 1 := ⟨j - 1, by omega⟩
  obtain ⟨h1, e1, q1, c1⟩ := q.opn (N := N) (k := 91) (by decide)
  obtain ⟨h3, e3, q3, c3⟩ := Er7.expr hN i (by omega) _ _ _ q1
  obtain ⟨h4, e4, q4, c4⟩ := q3.close (N := N) (k := 93) (by decide)
  refine ⟨h4, ?_, q4, ((c1.mono (fun a k z => m7_e z)).trans c3).trans (c4.mono (fun a k z => m7_e z))⟩
  rw [k_85]
  unfold fX7_readIndex
  rw [if_pos (o_46 q.sg), e1, Option.bind_some, guard46 q1.sg, Option.bind_some, e3, Option.bind_some, e4, Option.bind_some]
/-- what a reading of arguments comes to: a spine and how many -/
def PA (C : Cx) (q : Pr (Tr × Nat)) (r W c c0 : Nat) (p o : Int32) (h : pH) (res : Option (Int32 × pH)) : Prop := (∀ y t', q = ok y t' → ∃ h', res = some (Int32.ofNat y.2, h') ∧ At7 C r t' W (c + cl y.1) p o h' ∧ CE (QC C p o h') y.1 c ∧ Chg (xA W c0) h h' ∧ c + cl y.1 + 1 ≤ C.1.P t') ∧ (∀ w, q = no w → ∃ n h', res = some (n, h') ∧ Er7 C w W h' ∧ Chg (eA W) h h')
theorem args_59 {C : Cx} {N w W : Nat} {v : Int32} {h : pH} {rc : Nat → List Value → pH → Option (Option Value × pH)} (q : Er7 C w W h) : ∃ h', fX7_readArguments_59 N rc 46 v h = some (v, h') ∧ Er7 C w W h' ∧ Chg (eA W) h h' := by
  obtain ⟨h4, e4, q4, c4⟩ := q.close (N := N) (k := 41) (by decide)
  refine ⟨h4, ?_, q4, c4.mono (fun a k z => m7_e z)⟩
  unfold fX7_readArguments_59
  rw [e4, Option.bind_some]
theorem args_26 {C : Cx} {N n w W : Nat} {v g : Int32} {h : pH} {rc : Nat → List Value → pH → Option (Option Value × pH)} (q : Er7 C w W h) : ∃ h', fX7_readArguments_26 N rc (n + 1) 46 v g h = some (v, h') ∧ Er7 C w W h' ∧ Chg (eA W) h h' := by
  obtain ⟨h', e, z⟩ := args_59 (N := N) (v := v) (rc := rc) q
  refine ⟨h', ?_, z⟩
  rw [fX7_readArguments_26]
  split
  · exact e
  · rw [g_46_9 q.sg, Option.bind_some, q.kind, if_neg (by decide)]
    exact e
/-- behind an argument: a further one, or the end -/
def Tks.argn (S : Tks) (sub : Nat → Pr Tr) (f : Nat) (s : Tr) (n t : Nat) : Pr (Tr × Nat) := if S.K t = 44 then S.argl sub f s n (t + 1) else if S.K t = 41 then ok (s, n) (t + 1) else no (S.P t)
theorem Tks.argl_succ (S : Tks) (sub : Nat → Pr Tr) (f : Nat) (s : Tr) (n t : Nat) : S.argl sub (f + 1) s n t = (sub t).bind fun y t' => S.argn sub f (eArg s y) (n + 1) t' := rfl
theorem args_loop {C : Cx} {N J j r W c c0 : Nat} {p o : Int32} {sub : Nat → Pr Tr} (hsub : RX C N J 76 sub r (7 * (30 - r))) (hA : C.1.Adv sub) (hN : 3200 < N) (hj : J ≤ j) (hr : r + 1 ≤ 30) (hW : W ≤ 7 * (30 - r)) : ∀ (f n g m t : Nat) (s : Tr) (h : pH), C.1.E < t + f + 1 → C.2.2 < t + n → g ≤ t → m ≤ t → c0 ≤ c + cl s → At7 C r t W (c + cl s) p o h → CE (QC C p o h) s c → PA C (C.1.argn sub f s m t) (r + 1) W c c0 p o h (fX7_readArguments_26 N (gX7_readSign N j) n 46 (Int32.ofNat m) (Int32.ofNat g) h)
  | f, n, g, m, t, s, h, hf, hn, hg, hm, hc0, q, qs => by
    have hE := q.le_E
    have hC := q.1.2.1
    have ht := q.2.1
    obtain ⟨n', rfl⟩ : ∃ n', n = n' + 1 := ⟨n - 1, by omega⟩
    rw [fX7_readArguments_26, show (3100 : Int32) = Int32.ofNat 3100 from rfl, ifLe (by decide) (by omega), if_neg (by omega), g_46_9 q.sg, Option.bind_some, q.kind]
    unfold Tks.argn
    by_cases h44 : C.1.K t = 44
    · rw [if_pos h44, if_pos h44]
      have htl := q.lt h44 (by decide) (by decide)
      obtain ⟨f', rfl⟩ : ∃ f', f = f' + 1 := ⟨f - 1, by omega⟩
      have hmo := C.1.mono t (q.1.2.2.2.1 t htl).1
      obtain ⟨h1, e1, q1, c1⟩ := e7_advance (N := N) q htl
      have qs1 := qs.chg c1 (fun y i y1 y2 i1 i2 => by unfold m7; omega)
      have pq := hsub j hj (t + 1) W (c + cl s) p o h1 q1 hW
      rw [e1, Option.bind_some, guard46 q1.sg, Option.bind_some, Tks.argl_succ]
      rcases hq : sub (t + 1) with ⟨x, t'⟩ | w
      · obtain ⟨h3, e3, q3, x3, c3⟩ := pq.1 x t' hq
        have hadv := hA _ _ _ hq
        rw [e3, Option.bind_some, Pr.bind_ok, i_add1, i_add1]
        have hcl := cl_arg s x
        have q3' : At7 C r t' W (c + cl (eArg s x)) p o h3 := by rw [hcl, ← Nat.add_assoc]; exact q3
        have IH := args_loop (c0 := c0) hsub hA hN hj hr hW f' n' (g + 1) (m + 1) t' (eArg s x) h3 (by omega) (by omega) (by omega) (by omega) (by omega) q3' (CE_arg (qs1.chg c3 (fun y i y1 y2 i1 i2 => by unfold xA; omega)) x3)
        have c13 : Chg (xA W c0) h h3 := (c1.mono (fun a k z => m7_x z)).trans (c3.mono (fun a k z => xA_le (Nat.le_refl _) (by omega) z))
        refine ⟨fun y u z => ?_, fun w z => ?_⟩
        · obtain ⟨h', a1, a2, a3, a4, a5⟩ := IH.1 y u z
          exact ⟨h', a1, a2, a3, c13.trans a4, a5⟩
        · obtain ⟨v, h', a1, a2, a3⟩ := IH.2 w z
          exact ⟨v, h', a1, a2, (c13.mono (fun a k z => xA_e z)).trans a3⟩
      · obtain ⟨h3, e3, q3, c3⟩ := pq.2 w hq
        rw [e3, Option.bind_some, Pr.bind_no, i_add1, i_add1]
        obtain ⟨n'', rfl⟩ : ∃ n'', n' = n'' + 1 := ⟨n' - 1, by omega⟩
        obtain ⟨h', e', q', c'⟩ := args_26 (N := N) (n := n'') (v := Int32.ofNat (m + 1)) (g := Int32.ofNat (g + 1)) (rc := gX7_readSign N j) q3
        refine ⟨fun y u z => (by cases z), fun w z => ?_⟩
        obtain rfl := Sum.inr.inj z
        exact ⟨_, h', e', q', ((c1.mono (fun a k z => m7_e z)).trans c3).trans c'⟩
    · rw [if_neg h44, if_neg h44]
      unfold fX7_readArguments_59
      by_cases h41 : C.1.K t = 41
      · rw [if_pos h41]
        obtain ⟨h4, e4, q4, c4⟩ := e7_close (N := N) q hr h41 (by decide) (by decide)
        refine ⟨fun y u z => ?_, fun w z => by cases z⟩
        obtain ⟨rfl, rfl⟩ := ok_inj z
        have hmo := C.1.mono t (by rw [h41]; decide)
        have hcap := q.cap
        exact ⟨h4, by rw [e4, Option.bind_some], q4, qs.chg c4 (fun y i y1 y2 i1 i2 => by unfold m7; omega), c4.mono (fun a k z => m7_x z), by show c + cl s + 1 ≤ _; omega⟩
      · rw [if_neg h41]
        obtain ⟨h4, e4, q4, c4⟩ := e7_close_no (N := N) q h41
        refine ⟨fun y u z => (no_ok z).elim, fun w z => ?_⟩
        obtain rfl := Sum.inr.inj z
        exact ⟨_, h4, by rw [e4, Option.bind_some], q4, c4.mono (fun a k z => m7_e z)⟩
theorem args_run {C : Cx} {N J j r t W c : Nat} {p o : Int32} {h : pH} {s : Tr} {sub : Nat → Pr Tr} (hsub : ∀ r', r = r' + 1 → RX C N J 76 sub r' (7 * (30 - r'))) (hA : C.1.Adv sub) (hJ : 3 ≤ J) (hN : 3200 < N) (hj : J + 1 ≤ j) (q : At7 C r t W (c + cl s) p o h) (qs : CE (QC C p o h) s c) (hW : W ≤ 7 * (30 - r) + 7) : PA C (C.1.args r sub s t) r W c (c + cl s) p o h (rcI (gX7_readSign N j) 83 [.ref 46] h) := by
  obtain ⟨i, rfl⟩ : ∃ i, j = i + 1 := ⟨j - 1, by omega⟩
  have hE := q.le_E
  have hC := q.1.2.1
  rw [k_83]
  unfold fX7_readArguments Tks.args
  rw [if_pos (o_46 q.sg)]
  by_cases hk : C.1.K t ≠ 40 ∨ r = 0
  · rw [if_pos hk]
    obtain ⟨h1, e1, q1, c1⟩ := e7_open_no (N := N) q hk
    obtain ⟨h3, e3, q3, c3⟩ := Er7.expr (N := N) (by omega) i (by omega) _ _ _ q1
    obtain ⟨n, hn⟩ : ∃ n, N = n + 1 := ⟨N - 1, by omega⟩
    obtain ⟨h', e', q', c'⟩ := args_26 (N := N) (n := n) (v := (0 : Int32) + 1) (g := 0) (rc := gX7_readSign N i) q3
    refine ⟨fun y u z => (no_ok z).elim, fun w z => ?_⟩
    obtain rfl := Sum.inr.inj z
    refine ⟨(0 : Int32) + 1, h', ?_, q', ((c1.mono (fun a k z => m7_e z)).trans c3).trans c'⟩
    rw [← hn] at e'
    rw [e1, Option.bind_some, g_46_9 q1.sg, Option.bind_some, q1.kind, if_neg (by decide), guard46 q1.sg, Option.bind_some, e3, Option.bind_some]
    exact e'
  · rw [if_neg hk]
    have hka : C.1.K t = 40 := Decidable.not_not.mp (fun z => hk (Or.inl z))
    obtain ⟨r', rfl⟩ : ∃ r', r = r' + 1 := ⟨r - 1, by omega⟩
    have hr := q.2.2.1
    have htl := q.lt hka (by decide) (by decide)
    have hmo := C.1.mono t (by rw [hka]; decide)
    have hcap := q.cap
    obtain ⟨h1, e1, q1, c1⟩ := e7_open (N := N) q hka (by decide) (by decide)
    have qs1 := qs.chg c1 (fun y i y1 y2 i1 i2 => by unfold m7; omega)
    rw [e1, Option.bind_some, g_46_9 q1.sg, Option.bind_some, q1.kind]
    by_cases h41 : C.1.K (t + 1) = 41
    · rw [if_pos h41, if_pos h41]
      obtain ⟨h4, e4, q4, c4⟩ := e7_close (N := N) q1 hr h41 (by decide) (by decide)
      refine ⟨fun y u z => ?_, fun w z => by cases z⟩
      obtain ⟨rfl, rfl⟩ := ok_inj z
      have hmo2 := C.1.mono (t + 1) (by rw [h41]; decide)
      refine ⟨h4, ?_, q4, qs1.chg c4 (fun y i y1 y2 i1 i2 => by unfold m7; omega), (c1.trans c4).mono (fun a k z => m7_x z), by show c + cl s + 1 ≤ C.1.P (t + 2); have : C.1.P (t + 1) < C.1.P (t + 2) := hmo2; omega⟩
      unfold fX7_readArguments_59
      rw [e4, Option.bind_some]
      rfl
    · rw [if_neg h41, if_neg h41]
      have pq := hsub r' rfl i (by omega) (t + 1) W (c + cl s) p o h1 q1 (by omega)
      rw [guard46 q1.sg, Option.bind_some]
      obtain ⟨f, hf⟩ : ∃ f, C.1.E - t = f + 1 := ⟨C.1.E - t - 1, by omega⟩
      rw [hf, Tks.argl_succ]
      rcases hq : sub (t + 1) with ⟨x, t'⟩ | w
      · obtain ⟨h3, e3, q3, x3, c3⟩ := pq.1 x t' hq
        have hadv := hA _ _ _ hq
        rw [e3, Option.bind_some, Pr.bind_ok]
        have hcl := cl_arg s x
        have q3' : At7 C r' t' W (c + cl (eArg s x)) p o h3 := by rw [hcl, ← Nat.add_assoc]; exact q3
        have IH := args_loop (c0 := c + cl s) (hsub r' rfl) hA hN (show J ≤ i by omega) hr (by omega) f N 0 1 t' (eArg s x) h3 (by omega) (by omega) (by omega) (by omega) (by omega) q3' (CE_arg (qs1.chg c3 (fun y i y1 y2 i1 i2 => by unfold xA; omega)) x3)
        have c13 : Chg (xA W (c + cl s)) h h3 := (c1.mono (fun a k z => m7_x z)).trans c3
        refine ⟨fun y u z => ?_, fun w z => ?_⟩
        · obtain ⟨h', a1, a2, a3, a4, a5⟩ := IH.1 y u z
          exact ⟨h', a1, a2, a3, c13.trans a4, a5⟩
        · obtain ⟨v, h', a1, a2, a3⟩ := IH.2 w z
          exact ⟨v, h', a1, a2, (c13.mono (fun a k z => xA_e z)).trans a3⟩
      · obtain ⟨h3, e3, q3, c3⟩ := pq.2 w hq
        rw [e3, Option.bind_some, Pr.bind_no]
        obtain ⟨n, hn⟩ : ∃ n, N = n + 1 := ⟨N - 1, by omega⟩
        obtain ⟨h', e', q', c'⟩ := args_26 (N := N) (n := n) (v := (0 : Int32) + 1) (g := 0) (rc := gX7_readSign N i) q3
        rw [← hn] at e'
        refine ⟨fun y u z => (by cases z), fun w z => ?_⟩
        obtain rfl := Sum.inr.inj z
        exact ⟨_, h', e', q', ((c1.mono (fun a k z => m7_e z)).trans c3).trans c'⟩
