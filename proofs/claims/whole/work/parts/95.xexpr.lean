/-! ===== THE READER OF EXPRESSIONS: signs ahead, signs between ===== -/
theorem opc_rng (k : Int32) : 19 ≤ opc k ∧ opc k ≤ 29 := by
  unfold opc
  repeat' split
  all_goals omega
theorem wtH_rep {C : Cx} {p o : Int32} {h : pH} {W c : Nat} {e : En} {es : List En} (hs : Sg h) (qw : WRep C p o h W c es) (he : enF e) (hce : CE (QC C p o h) e.2.2.2 (c + LW es)) (hm : (e.1 = 28 ∨ e.1 = 29) → PcAt h (c + LW es + cl e.2.2.2) (Int32.ofNat e.1) 0 0 0 p o) : WRep C p o (wtH h (W + es.length) (Int32.ofNat e.1) (Int32.ofNat e.2.1) (enM C c e es)) W c (e :: es) := by
  obtain ⟨g1, g2, g3, g4⟩ := wtH_rd hs (W + es.length) (Int32.ofNat e.1) (Int32.ofNat e.2.1) (enM C c e es)
  have g := wtH_chg h (W + es.length) (Int32.ofNat e.1) (Int32.ofNat e.2.1) (enM C c e es)
  exact ⟨he, g1, g2, g3, hce.chg g (fun y i y1 y2 i1 i2 => by unfold wtA; omega), fun z => (hm z).chg g (fun y y1 y2 => by unfold wtA; omega), qw.chg g (fun y i y1 y2 i1 i2 => by unfold wtA; omega) (fun y i y1 y2 i1 i2 => by unfold wtA; omega)⟩
theorem one_32 {N : Nat} {rc : Nat → List Value → pH → Option (Option Value × pH)} {k7 : Nat → Int32 → Int32 → pH → Option pH} {v1 v2 : Int32} {h h1 h2 : pH} {K : Int32} (hs : Sg h) (hs1 : Sg h1) (hk : rd h 46 9 = K) (hk1 : rd h1 46 9 = K) (e1 : fX7_await N 46 (Int32.ofNat (if K = 45 then 17 else 18)) (Int32.ofNat 7) 0 h = some h1) (e2 : fX7_open N 46 K h1 = some h2) : fX7_readOne_32 N rc k7 46 v1 v2 h = k7 46 v1 (v2 + 1) h2 := by
  unfold fX7_readOne_32
  rw [g_46_9 hs, Option.bind_some, hk]
  by_cases h45 : K = 45
  · rw [if_pos h45] at e1
    rw [if_pos h45]
    unfold fX7_readOne_49
    show (fX7_await N 46 (Int32.ofNat 17) (Int32.ofNat 7) 0 h).bind _ = _
    rw [e1, Option.bind_some, g_46_9 hs1, Option.bind_some, hk1, e2, Option.bind_some]
  · rw [if_neg h45] at e1
    rw [if_neg h45]
    unfold fX7_readOne_49
    show (fX7_await N 46 (Int32.ofNat 18) (Int32.ofNat 7) 0 h).bind _ = _
    rw [e1, Option.bind_some, g_46_9 hs1, Option.bind_some, hk1, e2, Option.bind_some]
theorem one_sign {N n : Nat} {rc : Nat → List Value → pH → Option (Option Value × pH)} {v1 v2 : Int32} {h : pH} {K : Int32} (hs : Sg h) (hk : rd h 46 9 = K) (hK : K = 45 ∨ K = 33) (hg : ¬ (3100 : Int32) ≤ v2) : fX7_readOne_7 N rc (n + 1) 46 v1 v2 h = fX7_readOne_32 N rc (fX7_readOne_7 N rc n) 46 v1 v2 h := by
  rw [fX7_readOne_7, if_neg hg, g_46_9 hs, Option.bind_some, hk]
  by_cases h45 : K = 45
  · rw [if_pos h45]
  · rw [if_neg h45, Option.bind_some, if_pos (hK.resolve_left h45)]
theorem one_plain {N n : Nat} {rc : Nat → List Value → pH → Option (Option Value × pH)} {v1 v2 : Int32} {h : pH} {K : Int32} (hs : Sg h) (hk : rd h 46 9 = K) (hK : ¬ (K = 45 ∨ K = 33)) : fX7_readOne_7 N rc (n + 1) 46 v1 v2 h = fX7_readOne_69 N rc 46 v1 h := by
  rw [fX7_readOne_7]
  split
  · rfl
  · rw [g_46_9 hs, Option.bind_some, hk, if_neg (fun z => hK (Or.inl z)), Option.bind_some, if_neg (fun z => hK (Or.inr z))]
theorem one_loop {C : Cx} {N : Nat} (hN : 3200 < N) : ∀ (r : Nat), (∀ r', r' < r → RX C N (6 * r' + 9) 76 (C.1.expr r') r' (7 * (30 - r'))) → ∀ (es : List En) (t W c : Nat) (p o : Int32) (h : pH) (n g j : Nat), UN es → r + es.length ≤ 30 → W ≤ 7 * (30 - (r + es.length)) + 6 → 6 * r + 6 ≤ j → r + 2 ≤ n → g + r ≤ 60 → At7 C r t (W + es.length) c p o h → WRep C p o h W c es → c + WTl es ≤ C.1.P t → PO C (C.1.sgl r t) es r W c p o h (fX7_readOne_7 N (gX7_readSign N j) n 46 (Int32.ofNat W) (Int32.ofNat g) h)
  | r, hsub, es, t, W, c, p, o, h, n, g, j, hu, hr, hW, hj, hn, hg, q, qw, hcap => by
    obtain ⟨n', rfl⟩ : ∃ n', n = n' + 1 := ⟨n - 1, by omega⟩
    obtain ⟨u1, u2, u3⟩ := hu.lw
    have hgl : ¬ (3100 : Int32) ≤ Int32.ofNat g := by
      rw [show (3100 : Int32) = Int32.ofNat 3100 from rfl, iLe (by decide) (by omega)]
      omega
    by_cases hk : C.1.K t = 45 ∨ C.1.K t = 33
    · have k0 : C.1.K t ≠ 0 := fun z => by rw [z] at hk; revert hk; decide
      have k24 : C.1.K t ≠ 24 := fun z => by rw [z] at hk; revert hk; decide
      have hmo := C.1.mono t k0
      have hkk : (if C.1.K t = 45 then 17 else 18) = 17 ∨ (if C.1.K t = 45 then 17 else 18) = 18 := by split <;> simp
      obtain ⟨e1, q1⟩ := q.await (N := N) (l := 7) (Int32.ofNat (if C.1.K t = 45 then 17 else 18)) 0 (by omega) (by omega) (fun z => by rcases hkk with y | y <;> rw [y] at z <;> revert z <;> decide)
      have cw := wtH_chg h (W + es.length) (Int32.ofNat (if C.1.K t = 45 then 17 else 18)) (Int32.ofNat 7) 0
      rw [one_sign q.sg q.kind hk hgl]
      cases r with
      | zero =>
        obtain ⟨h2, e2, q2, c2⟩ := e7_open_no (N := N) (k := C.1.K t) q1 (Or.inr rfl)
        rw [one_32 q.sg q1.sg q.kind q1.kind e1 e2, i_add1]
        have es0 : C.1.sgl 0 t = no (C.1.P t) := by unfold Tks.sgl; rw [if_pos hk]
        rw [es0]
        obtain ⟨n'', rfl⟩ : ∃ n'', n' = n'' + 1 := ⟨n' - 1, by omega⟩
        obtain ⟨i, rfl⟩ : ∃ i, j = i + 1 := ⟨j - 1, by omega⟩
        obtain ⟨h', W', e', b1, b2, b3, b4⟩ := one_7 (N := N) (n := n'') (j := i) (v := Int32.ofNat (g + 1)) (B := W) (by omega) (by omega) q2
        refine ⟨fun y u z => (no_ok z).elim, fun w z => ?_⟩
        obtain rfl := Sum.inr.inj z
        exact ⟨h', W', e', b1, b3, ((cw.mono (fun a k z => by unfold wtA at z; unfold eA; omega)).trans (c2.mono (fun a k z => m7_e z))).trans b4⟩
      | succ r =>
        obtain ⟨h2, e2, q2, c2⟩ := e7_open (N := N) (k := C.1.K t) q1 rfl k0 k24
        rw [one_32 q.sg q1.sg q.kind q1.kind e1 e2, i_add1]
        have hef : enF ((if C.1.K t = 45 then 17 else 18), 7, 0, nl) := ⟨by rcases hkk with y | y <;> (show (if C.1.K t = 45 then 17 else 18) < 62) <;> omega, Nat.le_refl _, fun _ => ⟨rfl, fun _ => rfl⟩, Or.inr (Or.inr (Or.inr (by show 16 ≤ (if C.1.K t = 45 then 17 else 18) ∧ (if C.1.K t = 45 then 17 else 18) ≤ 18; omega)))⟩
        have hnm : ¬ ((if C.1.K t = 45 then 17 else 18) = 28 ∨ (if C.1.K t = 45 then 17 else 18) = 29) := by omega
        have hen : enM C c ((if C.1.K t = 45 then 17 else 18), 7, 0, nl) es = 0 := by
          unfold enM
          rw [if_neg hnm, if_neg (show ¬ (if C.1.K t = 45 then 17 else 18) = 16 by omega)]
        have qw1 := wtH_rep (e := ((if C.1.K t = 45 then 17 else 18), 7, 0, nl)) q.sg qw hef (CE_nl _ _) (fun z => absurd z hnm)
        rw [hen] at qw1
        have qw2 := qw1.chg c2 (fun y i y1 y2 i1 i2 => by unfold m7; omega) (fun y i y1 y2 i1 i2 => by unfold m7; omega)
        have hu2 : UN (((if C.1.K t = 45 then 17 else 18), 7, 0, nl) :: es) := by
          intro e he
          rcases List.mem_cons.mp he with z | z
          · rw [z]; exact ⟨hkk, rfl⟩
          · exact hu e z
        have hlen : (((if C.1.K t = 45 then 17 else 18), 7, 0, nl) :: es : List En).length = es.length + 1 := rfl
        have hwt : WTl (((if C.1.K t = 45 then 17 else 18), 7, 0, nl) :: es) = WTl es + 0 + 1 := by rw [WTl_cons, if_neg hnm]; rfl
        have IH := one_loop hN r (fun r' z => hsub r' (by omega)) (((if C.1.K t = 45 then 17 else 18), 7, 0, nl) :: es) (t + 1) W c p o h2 n' (g + 1) j hu2 (by rw [hlen]; omega) (by rw [hlen]; omega) (by omega) (by omega) (by omega) (by rw [hlen]; exact q2) qw2 (by rw [hwt]; omega)
        have es1 : C.1.sgl (r + 1) t = (C.1.sgl r (t + 1)).bind fun x t' => ok (eUn (if C.1.K t = 45 then 17 else 18) 0 0 x) t' := by
          rw [Tks.sgl, if_pos hk]
        have cc : Chg (fun a k => wtA (W + es.length) a k ∨ m7 a k) h h2 := (cw.mono (fun a k z => Or.inl z)).trans (c2.mono (fun a k z => Or.inr z))
        rw [es1]
        refine ⟨fun y u z => ?_, fun w z => ?_⟩
        · obtain ⟨x, v, z1, z2⟩ := Pr.bind_eq_ok z
          obtain ⟨rfl, rfl⟩ := ok_inj z2
          obtain ⟨h', a1, a2, a3, a4⟩ := IH.1 x v z1
          have ha : actAll (((if C.1.K t = 45 then 17 else 18), 7, 0, nl) :: es) x = actAll es (eUn (if C.1.K t = 45 then 17 else 18) 0 0 x) := by
            show actAll es (act _ x) = _
            rw [act_un hkk]
          rw [ha] at a2 a3
          rw [hlen, show r + (es.length + 1) = r + 1 + es.length by omega] at a2
          exact ⟨h', a1, a2, a3, (cc.mono (fun a k z => by unfold wtA m7 at z; unfold xA; omega)).trans a4⟩
        · rcases hq : C.1.sgl r (t + 1) with ⟨x, v⟩ | w'
          · rw [hq] at z; cases z
          · rw [hq] at z
            obtain rfl := Sum.inr.inj z
            obtain ⟨h', W', a1, a2, a3, a4⟩ := IH.2 w' hq
            exact ⟨h', W', a1, a2, a3, (cc.mono (fun a k z => by unfold wtA m7 at z; unfold eA; omega)).trans a4⟩
    · rw [one_plain q.sg q.kind hk]
      cases r with
      | zero =>
        have es0 : C.1.sgl 0 t = C.1.chain 0 (fun t => no (C.1.P t)) t := by unfold Tks.sgl; rw [if_neg hk]
        rw [es0]
        exact chain_run7 (J := 3) (fun t x t' h => (no_ok h).elim) (fun r' z => by omega) (fun t x t' h => (no_ok h).elim) (by omega) hN (by omega) hu hr (by omega) q qw hcap
      | succ r =>
        have es1 : C.1.sgl (r + 1) t = C.1.chain (r + 1) (C.1.expr r) t := by rw [Tks.sgl, if_neg hk]; rfl
        rw [es1]
        exact chain_run7 (J := 6 * r + 9) (Tks.expr_cap C.1 r) (fun r' z => by obtain rfl : r' = r := (by omega); exact hsub r' (by omega)) (Tks.expr_adv C.1 r) (by omega) hN (by omega) hu hr (by omega) q qw hcap
/-- readOne, as it is called -/
theorem one_run7 {C : Cx} {N r j t W c : Nat} {p o : Int32} {h : pH} (hN : 3200 < N) (hsub : ∀ r', r' < r → RX C N (6 * r' + 9) 76 (C.1.expr r') r' (7 * (30 - r'))) (hj : 6 * r + 7 ≤ j) (hW : W ≤ 7 * (30 - r) + 6) (q : At7 C r t W c p o h) : PO C (C.1.sgl r t) [] r W c p o h (rcV (gX7_readSign N j) 77 [.ref 46] h) := by
  obtain ⟨i, rfl⟩ : ∃ i, j = i + 1 := ⟨j - 1, by omega⟩
  have hr := q.2.2.1
  rw [k_77]
  unfold fX7_readOne
  rw [if_pos (o_46 q.sg), g_46_7 q.sg, Option.bind_some, q.f7]
  exact one_loop hN r hsub [] t W c p o h N 0 i (fun e he => by cases he) hr hW (by omega) (by omega) (by omega) q trivial (by have := q.cap; show c + 0 ≤ _; omega)
def toEn (e : Int32 × Tr) : En := (opc e.1, lvl e.1, 0, e.2)
theorem act_toEn (e : Int32 × Tr) (x : Tr) : act (toEn e) x = mk2 e.1 e.2 x := by
  have := opc_rng e.1
  unfold act toEn mk2 eBin
  rw [if_neg (by omega)]
theorem relL_map (ls : Nat) : ∀ (st : Tks.Wt) (x : Tr), relL ls (st.map toEn) x = ((Tks.rel ls st x).1.map toEn, (Tks.rel ls st x).2)
  | [], x => rfl
  | (k, a) :: st, x => by
    have e : relL ls (((k, a) :: st).map toEn) x = if ls ≤ lvl k then relL ls (st.map toEn) (act (toEn (k, a)) x) else (((k, a) :: st).map toEn, x) := rfl
    rw [e]
    unfold Tks.rel
    split
    · rw [act_toEn, relL_map ls st]
    · rfl
theorem Tks.WtOk.len : ∀ {b : Nat} {st : Tks.Wt}, Tks.WtOk b st → st.length ≤ b
  | b, [], _ => Nat.zero_le _
  | b, (k, a) :: st, ⟨h1, h2, h3, h4⟩ => by
    have := h4.len
    show st.length + 1 ≤ b
    omega
/-- the state at the loop's head -/
def HD (C : Cx) (s : Nat → Pr Tr) (D : Pr Tr) (t : Nat) (es : List En) (x : Tr) : Prop := (∃ st : Tks.Wt, es = st.map toEn ∧ Tks.WtOk (Tks.least (lvl (C.1.K t)) - 1) st ∧ ((lvl (C.1.K t) = 0 ∧ st = [] ∧ D = ok x t) ∨ (lvl (C.1.K t) ≠ 0 ∧ D = C.1.den s (lvl (C.1.K t)) st x t))) ∨ (∃ (st : Tks.Wt) (w : Nat), es = (16, 4, w, nl) :: st.map toEn ∧ Tks.WtOk 3 st ∧ 4 ≤ lvl (C.1.K t) ∧ D = ok (Tks.fold st (eUn 16 0 w x)) t)
/-- the state behind an operand, or behind is NAME -/
def MD (C : Cx) (s : Nat → Pr Tr) (D : Pr Tr) (t : Nat) (es : List En) (x : Tr) : Prop := (∃ st : Tks.Wt, es = st.map toEn ∧ Tks.WtOk 6 st ∧ D = C.1.den s 6 st x t) ∨ (∃ (st : Tks.Wt) (w : Nat), es = (16, 4, w, nl) :: st.map toEn ∧ Tks.WtOk 3 st ∧ D = C.1.den s 3 st (eUn 16 0 w x) t)
theorem act_is (w : Nat) (x : Tr) : act (16, 4, w, nl) x = eUn 16 0 w x := by
  unfold act
  rw [if_pos (Or.inl rfl)]
  rfl
theorem MD.hd {C : Cx} {s : Nat → Pr Tr} {D : Pr Tr} {t : Nat} {es : List En} {x : Tr} (m : MD C s D t es x) : HD C s D t (relL (Tks.least (lvl (C.1.K t))) es x).1 (relL (Tks.least (lvl (C.1.K t))) es x).2 := by
  have h6 := lvl_le (C.1.K t)
  rcases m with ⟨st, rfl, hw, hD⟩ | ⟨st, w, rfl, hw, hD⟩
  · rw [relL_map]
    refine Or.inl ⟨_, rfl, Tks.rel_ok _ 6 st x hw, ?_⟩
    by_cases hl : lvl (C.1.K t) = 0
    · refine Or.inl ⟨hl, ?_, ?_⟩
      · rw [hl, show Tks.least 0 = 0 from rfl, Tks.rel_0]
      · rw [hl, show Tks.least 0 = 0 from rfl, Tks.rel_0, hD]
        exact Tks.den_fold C.1 s st 6 x t hw (Or.inl hl)
    · exact Or.inr ⟨hl, by rw [hD]; exact Tks.den_rel C.1 s hl st 6 x hw h6⟩
  · have e : ∀ ls, relL ls ((16, 4, w, nl) :: st.map toEn) x = if ls ≤ 4 then relL ls (st.map toEn) (eUn 16 0 w x) else ((16, 4, w, nl) :: st.map toEn, x) := by
      intro ls
      show (if ls ≤ 4 then relL ls (st.map toEn) (act (16, 4, w, nl) x) else _) = _
      rw [act_is]
    by_cases hl : lvl (C.1.K t) = 0
    · rw [e, hl, show Tks.least 0 = 0 from rfl, if_pos (by omega), relL_map, Tks.rel_0]
      refine Or.inl ⟨[], rfl, trivial, Or.inl ⟨hl, rfl, ?_⟩⟩
      rw [hD]
      exact Tks.den_fold C.1 s st 3 _ t hw (Or.inl hl)
    · by_cases h4 : lvl (C.1.K t) ≤ 3
      · have : Tks.least (lvl (C.1.K t)) ≤ 4 := by unfold Tks.least; split <;> omega
        rw [e, if_pos this, relL_map]
        exact Or.inl ⟨_, rfl, Tks.rel_ok _ 3 st _ hw, Or.inr ⟨hl, by rw [hD]; exact Tks.den_rel C.1 s hl st 3 _ hw h4⟩⟩
      · have : ¬ Tks.least (lvl (C.1.K t)) ≤ 4 := by
          unfold Tks.least
          split
          · omega
          · rename_i z
            intro y
            have : lvl (C.1.K t) = 4 := by omega
            rw [this] at z
            exact z rfl
        rw [e, if_neg this]
        refine Or.inr ⟨st, w, rfl, hw, by omega, ?_⟩
        rw [hD]
        exact Tks.den_fold C.1 s st 3 _ t hw (Or.inr (by omega))
