/-! ===== THE READER OF EXPRESSIONS: what stands behind the first, signs ahead of it ===== -/
def Tks.beh (S : Tks) (r : Nat) (sub : Nat → Pr Tr) (x : Tr) (t : Nat) : Pr Tr :=
  if S.K t = 46 then (if S.K (t + 1) ≠ 22 then no (S.P (t + 1)) else if S.K (t + 2) = 40 then (S.args r sub x (t + 2)).bind fun a t' => ok (eCall a.2 (t + 1) a.1) t' else ok (eUn 9 0 (t + 1) x) (t + 2))
  else if S.K t = 91 then (S.brk r sub 91 93 t).bind fun y t' => ok (eBin 12 x y) t'
  else (if S.K (t + 1) ≠ 22 then no (S.P (t + 1)) else ok (eUn 15 0 (t + 1) x) (t + 2))
theorem Tks.chn_succ (S : Tks) (r : Nat) (sub : Nat → Pr Tr) (f : Nat) (x : Tr) (t : Nat) : S.chn r sub (f + 1) x t = if S.K t = 46 ∨ S.K t = 91 ∨ S.K t = 20 then (S.beh r sub x t).bind fun y u => S.chn r sub f y u else ok x t := by
  unfold Tks.beh
  show (if S.K t = 46 then (if S.K (t + 1) ≠ 22 then no (S.P (t + 1)) else if S.K (t + 2) = 40 then (S.args r sub x (t + 2)).bind fun a t' => Tks.chn S r sub f (eCall a.2 (t + 1) a.1) t' else Tks.chn S r sub f (eUn 9 0 (t + 1) x) (t + 2)) else if S.K t = 91 then (S.brk r sub 91 93 t).bind fun y t' => Tks.chn S r sub f (eBin 12 x y) t' else if S.K t = 20 then (if S.K (t + 1) ≠ 22 then no (S.P (t + 1)) else Tks.chn S r sub f (eUn 15 0 (t + 1) x) (t + 2)) else ok x t) = _
  by_cases h1 : S.K t = 46
  · rw [if_pos h1, if_pos (Or.inl h1), if_pos h1]
    by_cases h2 : S.K (t + 1) ≠ 22
    · rw [if_pos h2, if_pos h2]; rfl
    · rw [if_neg h2, if_neg h2]
      by_cases h3 : S.K (t + 2) = 40
      · rw [if_pos h3, if_pos h3, Pr.bind_assoc]; rfl
      · rw [if_neg h3, if_neg h3]; rfl
  · rw [if_neg h1]
    by_cases h4 : S.K t = 91
    · rw [if_pos h4, if_pos (Or.inr (Or.inl h4)), if_neg h1, if_pos h4, Pr.bind_assoc]; rfl
    · rw [if_neg h4]
      by_cases h5 : S.K t = 20
      · rw [if_pos h5, if_pos (Or.inr (Or.inr h5)), if_neg h1, if_neg h4]
        by_cases h2 : S.K (t + 1) ≠ 22
        · rw [if_pos h2, if_pos h2]; rfl
        · rw [if_neg h2, if_neg h2]; rfl
      · rw [if_neg h5, if_neg (fun z => z.elim h1 (fun z => z.elim h4 h5))]
theorem Tks.beh_adv {S : Tks} {sub : Nat → Pr Tr} (hs : S.Adv sub) (r : Nat) {x : Tr} {t : Nat} {y : Tr} {t' : Nat} (h : S.beh r sub x t = ok y t') (hk : S.K t = 46 ∨ S.K t = 91 ∨ S.K t = 20) : t < t' ∧ t' ≤ S.E := by
  have ht : t < S.E := Tks.lt_of (fun z => by rw [z] at hk; revert hk; decide)
  have h0 := Tks.chn_succ S r sub 0 x t
  rw [if_pos hk, h, Pr.bind_ok] at h0
  have h1 := Tks.chn_adv hs r 1 x t y t' (by omega) h0
  refine ⟨?_, h1.2⟩
  unfold Tks.beh at h
  split at h
  · split at h
    · exact (no_ok h).elim
    · split at h
      · obtain ⟨a, u, z1, z2⟩ := Pr.bind_eq_ok h
        have := Tks.args_adv hs _ _ _ _ _ z1
        obtain ⟨z3, z4⟩ := ok_inj z2
        omega
      · obtain ⟨z3, z4⟩ := ok_inj h
        omega
  · split at h
    · obtain ⟨a, u, z1, z2⟩ := Pr.bind_eq_ok h
      have := Tks.brk_adv hs _ _ _ (by decide) _ _ _ z1
      obtain ⟨z3, z4⟩ := ok_inj z2
      omega
    · split at h
      · exact (no_ok h).elim
      · obtain ⟨z3, z4⟩ := ok_inj h
        omega
theorem behind_run {C : Cx} {N J j r t W c : Nat} {p o : Int32} {h : pH} {sub : Nat → Pr Tr} {x : Tr} (hP : C.1.Cap sub) (hsub : ∀ r', r = r' + 1 → RX C N J 76 sub r' (7 * (30 - r'))) (hA : C.1.Adv sub) (hJ : 3 ≤ J) (hN : 3200 < N) (hj : J + 2 ≤ j) (q : At7 C r t W (c + cl x) p o h) (qx : CE (QC C p o h) x c) (hk : C.1.K t = 46 ∨ C.1.K t = 91 ∨ C.1.K t = 20) (hW : W ≤ 7 * (30 - r) + 7) : PX C (C.1.beh r sub x t) r W c p o h (rcV (gX7_readSign N j) 87 [.ref 46] h) := by
  obtain ⟨i, rfl⟩ : ∃ i, j = i + 1 := ⟨j - 1, by omega⟩
  have hk0 : C.1.K t ≠ 0 := fun z => by rw [z] at hk; revert hk; decide
  have hk24 : C.1.K t ≠ 24 := fun z => by rw [z] at hk; revert hk; decide
  have htl := q.1.lt q.2.1 hk0 hk24
  have hmo := C.1.mono t hk0
  have hcap := q.cap
  rw [k_87]
  unfold fX7_readBehind Tks.beh
  rw [if_pos (o_46 q.sg), g_46_9 q.sg, Option.bind_some, q.kind]
  by_cases h91 : C.1.K t = 91
  · rw [if_pos h91, if_neg (by rw [h91]; decide), if_pos h91, guard46 q.sg, Option.bind_some]
    have pq := index_run hsub hJ (by omega) i (by omega) t W (c + cl x) p o h q hW
    rcases hq : C.1.brk r sub 91 93 t with ⟨y, t'⟩ | w
    · obtain ⟨h3, e3, q3, x3, c3⟩ := pq.1 y t' hq
      have hb := Tks.brk_cap hP (by decide) (by decide) hq
      have hcl := cl_le_wt y
      have x3' : CE (QC C p o h3) (eArg x y) c := CE_arg (qx.chg c3 (fun y i y1 y2 i1 i2 => by unfold xA; omega)) x3
      have q3' : At7 C r t' W (c + cl (eArg x y)) p o h3 := by rw [cl_arg, ← Nat.add_assoc]; exact q3
      obtain ⟨h5, e5, q5, x5, y5, c5⟩ := q3'.more (N := N) x3' (by rw [cl_arg]; omega) 12 0 0
      rw [Pr.bind_ok]
      have hce : CE (QC C p o h5) x c ∧ CE (QC C p o h5) y (c + cl x) := x5
      refine PX.mk_ok (h' := h5) ?_ ?_ (CE_bin (by decide) (by decide) hce.1 hce.2 (by rw [cl_arg, ← Nat.add_assoc] at y5; exact y5)) ((c3.mono (fun a k z => xA_le (Nat.le_refl _) (by omega) z)).trans (c5.mono (fun a k z => xA_le (Nat.le_refl _) (by omega) z)))
      · rw [e3, Option.bind_some, R_46_3 q3.sg, Option.bind_some]
        show (fX2_emit N 38 (Int32.ofNat 12) (pa C 12 0 0) (pb C 12 0 0) _).bind _ = _
        rw [e5, Option.bind_some]
      · rw [cl_bin x y (by decide) (by decide), show c + (cl x + cl y + 1) = c + cl (eArg x y) + 1 by rw [cl_arg]; omega]
        exact q5
    · obtain ⟨h3, e3, q3, c3⟩ := pq.2 w hq
      rw [Pr.bind_no, e3, Option.bind_some]
      obtain ⟨h', a1, a2, a3⟩ := q3.px_emit (N := N) (k := 12) (a := 0) (b := 0) c3
      exact PX.mk_no a1 a2 a3
  · rw [if_neg h91, if_neg h91, Option.bind_some]
    obtain ⟨h1, e1, q1, c1⟩ := e7_advance (N := N) q htl
    have qx1 := qx.chg c1 (fun y i y1 y2 i1 i2 => by unfold m7; omega)
    by_cases h46 : C.1.K t = 46
    · rw [if_pos h46, if_neg (show ¬ C.1.K t = 20 by rw [h46]; decide)]
      unfold fX7_readBehind_40
      rw [e1, Option.bind_some]
      by_cases h22 : C.1.K (t + 1) ≠ 22
      · rw [if_pos h22]
        obtain ⟨v, h2, e2, q2, c2⟩ := e7_takeName_no (N := N) q1 h22
        have c12 : Chg (eA W) h h2 := (c1.trans c2).mono (fun a k z => m7_e z)
        rw [e2, Option.bind_some]
        dsimp only
        rw [if_pos rfl, g_46_9 q2.sg, Option.bind_some, q2.kind, if_neg (by decide)]
        obtain ⟨h', a1, a2, a3⟩ := q2.px_emit (N := N) (k := 9) (a := v) (b := 0) c12
        exact PX.mk_no a1 a2 a3
      · rw [if_neg h22]
        have h22 : C.1.K (t + 1) = 22 := Decidable.not_not.mp h22
        obtain ⟨h2, e2, q2, c2⟩ := e7_takeName (N := N) q1 h22
        have qx2 := qx1.chg c2 (fun y i y1 y2 i1 i2 => by unfold m7; omega)
        have c12 : Chg (xA W c) h h2 := (c1.trans c2).mono (fun a k z => m7_x z)
        have hm2 : C.1.P (t + 1) < C.1.P (t + 2) := C.1.mono (t + 1) (by rw [h22]; decide)
        rw [e2, Option.bind_some]
        dsimp only
        rw [if_pos rfl, g_46_9 q2.sg, Option.bind_some, q2.kind]
        by_cases h40 : C.1.K (t + 2) = 40
        · rw [if_pos h40, if_pos (show C.1.K (t + 1 + 1) = 40 from h40), guard46 q2.sg, Option.bind_some]
          have pq := args_run (s := x) hsub hA hJ hN (show J + 1 ≤ i by omega) q2 qx2 hW
          rcases hq : C.1.args r sub x (t + 2) with ⟨y, t'⟩ | w
          · obtain ⟨h3, e3, q3, x3, c3, hc3⟩ := pq.1 y t' hq
            obtain ⟨h4, e4, q4, x4, y4, c4⟩ := q3.more (N := N) x3 hc3 30 y.2 (t + 1)
            have hge : c ≤ c + cl y.1 := Nat.le_add_right _ _
            rw [Pr.bind_ok]
            refine PX.mk_ok (h' := h4) ?_ (by rw [cl_call, ← Nat.add_assoc]; exact q4) (CE_call x4 y4) ((c12.trans (c3.mono (fun a k z => xA_le (Nat.le_refl _) (by omega) z))).trans (c4.mono (fun a k z => xA_le (Nat.le_refl _) (by omega) z)))
            rw [e3, Option.bind_some]
            dsimp only
            rw [R_46_3 q3.sg, Option.bind_some]
            have ha : pa C 30 y.2 (t + 1) = C.2.1 (t + 1) := rfl
            have hb : pb C 30 y.2 (t + 1) = Int32.ofNat y.2 := rfl
            rw [ha, hb] at e4
            show (fX2_emit N 38 (Int32.ofNat 30) _ _ _).bind _ = _
            rw [e4, Option.bind_some]
          · obtain ⟨n, h3, e3, q3, c3⟩ := pq.2 w hq
            rw [Pr.bind_no, e3, Option.bind_some]
            dsimp only
            obtain ⟨h', a1, a2, a3⟩ := q3.px_emit (N := N) (k := 30) (a := C.2.1 (t + 1)) (b := n) ((c12.mono (fun a k z => xA_e z)).trans c3)
            exact PX.mk_no a1 a2 a3
        · rw [if_neg h40, if_neg (show ¬ C.1.K (t + 1 + 1) = 40 from h40)]
          obtain ⟨h5, e5, q5, x5, y5, c5⟩ := q2.more (N := N) qx2 (by show c + cl x + 1 ≤ C.1.P (t + 2); omega) 9 0 (t + 1)
          refine PX.mk_ok (h' := h5) ?_ (by rw [cl_un 0 (t + 1) x (by decide) (by decide), ← Nat.add_assoc]; exact q5) (CE_un (by decide) (by decide) x5 y5) (c12.trans (c5.mono (fun a k z => xA_le (Nat.le_refl _) (by omega) z)))
          rw [R_46_3 q2.sg, Option.bind_some]
          show (fX2_emit N 38 (Int32.ofNat 9) (pa C 9 0 (t + 1)) (pb C 9 0 (t + 1)) _).bind _ = _
          rw [e5, Option.bind_some]
    · have h20 : C.1.K t = 20 := (hk.resolve_left h46).resolve_left h91
      rw [if_neg h46, if_pos h20]
      unfold fX7_readBehind_40
      rw [e1, Option.bind_some]
      by_cases h22 : C.1.K (t + 1) ≠ 22
      · rw [if_pos h22]
        obtain ⟨v, h2, e2, q2, c2⟩ := e7_takeName_no (N := N) q1 h22
        have c12 : Chg (eA W) h h2 := (c1.trans c2).mono (fun a k z => m7_e z)
        rw [e2, Option.bind_some]
        dsimp only
        rw [if_neg (show ¬ (1 : Int32) = 0 by decide)]
        obtain ⟨h', a1, a2, a3⟩ := q2.px_emit (N := N) (k := 15) (a := v) (b := 0) c12
        exact PX.mk_no a1 a2 a3
      · rw [if_neg h22]
        have h22 : C.1.K (t + 1) = 22 := Decidable.not_not.mp h22
        obtain ⟨h2, e2, q2, c2⟩ := e7_takeName (N := N) q1 h22
        have qx2 := qx1.chg c2 (fun y i y1 y2 i1 i2 => by unfold m7; omega)
        have c12 : Chg (xA W c) h h2 := (c1.trans c2).mono (fun a k z => m7_x z)
        have hm2 : C.1.P (t + 1) < C.1.P (t + 2) := C.1.mono (t + 1) (by rw [h22]; decide)
        rw [e2, Option.bind_some]
        dsimp only
        rw [if_neg (show ¬ (1 : Int32) = 0 by decide)]
        obtain ⟨h5, e5, q5, x5, y5, c5⟩ := q2.more (N := N) qx2 (by show c + cl x + 1 ≤ C.1.P (t + 2); omega) 15 0 (t + 1)
        refine PX.mk_ok (h' := h5) ?_ (by rw [cl_un 0 (t + 1) x (by decide) (by decide), ← Nat.add_assoc]; exact q5) (CE_un (by decide) (by decide) x5 y5) (c12.trans (c5.mono (fun a k z => xA_le (Nat.le_refl _) (by omega) z)))
        rw [R_46_3 q2.sg, Option.bind_some]
        show (fX2_emit N 38 (Int32.ofNat 15) (pa C 15 0 (t + 1)) (pb C 15 0 (t + 1)) _).bind _ = _
        rw [e5, Option.bind_some]
/-- - and ! that wait -/
def UN (es : List En) : Prop := ∀ e, e ∈ es → (e.1 = 17 ∨ e.1 = 18) ∧ e.2 = (7, 0, nl)
def actAll : List En → Tr → Tr
  | [], x => x
  | e :: es, x => actAll es (act e x)
theorem UN.tail {e : En} {es : List En} (h : UN (e :: es)) : UN es := fun x hx => h x (List.mem_cons_of_mem _ hx)
theorem UN.head {e : En} {es : List En} (h : UN (e :: es)) : (e.1 = 17 ∨ e.1 = 18) ∧ e.2 = (7, 0, nl) := h e List.mem_cons_self
theorem UN.lw : ∀ {es : List En}, UN es → LW es = 0 ∧ WTl es = es.length ∧ ∀ x, relL 7 es x = ([], actAll es x)
  | [], _ => ⟨rfl, rfl, fun _ => rfl⟩
  | e :: es, h => by
    obtain ⟨h1, h2, h3⟩ := UN.lw h.tail
    obtain ⟨a, b⟩ := h.head
    refine ⟨?_, ?_, fun x => ?_⟩
    · rw [LW_cons, h1, b, if_neg (by omega)]; rfl
    · rw [WTl_cons, h2, b, if_neg (by omega)]; rfl
    · unfold relL
      rw [b, if_pos (Nat.le_refl _), h3]
      rfl
theorem act_un {k : Nat} (h : k = 17 ∨ k = 18) (x : Tr) : act (k, 7, 0, nl) x = eUn k 0 0 x := by
  unfold act
  rw [if_pos (Or.inr h)]
  rfl
/-- what the reading of a ONE comes to, where es waits above W -/
def PO (C : Cx) (q : Pr Tr) (es : List En) (r W c : Nat) (p o : Int32) (h : pH) (res : Option pH) : Prop := (∀ y t', q = ok y t' → ∃ h', res = some h' ∧ At7 C (r + es.length) t' W (c + cl (actAll es y)) p o h' ∧ CE (QC C p o h') (actAll es y) c ∧ Chg (xA W c) h h') ∧ (∀ w, q = no w → ∃ h' W', res = some h' ∧ W ≤ W' ∧ Er7 C w W' h' ∧ Chg (eA W) h h')
theorem PO.back {C : Cx} {q : Pr Tr} {es : List En} {r W c : Nat} {p o : Int32} {h0 h : pH} {res : Option pH} (a : PO C q es r W c p o h res) (g : Chg (xA W c) h0 h) : PO C q es r W c p o h0 res := ⟨fun y u z => by
  obtain ⟨h', a1, a2, a3, a4⟩ := a.1 y u z
  exact ⟨h', a1, a2, a3, g.trans a4⟩, fun w z => by
  obtain ⟨h', W', a1, a2, a4, a5⟩ := a.2 w z
  exact ⟨h', W', a1, a2, a4, (g.mono (fun a k z => xA_e z)).trans a5⟩⟩
theorem i_subk {a k : Nat} (h : k ≤ a) : Int32.ofNat a - Int32.ofNat k = Int32.ofNat (a - k) := by
  obtain ⟨d, rfl⟩ : ∃ d, a = k + d := ⟨a - k, by omega⟩
  rw [i_sub, show k + d - k = d by omega]
theorem one_102_ok {C : Cx} {N r t W c : Nat} {p o : Int32} {h : pH} {es : List En} {x : Tr} {rc : Nat → List Value → pH → Option (Option Value × pH)} (hN : 400 < N) (hu : UN es) (q : At7 C r t (W + es.length) (c + cl x) p o h) (qw : WRep C p o h W c es) (qx : CE (QC C p o h) x c) (hcap : c + WTl es + wt x ≤ C.1.P t) (hr : r + es.length ≤ 30) : PO C (ok x t) es r W c p o h (fX7_readOne_102 N rc 46 (Int32.ofNat W) h) := by
  refine ⟨fun y u z => ?_, fun w z => by cases z⟩
  obtain ⟨rfl, rfl⟩ := ok_inj z
  obtain ⟨u1, u2, u3⟩ := hu.lw
  have q1 := q.nest (r' := r + es.length) hr
  have c1 : Chg m7 h (wr h 46 10 (Int32.ofNat (30 - (r + es.length)))) := Chg.wr _ _ _ _ ⟨rfl, by omega⟩
  have q1' : At7 C (r + es.length) t (W + es.length) (c + LW es + cl x) p o (wr h 46 10 (Int32.ofNat (30 - (r + es.length)))) := by rw [u1]; exact q1
  have hx : CE (QC C p o (wr h 46 10 (Int32.ofNat (30 - (r + es.length))))) x (c + LW es) := by rw [u1]; exact qx.chg c1 (fun y i y1 y2 i1 i2 => by unfold m7; omega)
  obtain ⟨h', e, a1, a2, a3, a4, a5⟩ := At7.release (N := N) (ls := 7) hN (by omega) q1' (qw.chg c1 (fun y i y1 y2 i1 i2 => by unfold m7; omega) (fun y i y1 y2 i1 i2 => by unfold m7; omega)) hx hcap
  rw [u3] at a1 a2 a3
  refine ⟨h', ?_, a1, a3, (c1.mono (fun a k z => m7_x z)).trans a5⟩
  unfold fX7_readOne_102
  have hr2 : r ≤ 30 := by omega
  rw [g_46_10 q.sg, Option.bind_some, g_46_7 q.sg, Option.bind_some, q.nestv, q.f7, i_sub, i_subk (by omega), show 30 - r - es.length = 30 - (r + es.length) by omega, p_46_10 q.sg, Option.bind_some]
  show (fX7_release N 46 (Int32.ofNat W) (Int32.ofNat 7) _).bind _ = _
  rw [e, Option.bind_some]
theorem chn_run {C : Cx} {N J j r W c : Nat} {p o : Int32} {sub : Nat → Pr Tr} {es : List En} (hP : C.1.Cap sub) (hsub : ∀ r', r = r' + 1 → RX C N J 76 sub r' (7 * (30 - r'))) (hA : C.1.Adv sub) (hJ : 3 ≤ J) (hN : 3200 < N) (hj : J + 2 ≤ j) (hu : UN es) (hr : r + es.length ≤ 30) (hW : W + es.length ≤ 7 * (30 - r) + 7) : ∀ (f n g : Nat) (x : Tr) (t : Nat) (h : pH), C.1.E ≤ t + f → C.2.2 < t + n → g ≤ t → At7 C r t (W + es.length) (c + cl x) p o h → WRep C p o h W c es → CE (QC C p o h) x c → c + WTl es + wt x ≤ C.1.P t → PO C (C.1.chn r sub f x t) es r W c p o h (fX7_readOne_75 N (gX7_readSign N j) n 46 (Int32.ofNat W) (Int32.ofNat g) h)
  | f, n, g, x, t, h, hf, hn, hg, q, qw, qx, hcap => by
    have hE := q.le_E
    have hC := q.1.2.1
    have ht := q.2.1
    obtain ⟨u1, u2, u3⟩ := hu.lw
    obtain ⟨n', rfl⟩ : ∃ n', n = n' + 1 := ⟨n - 1, by omega⟩
    rw [fX7_readOne_75, show (3100 : Int32) = Int32.ofNat 3100 from rfl, ifLe (by decide) (by omega), if_neg (by omega), g_46_9 q.sg, Option.bind_some, q.kind, e7_isBehind, Option.bind_some]
    dsimp only
    by_cases hk : C.1.K t = 46 ∨ C.1.K t = 91 ∨ C.1.K t = 20
    · rw [if_pos hk, if_neg (show ¬ (1 : Int32) = 0 by decide), guard46 q.sg, Option.bind_some]
      have hk0 : C.1.K t ≠ 0 := fun z => by rw [z] at hk; revert hk; decide
      have htE := Tks.lt_of hk0
      have htl := q.1.lt q.2.1 hk0 (fun z => by rw [z] at hk; revert hk; decide)
      obtain ⟨f', rfl⟩ : ∃ f', f = f' + 1 := ⟨f - 1, by omega⟩
      rw [Tks.chn_succ, if_pos hk]
      have pq := behind_run hP hsub hA hJ hN hj q qx hk hW
      rcases hq : C.1.beh r sub x t with ⟨y, t'⟩ | w
      · obtain ⟨h3, e3, q3, x3, c3⟩ := pq.1 y t' hq
        have hadv := Tks.beh_adv hA r hq hk
        rw [e3, Option.bind_some, Pr.bind_ok, i_add1]
        have hcb : wt y + C.1.P t ≤ wt x + C.1.P t' := by
          have h0 := Tks.chn_succ C.1 r sub 0 x t
          rw [if_pos hk, hq, Pr.bind_ok] at h0
          exact Tks.chn_cap hP r 1 x t y t' h0
        refine PO.back (chn_run hP hsub hA hJ hN hj hu hr hW f' n' (g + 1) y t' h3 (by omega) (by omega) (by omega) q3 (qw.chg c3 (fun y i y1 y2 i1 i2 => by omega) (fun y i y1 y2 i1 i2 => by unfold xA; omega)) x3 (by omega)) (c3.mono (fun a k z => xA_le (by omega) (Nat.le_refl _) z))
      · obtain ⟨h3, e3, q3, c3⟩ := pq.2 w hq
        rw [e3, Option.bind_some, Pr.bind_no, i_add1]
        obtain ⟨n'', rfl⟩ : ∃ n'', n' = n'' + 1 := ⟨n' - 1, by omega⟩
        obtain ⟨h', W', e', b1, b2, b3, b4⟩ := one_75 (N := N) (n := n'') (v := Int32.ofNat (g + 1)) (B := W) (rc := gX7_readSign N j) (by omega) (by omega) q3
        refine ⟨fun y u z => (by cases z), fun w z => ?_⟩
        obtain rfl := Sum.inr.inj z
        exact ⟨h', W', e', b1, b3, (c3.mono (fun a k z => eA_le (by omega) z)).trans b4⟩
    · rw [if_neg hk, if_pos rfl]
      have e : C.1.chn r sub f x t = ok x t := by
        cases f with
        | zero => rfl
        | succ f => rw [Tks.chn_succ, if_neg hk]
      rw [e]
      exact one_102_ok (by omega) hu q qw qx hcap hr
theorem chain_run7 {C : Cx} {N J j r t W c : Nat} {p o : Int32} {h : pH} {sub : Nat → Pr Tr} {es : List En} (hP : C.1.Cap sub) (hsub : ∀ r', r = r' + 1 → RX C N J 76 sub r' (7 * (30 - r'))) (hA : C.1.Adv sub) (hJ : 3 ≤ J) (hN : 3200 < N) (hj : J + 3 ≤ j) (hu : UN es) (hr : r + es.length ≤ 30) (hW : W + es.length ≤ 7 * (30 - r) + 7) (q : At7 C r t (W + es.length) c p o h) (qw : WRep C p o h W c es) (hcap : c + WTl es ≤ C.1.P t) : PO C (C.1.chain r sub t) es r W c p o h (fX7_readOne_69 N (gX7_readSign N j) 46 (Int32.ofNat W) h) := by
  unfold fX7_readOne_69 Tks.chain
  obtain ⟨u1, u2, u3⟩ := hu.lw
  have hE := q.le_E
  have hC := q.1.2.1
  rw [guard46 q.sg, Option.bind_some]
  have pq := first_run7 hP hsub hA hJ hN j hj t (W + es.length) c p o h q hW
  rcases hq : C.1.first r sub t with ⟨x, t'⟩ | w
  · obtain ⟨h3, e3, q3, x3, c3⟩ := pq.1 x t' hq
    rw [e3, Option.bind_some, Pr.bind_ok]
    have hc := Tks.first_cap hP r t x t' hq
    exact PO.back (chn_run hP hsub hA hJ hN (by omega) hu hr hW (C.1.E - t') N 0 x t' h3 (by omega) (by omega) (by omega) q3 (qw.chg c3 (fun y i y1 y2 i1 i2 => by omega) (fun y i y1 y2 i1 i2 => by unfold xA; omega)) x3 (by omega)) (c3.mono (fun a k z => xA_le (by omega) (Nat.le_refl _) z))
  · obtain ⟨h3, e3, q3, c3⟩ := pq.2 w hq
    rw [e3, Option.bind_some, Pr.bind_no]
    obtain ⟨n, hn⟩ : ∃ n, N = n + 1 := ⟨N - 1, by omega⟩
    obtain ⟨h', W', e', b1, b2, b3, b4⟩ := one_75 (N := N) (n := n) (v := 0) (B := W) (rc := gX7_readSign N j) (by omega) (by omega) q3
    rw [← hn] at e'
    refine ⟨fun y u z => (by cases z), fun w z => ?_⟩
    obtain rfl := Sum.inr.inj z
    exact ⟨h', W', e', b1, b3, (c3.mono (fun a k z => eA_le (by omega) z)).trans b4⟩
