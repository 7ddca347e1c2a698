/-! ===== RELEASE: the signs that waited become code ===== -/
theorem i_sub1 (a : Nat) : Int32.ofNat (a + 1) - 1 = Int32.ofNat a := by rw [← i_add1, Int32.add_sub_cancel]
theorem rel_pop {N n W B ls l : Nat} {h : pH} (hs : Sg h) (hW : W < 400) (hB : B ≤ W) (hl7 : l ≤ 7) (hls7 : ls ≤ 7) (e7 : rd h 46 7 = Int32.ofNat (W + 1)) (hl : rd h 48 W = Int32.ofNat l) (hll : ls ≤ l) : fX7_release_0 N (n + 1) 46 (Int32.ofNat B) (Int32.ofNat ls) h = if rd h 47 W = 28 then fX7_release_66 N (fX7_release_0 N n) 46 (Int32.ofNat B) (Int32.ofNat ls) (rd h 49 W) (wr h 46 7 (Int32.ofNat W)) else if rd h 47 W = 29 then fX7_release_66 N (fX7_release_0 N n) 46 (Int32.ofNat B) (Int32.ofNat ls) (rd h 49 W) (wr h 46 7 (Int32.ofNat W)) else (fX2_emit N 38 (rd h 47 W) (rd h 49 W) 0 (wr h 46 7 (Int32.ofNat W))).bind fun q => fX7_release_0 N n 46 (Int32.ofNat B) (Int32.ofNat ls) q.2 := by
  have s1 := hs.wr 46 7 (Int32.ofNat W)
  rw [fX7_release_0, g_46_7 hs, Option.bind_some, e7, ifLe (by omega) (by omega), if_neg (by omega), R_46_5 hs, Option.bind_some, Option.bind_some, i_sub1, L_48 hs hW, Option.bind_some, hl, ifLt (by omega) (by omega), if_neg (by omega), Option.bind_some, i_sub1, p_46_7 hs, Option.bind_some, R_46_4 s1, Option.bind_some, g_46_7 s1, Option.bind_some, w_46_7 hs, L_47 s1 hW, Option.bind_some, R_46_6 s1, Option.bind_some, Option.bind_some, L_49 s1 hW, Option.bind_some, rd_wr_ne _ _ (by omega), rd_wr_ne _ _ (by omega), R_46_3 s1, Option.bind_some]
  rfl
theorem rel_66 {N W B ls m i : Nat} {h h1 : pH} {k0 : Nat → Int32 → Int32 → pH → Option pH} (hs : Sg h) (hs1 : Sg h1) (hm : m < 3100) (e : fX2_emit N 38 51 0 0 h = some (Int32.ofNat i, h1)) : fX7_release_66 N k0 46 (Int32.ofNat B) (Int32.ofNat ls) (Int32.ofNat m) h = k0 46 (Int32.ofNat B) (Int32.ofNat ls) (wr h1 42 m (Int32.ofNat i)) := by
  unfold fX7_release_66
  rw [R_46_3 hs, Option.bind_some, R_38_3 hs, Option.bind_some, Option.bind_some, e, Option.bind_some, T_42 hs1 hm, Option.bind_some]
  rfl
theorem rel_end {N n W B : Nat} {ls : Int32} {h : pH} (hs : Sg h) (hW : W ≤ 400) (hB : W ≤ B) (hB2 : B ≤ 400) (e7 : rd h 46 7 = Int32.ofNat W) : fX7_release_0 N (n + 1) 46 (Int32.ofNat B) ls h = some h := by
  rw [fX7_release_0, g_46_7 hs, Option.bind_some, e7, ifLe (by omega) (by omega), if_pos hB]
theorem rel_low {N n W B ls l : Nat} {h : pH} (hs : Sg h) (hW : W < 400) (hB : B ≤ W) (hl7 : l ≤ 7) (hls7 : ls ≤ 7) (e7 : rd h 46 7 = Int32.ofNat (W + 1)) (hl : rd h 48 W = Int32.ofNat l) (hll : l < ls) : fX7_release_0 N (n + 1) 46 (Int32.ofNat B) (Int32.ofNat ls) h = some h := by
  rw [fX7_release_0, g_46_7 hs, Option.bind_some, e7, ifLe (by omega) (by omega), if_neg (by omega), R_46_5 hs, Option.bind_some, Option.bind_some, i_sub1, L_48 hs hW, Option.bind_some, hl, ifLt (by omega) (by omega), if_pos hll]
theorem Er7.step {N n w W B ls l : Nat} {C : Cx} {h : pH} (q : Er7 C w (W + 1) h) (hB : B ≤ W) (hl7 : l ≤ 7) (hls7 : ls ≤ 7) (hl : rd h 48 W = Int32.ofNat l) (hll : ls ≤ l) : ∃ h', fX7_release_0 N (n + 1) 46 (Int32.ofNat B) (Int32.ofNat ls) h = fX7_release_0 N n 46 (Int32.ofNat B) (Int32.ofNat ls) h' ∧ Er7 C w W h' ∧ Chg (eA W) h h' := by
  have hW := q.2.1
  have q1 := q.pop
  have c1 : Chg (eA W) h (wr h 46 7 (Int32.ofNat W)) := Chg.wr _ _ _ _ (Or.inl ⟨rfl, Nat.le_refl _⟩)
  have e := rel_pop (N := N) (n := n) (ls := ls) q.sg (by omega) hB hl7 hls7 q.2.2.2.2.2.2.1 hl hll
  obtain ⟨l', x1, x2, x3⟩ := q.2.2.2.2.2.2.2.2 W (by omega)
  by_cases hk : rd h 47 W = 28 ∨ rd h 47 W = 29
  · obtain ⟨m, m1, m2⟩ := x3 hk
    obtain ⟨i, h1, i1, i2, i3, i4, i5⟩ := q1.emit (N := N) 51 0 0
    have e2 := rel_66 (B := B) (ls := ls) (k0 := fX7_release_0 N n) (W := W) q1.sg i3.sg m1 i2
    have g : Chg (fun a k => a = 42 ∧ k = m) h1 (wr h1 42 m (Int32.ofNat i)) := Chg.wr _ _ _ _ ⟨rfl, rfl⟩
    refine ⟨wr h1 42 m (Int32.ofNat i), ?_, i3.of g (fun a k ha => by omega) (fun k hk => by omega) (by omega) (fun a i a1 a2 a3 => by omega), (c1.trans i4).trans (g.mono (fun a k z => by unfold eA; omega))⟩
    rw [e, m2, e2]
    rcases hk with z | z
    · rw [if_pos z]
    · rw [z, if_neg (by decide), if_pos rfl]
  · obtain ⟨i, h1, i1, i2, i3, i4, i5⟩ := q1.emit (N := N) (rd h 47 W) (rd h 49 W) 0
    refine ⟨h1, ?_, i3, c1.trans i4⟩
    rw [e, if_neg (fun z => hk (Or.inl z)), if_neg (fun z => hk (Or.inr z)), i2, Option.bind_some]
theorem Er7.release_0 {N w B ls : Nat} {C : Cx} (hls7 : ls ≤ 7) : ∀ (k n : Nat) (h : pH), k < n → Er7 C w (B + k) h → ∃ h' W', fX7_release_0 N n 46 (Int32.ofNat B) (Int32.ofNat ls) h = some h' ∧ B ≤ W' ∧ W' ≤ B + k ∧ (ls = 0 → W' = B) ∧ Er7 C w W' h' ∧ Chg (eA B) h h'
  | 0, n, h, hn, q => by
    obtain ⟨m, rfl⟩ : ∃ m, n = m + 1 := ⟨n - 1, by omega⟩
    have := q.2.1
    exact ⟨h, B, rel_end q.sg this (by omega) (by omega) q.2.2.2.2.2.2.1, Nat.le_refl _, by omega, fun _ => rfl, q, Chg.refl _ _⟩
  | k + 1, n, h, hn, q => by
    obtain ⟨m, rfl⟩ : ∃ m, n = m + 1 := ⟨n - 1, by omega⟩
    obtain ⟨l, x1, x2, x3⟩ := q.2.2.2.2.2.2.2.2 (B + k) (by omega)
    have hW := q.2.1
    rcases Nat.lt_or_ge l ls with z | z
    · exact ⟨h, B + (k + 1), rel_low (W := B + k) q.sg (by omega) (by omega) x1 hls7 q.2.2.2.2.2.2.1 x2 z, by omega, by omega, fun y => by omega, q, Chg.refl _ _⟩
    · obtain ⟨h1, e1, q1, c1⟩ := Er7.step (N := N) (n := m) (B := B) (W := B + k) q (by omega) x1 hls7 x2 z
      obtain ⟨h2, W', e2, b1, b2, b3, q2, c2⟩ := Er7.release_0 hls7 k m h1 (by omega) q1
      exact ⟨h2, W', by rw [e1, e2], b1, by omega, b3, q2, (c1.mono (fun a k z => eA_le (by omega) z)).trans c2⟩
theorem Er7.release {N w W B ls : Nat} {C : Cx} {h : pH} (hN : 400 < N) (hls7 : ls ≤ 7) (hB : B ≤ W) (q : Er7 C w W h) : ∃ h' W', fX7_release N 46 (Int32.ofNat B) (Int32.ofNat ls) h = some h' ∧ B ≤ W' ∧ W' ≤ W ∧ (ls = 0 → W' = B) ∧ Er7 C w W' h' ∧ Chg (eA B) h h' := by
  have hW := q.2.1
  obtain ⟨k, rfl⟩ : ∃ k, W = B + k := ⟨W - B, by omega⟩
  obtain ⟨h2, W', e2, b1, b2, b3, q2, c2⟩ := Er7.release_0 (N := N) (ls := ls) hls7 k N h (by omega) q
  refine ⟨h2, W', ?_, b1, b2, b3, q2, c2⟩
  unfold fX7_release
  rw [if_pos (o_46 q.sg), e2]
theorem pa_bin (C : Cx) {k : Nat} (h1 : k = 28 ∨ k = 29 ∨ (19 ≤ k ∧ k ≤ 27) ∨ (17 ≤ k ∧ k ≤ 18)) (v w : Nat) : pa C k v w = 0 ∧ pb C k v w = 0 := by
  unfold pa pb
  rw [if_neg (by omega), if_neg (by omega), if_neg (by omega), if_neg (by omega), if_neg (by omega), if_neg (by omega)]
  exact ⟨rfl, rfl⟩
theorem LW_cons (e : En) (es : List En) : LW (e :: es) = LW es + cl e.2.2.2 + (if e.1 = 28 ∨ e.1 = 29 then 1 else 0) := rfl
theorem WTl_cons (e : En) (es : List En) : WTl (e :: es) = WTl es + wt e.2.2.2 + (if e.1 = 28 ∨ e.1 = 29 then 2 else 1) := rfl
/-- what one released sign changes -/
def rlA (c' m : Nat) : Nat → Nat → Prop := fun a k => (a = 46 ∧ k = 7) ∨ emA c' a k ∨ (a = 42 ∧ k = m)
theorem At7.step {N n r t W c ls : Nat} {p o : Int32} {C : Cx} {h : pH} {e : En} {es : List En} {x : Tr} (q : At7 C r t (W + es.length + 1) (c + LW (e :: es) + cl x) p o h) (qw : WRep C p o h W c (e :: es)) (qx : CE (QC C p o h) x (c + LW (e :: es))) (hcap : c + WTl (e :: es) + wt x ≤ C.1.P t) (hls : ls ≤ e.2.1) : ∃ h', fX7_release_0 N (n + 1) 46 (Int32.ofNat W) (Int32.ofNat ls) h = fX7_release_0 N n 46 (Int32.ofNat W) (Int32.ofNat ls) h' ∧ At7 C r t (W + es.length) (c + LW es + cl (act e x)) p o h' ∧ WRep C p o h' W c es ∧ CE (QC C p o h') (act e x) (c + LW es) ∧ Chg (xA W c) h h' := by
  obtain ⟨qf, q47, q48, q49, qL, qA, qw⟩ := qw
  have hW := q.2.2.2.1
  have hx := cl_le_wt x
  have hL := cl_le_wt e.2.2.2
  have hLW := LW_le es
  have hacl := act_cl e x qf
  have hP := q.1.2.2.1 t
  rw [LW_cons] at q qx
  rw [WTl_cons] at hcap
  have q1 := q.pop
  have hs1 := q1.sg
  have c1 : Chg (fun a k => a = 46 ∧ k = 7) h (wr h 46 7 (Int32.ofNat (W + es.length))) := Chg.wr _ _ _ _ ⟨rfl, rfl⟩
  have ep := rel_pop (N := N) (n := n) (ls := ls) (B := W) q.sg (by omega) (by omega) qf.2.1 (by have := qf.2.1; omega) q.2.2.2.2.2.1 q48 hls
  rw [q47, q49] at ep
  by_cases hk : e.1 = 28 ∨ e.1 = 29
  · rw [if_pos hk] at q qx hcap hacl
    have hnk : ¬ (e.1 = 16 ∨ e.1 = 17 ∨ e.1 = 18) := by omega
    have hm : enM C c e es = Int32.ofNat (c + LW es + cl e.2.2.2) := by unfold enM; rw [if_pos hk]
    rw [hm] at ep
    rw [if_pos hk] at q1
    obtain ⟨m1, m2, m3⟩ := q1.emit (N := N) 51 0 0 (by omega)
    have e66 := rel_66 (W := W) (B := W) (ls := ls) (k0 := fX7_release_0 N n) hs1 m2.sg (m := c + LW es + cl e.2.2.2) (by omega) m1
    have g2 := emH_chg (wr h 46 7 (Int32.ofNat (W + es.length))) (c + (LW es + cl e.2.2.2 + 1) + cl x) 51 0 0
    have g3 : Chg (fun a k => a = 42 ∧ k = c + LW es + cl e.2.2.2) (emH (wr h 46 7 (Int32.ofNat (W + es.length))) (c + (LW es + cl e.2.2.2 + 1) + cl x) 51 0 0) (wr (emH (wr h 46 7 (Int32.ofNat (W + es.length))) (c + (LW es + cl e.2.2.2 + 1) + cl x) 51 0 0) 42 (c + LW es + cl e.2.2.2) (Int32.ofNat (c + (LW es + cl e.2.2.2 + 1) + cl x))) := Chg.wr _ _ _ _ ⟨rfl, rfl⟩
    have g : Chg (rlA (c + (LW es + cl e.2.2.2 + 1) + cl x) (c + LW es + cl e.2.2.2)) h (wr (emH (wr h 46 7 (Int32.ofNat (W + es.length))) (c + (LW es + cl e.2.2.2 + 1) + cl x) 51 0 0) 42 (c + LW es + cl e.2.2.2) (Int32.ofNat (c + (LW es + cl e.2.2.2 + 1) + cl x))) := ((c1.mono (fun a k z => Or.inl z)).trans (g2.mono (fun a k z => Or.inr (Or.inl z)))).trans (g3.mono (fun a k z => Or.inr (Or.inr z)))
    refine ⟨_, ?_, ?_, qw.chg g ?_ ?_, ?_, g.mono ?_⟩
    · rw [ep, e66]
      rcases hk with z | z
      · rw [z, if_pos (show Int32.ofNat 28 = 28 from rfl)]
      · rw [z, if_neg (by decide), if_pos (show Int32.ofNat 29 = 29 from rfl)]
    · have := m2.of g3 (fun a k ha => by omega) (fun k hk => by omega) (fun k hk => by omega) (fun a i a1 a2 a3 => by omega)
      rw [show c + LW es + cl (act e x) = c + (LW es + cl e.2.2.2 + 1) + cl x + 1 by omega]
      exact this
    · intro y i y1 y2 i1 i2
      unfold rlA emA
      omega
    · intro y i y1 y2 i1 i2
      unfold rlA emA
      omega
    · unfold act
      rw [if_neg hnk, CE_nd, if_pos hk]
      refine ⟨qL.chg g (fun y i y1 y2 i1 i2 => by unfold rlA emA; omega), ?_, ?_, ?_⟩
      · obtain ⟨u1, u2, u3, u4, u5, u6⟩ := (qA hk).chg ((c1.mono (fun a k z => Or.inl z)).trans (g2.mono (fun a k (z : emA (c + (LW es + cl e.2.2.2 + 1) + cl x) a k) => (Or.inr z : (a = 46 ∧ k = 7) ∨ emA (c + (LW es + cl e.2.2.2 + 1) + cl x) a k)))) (fun y y1 y2 => by unfold emA; omega)
        obtain ⟨pa1, pb1⟩ := pa_bin C (k := e.1) (by omega) 0 0
        show PcAt _ _ _ (pa C e.1 0 0) (pb C e.1 0 0) _ _ _
        rw [pa1, pb1]
        refine ⟨?_, ?_, ?_, ?_, ?_, ?_⟩
        · rw [rd_wr_ne _ _ (by omega)]; exact u1
        · rw [rd_wr_ne _ _ (by omega)]; exact u2
        · rw [rd_wr_ne _ _ (by omega)]; exact u3
        · rw [W_42 m2.sg]
          congr 1
          omega
        · rw [rd_wr_ne _ _ (by omega)]; exact u5
        · rw [rd_wr_ne _ _ (by omega)]; exact u6
      · have := qx.chg g (fun y i y1 y2 i1 i2 => by unfold rlA emA; omega)
        rw [show c + LW es + cl e.2.2.2 + 1 = c + (LW es + cl e.2.2.2 + 1) by omega]
        exact this
      · have := m3.chg g3 (fun y y1 y2 => by omega)
        rw [show c + LW es + cl e.2.2.2 + 1 + cl x = c + (LW es + cl e.2.2.2 + 1) + cl x by omega]
        exact this
    · intro a k z
      unfold rlA emA at z
      unfold xA
      omega
  · rw [if_neg hk] at q qx hcap hacl
    rw [if_neg hk, Nat.add_zero] at q1
    rw [Nat.add_zero] at qx
    obtain ⟨m1, m2, m3⟩ := q1.emit (N := N) (Int32.ofNat e.1) (enM C c e es) 0 (by omega)
    have g2 := emH_chg (wr h 46 7 (Int32.ofNat (W + es.length))) (c + (LW es + cl e.2.2.2) + cl x) (Int32.ofNat e.1) (enM C c e es) 0
    have g : Chg (fun a k => (a = 46 ∧ k = 7) ∨ emA (c + (LW es + cl e.2.2.2) + cl x) a k) h (emH (wr h 46 7 (Int32.ofNat (W + es.length))) (c + (LW es + cl e.2.2.2) + cl x) (Int32.ofNat e.1) (enM C c e es) 0) := (c1.mono (fun a k z => Or.inl z)).trans (g2.mono (fun a k z => Or.inr z))
    refine ⟨_, ?_, ?_, qw.chg g ?_ ?_, ?_, g.mono ?_⟩
    · have hb := qf.1
      rw [ep, show (28 : Int32) = Int32.ofNat 28 from rfl, ifEq (by omega) (by decide), if_neg (fun z => hk (Or.inl z)), show (29 : Int32) = Int32.ofNat 29 from rfl, ifEq (by omega) (by decide), if_neg (fun z => hk (Or.inr z)), m1, Option.bind_some]
    · rw [show c + LW es + cl (act e x) = c + (LW es + cl e.2.2.2) + cl x + 1 by omega]
      exact m2
    · intro y i y1 y2 i1 i2
      unfold emA
      omega
    · intro y i y1 y2 i1 i2
      unfold emA
      omega
    · unfold act
      by_cases hu : e.1 = 16 ∨ e.1 = 17 ∨ e.1 = 18
      · obtain ⟨f1, f2⟩ := qf.2.2.1 hu
        rw [f1, cl_nl] at qx m3
        rw [if_pos hu, CE_nd, if_neg (by omega), if_neg (by omega)]
        refine ⟨?_, CE_nl _ _, ?_⟩
        · have := qx.chg g (fun y i y1 y2 i1 i2 => by rw [f1, cl_nl]; unfold emA; omega)
          rw [Nat.add_zero] at this
          exact this
        · rw [cl_nl]
          have hv : pa C e.1 0 e.2.2.1 = enM C c e es ∧ pb C e.1 0 e.2.2.1 = 0 := by
            by_cases h16 : e.1 = 16
            · unfold pa pb enM
              rw [if_pos (by omega), if_neg hk, if_pos h16, if_neg (by omega), if_neg (by omega), if_neg (by omega)]
              exact ⟨rfl, rfl⟩
            · obtain ⟨z1, z2⟩ := pa_bin C (k := e.1) (by omega) 0 e.2.2.1
              refine ⟨?_, z2⟩
              unfold enM
              rw [z1, if_neg hk, if_neg h16]
          show PcAt _ _ _ (pa C e.1 0 e.2.2.1) (pb C e.1 0 e.2.2.1) _ _ _
          rw [hv.1, hv.2, show c + LW es + cl x + 0 = c + (LW es + 0) + cl x by omega]
          rw [f1, cl_nl]
          exact m3
      · rw [if_neg hu, CE_nd, if_neg hk, if_neg (by have := qf.1; omega)]
        obtain ⟨z1, z2⟩ := pa_bin C (k := e.1) (by have := qf.2.2.2; omega) 0 0
        refine ⟨qL.chg g (fun y i y1 y2 i1 i2 => by unfold emA; omega), ?_, ?_⟩
        · have := qx.chg g (fun y i y1 y2 i1 i2 => by unfold emA; omega)
          rw [show c + LW es + cl e.2.2.2 = c + (LW es + cl e.2.2.2) by omega]
          exact this
        · show PcAt _ _ _ (pa C e.1 0 0) (pb C e.1 0 0) _ _ _
          have hv : enM C c e es = 0 := by
            unfold enM
            rw [if_neg hk, if_neg (by omega)]
          rw [z1, z2, show c + LW es + cl e.2.2.2 + cl x = c + (LW es + cl e.2.2.2) + cl x by omega]
          rw [hv] at m3 ⊢
          exact m3
    · intro a k z
      unfold emA at z
      unfold xA
      omega
theorem At7.release_0 {N r t W c ls : Nat} {p o : Int32} {C : Cx} (hls7 : ls ≤ 7) : ∀ (es : List En) (x : Tr) (n : Nat) (h : pH), es.length < n → At7 C r t (W + es.length) (c + LW es + cl x) p o h → WRep C p o h W c es → CE (QC C p o h) x (c + LW es) → c + WTl es + wt x ≤ C.1.P t →
    ∃ h', fX7_release_0 N n 46 (Int32.ofNat W) (Int32.ofNat ls) h = some h' ∧ At7 C r t (W + (relL ls es x).1.length) (c + LW (relL ls es x).1 + cl (relL ls es x).2) p o h' ∧ WRep C p o h' W c (relL ls es x).1 ∧ CE (QC C p o h') (relL ls es x).2 (c + LW (relL ls es x).1) ∧ c + WTl (relL ls es x).1 + wt (relL ls es x).2 ≤ C.1.P t ∧ Chg (xA W c) h h'
  | [], x, n, h, hn, q, qw, qx, hcap => by
    obtain ⟨m, rfl⟩ : ∃ m, n = m + 1 := ⟨n - 1, by omega⟩
    have hW := q.2.2.2.1
    exact ⟨h, rel_end q.sg (by omega) (Nat.le_refl _) (by have : ([] : List En).length = 0 := rfl; omega) q.2.2.2.2.2.1, q, trivial, qx, hcap, Chg.refl _ _⟩
  | e :: es, x, n, h, hn, q, qw, qx, hcap => by
    obtain ⟨m, rfl⟩ : ∃ m, n = m + 1 := ⟨n - 1, by omega⟩
    have hlen : (e :: es).length = es.length + 1 := rfl
    rw [hlen] at hn q
    have hW := q.2.2.2.1
    unfold relL
    by_cases hl : ls ≤ e.2.1
    · rw [if_pos hl]
      obtain ⟨h1, e1, q1, qw1, qx1, c1⟩ := At7.step (N := N) (n := m) (ls := ls) (e := e) (es := es) q qw qx hcap hl
      have hw := act_wt e x qw.1
      rw [WTl_cons] at hcap
      obtain ⟨h2, e2, q2, qw2, qx2, hc2, c2⟩ := At7.release_0 hls7 es (act e x) m h1 (by omega) q1 qw1 qx1 (by omega)
      exact ⟨h2, by rw [e1, e2], q2, qw2, qx2, hc2, c1.trans c2⟩
    · rw [if_neg hl]
      refine ⟨h, rel_low (W := W + es.length) q.sg (by omega) (by omega) qw.1.2.1 hls7 q.2.2.2.2.2.1 qw.2.2.1 (by omega), q, qw, qx, hcap, Chg.refl _ _⟩
theorem At7.release {N r t W c ls : Nat} {p o : Int32} {C : Cx} {es : List En} {x : Tr} {h : pH} (hN : 400 < N) (hls7 : ls ≤ 7) (q : At7 C r t (W + es.length) (c + LW es + cl x) p o h) (qw : WRep C p o h W c es) (qx : CE (QC C p o h) x (c + LW es)) (hcap : c + WTl es + wt x ≤ C.1.P t) :
    ∃ h', fX7_release N 46 (Int32.ofNat W) (Int32.ofNat ls) h = some h' ∧ At7 C r t (W + (relL ls es x).1.length) (c + LW (relL ls es x).1 + cl (relL ls es x).2) p o h' ∧ WRep C p o h' W c (relL ls es x).1 ∧ CE (QC C p o h') (relL ls es x).2 (c + LW (relL ls es x).1) ∧ c + WTl (relL ls es x).1 + wt (relL ls es x).2 ≤ C.1.P t ∧ Chg (xA W c) h h' := by
  have hW := q.2.2.2.1
  obtain ⟨h', e, z⟩ := At7.release_0 (N := N) (ls := ls) hls7 es x N h (by omega) q qw qx hcap
  refine ⟨h', ?_, z⟩
  unfold fX7_release
  rw [if_pos (o_46 q.sg), e]
