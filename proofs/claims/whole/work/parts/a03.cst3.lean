/-! ===== THE CLASS' READER: calls and gifts; blocks where all has gone wrong ===== -/
theorem gift_72 {C : Cx} {N w W : Nat} {v2 : Int32} {h : pH} (q : Er7 C w W h) : fX7_readCallOrGift_72 N 46 v2 h = some h := by
  unfold fX7_readCallOrGift_72 fX7_readCallOrGift_102 fX7_readCallOrGift_106
  rw [g_46_9 q.sg, Option.bind_some, q.kind, if_neg (by decide), q.fail, Option.bind_some]
  exact q.semi
theorem gift_err {C : Cx} {N w W c : Nat} {h0 h : pH} (hc : c ≤ 3100) (q : Er7 C w W h) (g : Chg (eA W) h0 h) : ∃ h', ((getR h 46 7 3).bind fun t12 => (fX2_lastOp N t12 (Int32.ofNat c) h).bind fun q13 => (fX7_giftOf N q13.1 q13.2).bind fun q14 => (getI q14.2 46 7 9).bind fun t15 => if t15 = 61 then (if q14.1 = (-1 : Int32) then fX7_readCallOrGift_72 N 46 q13.1 q14.2 else (getR q14.2 46 7 3).bind fun t18 => (fX2_takeBackLast N t18 q14.2).bind fun q19 => (fX7_advance N 46 q19.2).bind fun h20 => (if isO h20 46 7 = true then some () else none).bind fun _ => (rcV (gX7_readSign N 600) 76 [.ref 46] h20).bind fun h21 => (getR h21 46 7 3).bind fun t23 => (fX2_emit N t23 q14.1 q19.1 0 h21).bind fun q24 => fX7_readCallOrGift_106 N 46 q24.2) else fX7_readCallOrGift_72 N 46 q13.1 q14.2) = some h' ∧ Er7 C w W h' ∧ Chg (eA W) h0 h' := by
  refine ⟨h, ?_, q, g⟩
  obtain ⟨n, n1, n2⟩ := q.2.2.2.2.2.2.2.1
  obtain ⟨v, e1⟩ : ∃ v, fX2_lastOp N 38 (Int32.ofNat c) h = some (v, h) := by
    rcases Nat.lt_or_ge c n with z | z
    · exact ⟨_, e2_lastOp q.sg n2 z n1⟩
    · refine ⟨-1, ?_⟩
      unfold fX2_lastOp
      rw [if_pos (o_38 q.sg), g_38_7 q.sg, Option.bind_some, n2, ifLe (by omega) (by omega), if_pos z]
  obtain ⟨u, e2⟩ : ∃ u, fX7_giftOf N v h = some (u, h) := by
    unfold fX7_giftOf
    split
    · exact ⟨_, rfl⟩
    · split
      · exact ⟨_, rfl⟩
      · split
        · exact ⟨_, rfl⟩
        · exact ⟨_, rfl⟩
  rw [R_46_3 q.sg, Option.bind_some, e1, Option.bind_some]
  dsimp only
  rw [e2, Option.bind_some]
  dsimp only
  rw [g_46_9 q.sg, Option.bind_some, q.kind, if_neg (by decide)]
  exact gift_72 q
theorem gift_run {C : Cx} {N r t c : Nat} {o : Int32} {h : pH} (hN : 3200 < N) (q : At7 C r t 0 c (Int32.ofNat (C.1.P t)) o h) : PS7 C (C.1.placeS r t) r c o h (fX7_readCallOrGift N 46 h) := by
  have hcap := q.cap
  have hP3 := q.1.2.2.1 t
  have pq := ex7 hN q
  unfold Tks.placeS fX7_readCallOrGift
  rw [if_pos (o_46 q.sg), R_46_3 q.sg, Option.bind_some, g_38_7 q.sg, Option.bind_some, q.2.2.2.2.2.2.2.2.2.2.1, guard46 q.sg, Option.bind_some]
  rcases hq : C.1.expr r t with ⟨x, t1⟩ | w
  · obtain ⟨h4, e4, q4, x4, c4⟩ := pq.1 x t1 hq
    have hox := (Tks.expr_ox C.1 r _ _ _ hq).nd
    obtain ⟨k, v, w, a, b, hxe, hk1, hk2⟩ := id hox
    have hkd : kd x = k := by rw [hxe]; rfl
    obtain ⟨l1, l2⟩ := CE_last hox x4
    have hcx := Tks.expr_cap C.1 r _ _ _ hq
    have hcl := cl_le_wt x
    have hcap4 := q4.cap
    have hP4 := q4.1.2.2.1 t1
    have c4s : Chg (sA c) h h4 := c4.mono (fun a k z => xA_s z)
    rw [e4, Option.bind_some, R_46_3 q4.sg, Option.bind_some, e2_lastOp (c := c) q4.sg q4.2.2.2.2.2.2.2.2.2.2.1 (by omega) (by omega), Option.bind_some, show c + cl x - 1 = c + (cl x - 1) by omega, l2, Pr.bind_ok]
    dsimp only
    rw [e7_giftOf N _ (by split <;> omega), Option.bind_some]
    dsimp only
    rw [g_46_9 q4.sg, Option.bind_some, q4.kind]
    by_cases hpl : C.1.K t1 = 61 ∧ isPlaceE x = true
    · rw [if_pos hpl, if_pos hpl.1]
      have hk3 : k = 6 ∨ k = 9 ∨ k = 12 := by
        have hx : (kd x == 6 || kd x == 9 || kd x == 12) = true := hpl.2
        rw [hkd] at hx
        simp at hx
        omega
      have hgk : (if (if kd x = 28 ∨ kd x = 29 then 51 else kd x) = 6 then 31 else if (if kd x = 28 ∨ kd x = 29 then 51 else kd x) = 9 then 34 else if (if kd x = 28 ∨ kd x = 29 then 51 else kd x) = 12 then 36 else -1) = Int32.ofNat (gk x) := by
        unfold gk
        rw [hkd, if_neg (show ¬ (k = 28 ∨ k = 29) by omega)]
        rcases hk3 with z | z | z <;> rw [z] <;> rfl
      have hgn : ¬ Int32.ofNat (gk x) = -1 := by
        unfold gk
        split
        · decide
        · split <;> decide
      rw [hgk, if_neg hgn, R_46_3 q4.sg, Option.bind_some]
      obtain ⟨cm, g40, gpb⟩ := place_cm hox hpl.2 x4
      have q4' : At7 C r t1 0 (c + (cl x - 1) + 1) (Int32.ofNat (C.1.P t)) o h4 := by rw [show c + (cl x - 1) + 1 = c + cl x by omega]; exact q4
      obtain ⟨e5, q5⟩ := q4'.takeBack (N := N)
      have c5 : Chg (fun a k => a = 38 ∧ k = 7) h4 (wr h4 38 7 (Int32.ofNat (c + (cl x - 1)))) := Chg.wr _ _ _ _ ⟨rfl, rfl⟩
      obtain ⟨h6, e6, q6, c6⟩ := e7_advance (N := N) q5 (q5.lt hpl.1 (by decide) (by decide))
      have hm1 := C.1.mono t1 (by rw [hpl.1]; decide)
      have pq2 := ex7 hN q6
      rw [e5, Option.bind_some]
      dsimp only
      rw [e6, Option.bind_some, guard46 q6.sg, Option.bind_some, g40]
      have c46 : Chg (sA c) h h6 := (c4s.trans (c5.mono (fun a k z => by unfold sA xA; omega))).trans (c6.mono (fun a k z => m7_s z))
      rcases hq2 : C.1.expr r (t1 + 1) with ⟨y, t2⟩ | w
      · obtain ⟨h7, e7, q7, x7, c7⟩ := pq2.1 y t2 hq2
        have hcx2 := Tks.expr_cap C.1 r _ _ _ hq2
        have hcl2 := cl_le_wt y
        obtain ⟨h8, e8, q8, x8, y8, c8⟩ := q7.more (N := N) x7 (by omega) (gk x) 0 (gw x)
        rw [gpb] at e8
        rw [e7, Option.bind_some, R_46_3 q7.sg, Option.bind_some, e8, Option.bind_some, Pr.bind_ok]
        unfold fX7_readCallOrGift_106
        refine semi_run (x := bGive (C.1.P t) x y nl) (by rw [cb_give, cb_nl, Nat.add_zero, ← Nat.add_assoc, ← Nat.add_assoc]; exact q8) (fun h' hh => ?_) ⟨0, Or.inr (Or.inr (Or.inr (Or.inr (Or.inr (Or.inl ⟨_, _, _, rfl, hpl.2⟩)))))⟩ ((c46.trans (c7.mono (fun a k z => sA_le (by omega) (xA_s z)))).trans (c8.mono (fun a k z => sA_le (by omega) (xA_s z))))
        have g78 : ∀ y i, 39 ≤ y → y ≤ 45 → i < c + (cl x - 1) → rd h' y i = rd h4 y i := by
          intro y' i y1 y2 hi
          rw [hh y' i y1 y2, c8.2.2.1 _ _ (by unfold xA; omega), c7.2.2.1 _ _ (by unfold xA; omega), c6.2.2.1 _ _ (by unfold m7; omega), c5.2.2.1 _ _ (by omega)]
        exact ⟨cm.mono (fun i k v w g i1 i2 z => PcAt.same z (fun y y1 y2 => g78 y i y1 y2 i2)) hpl.2, x8.same hh, PcAt.same y8 (fun y y1 y2 => hh y _ y1 y2), trivial⟩
      · obtain ⟨h7, e7, q7, c7⟩ := pq2.2 w hq2
        obtain ⟨m, h8, m1, e8, q8, c8⟩ := q7.emit3 (N := N) (k := Int32.ofNat (gk x)) (a := pa C (gk x) 0 (gw x)) (b := 0) ((c46.mono (fun a k z => sA_e z)).trans c7)
        rw [e7, Option.bind_some, R_46_3 q7.sg, Option.bind_some, e8, Option.bind_some, Pr.bind_no]
        unfold fX7_readCallOrGift_106
        exact PS7.mk_no (h' := h8) q8.semi q8 c8
    · rw [if_neg hpl]
      have to72 : ∀ (X : Option pH), (if C.1.K t1 = 61 then (if (if (if kd x = 28 ∨ kd x = 29 then 51 else kd x) = 6 then (31 : Int32) else if (if kd x = 28 ∨ kd x = 29 then 51 else kd x) = 9 then 34 else if (if kd x = 28 ∨ kd x = 29 then 51 else kd x) = 12 then 36 else -1) = -1 then fX7_readCallOrGift_72 N 46 (Int32.ofNat (if kd x = 28 ∨ kd x = 29 then 51 else kd x)) h4 else X) else fX7_readCallOrGift_72 N 46 (Int32.ofNat (if kd x = 28 ∨ kd x = 29 then 51 else kd x)) h4) = fX7_readCallOrGift_72 N 46 (Int32.ofNat (if kd x = 28 ∨ kd x = 29 then 51 else kd x)) h4 := by
        intro X
        by_cases h61 : C.1.K t1 = 61
        · have hnp : ¬ (k = 6 ∨ k = 9 ∨ k = 12) := by
            intro z
            refine hpl ⟨h61, ?_⟩
            show (kd x == 6 || kd x == 9 || kd x == 12) = true
            rw [hkd]
            simp
            omega
          rw [if_pos h61, if_pos]
          rw [hkd]
          by_cases z28 : k = 28 ∨ k = 29
          · rw [if_pos z28]
            rfl
          · rw [if_neg z28, if_neg (by omega), if_neg (by omega), if_neg (by omega)]
        · rw [if_neg h61]
      rw [to72]
      unfold fX7_readCallOrGift_72
      rw [g_46_9 q4.sg, Option.bind_some, q4.kind]
      have fl : PS7 C (no (C.1.P t1)) r c o h (fX7_readCallOrGift_102 N 46 h4) := by
        obtain ⟨h5, e5, q5, c5⟩ := e7_fail (N := N) q4
        refine PS7.mk_no (h' := h5) ?_ q5 ((c4.mono (fun a k z => xA_e z)).trans (c5.mono (fun a k z => m7_e z)))
        unfold fX7_readCallOrGift_102 fX7_readCallOrGift_106
        rw [e5, Option.bind_some]
        exact q5.semi
      by_cases h59 : C.1.K t1 = 59
      · rw [if_pos h59]
        by_cases hcall : isCallE x = true
        · have hk30 : k = 30 := by
            have hx : (kd x == 30) = true := hcall
            rw [hkd] at hx
            simp at hx
            exact hx
          rw [if_pos ⟨h59, hcall⟩, hkd, hk30]
          have hcc := Tks.expr_capC C.1 r _ _ _ hq hcall
          obtain ⟨h5, e5, q5, x5, y5, c5⟩ := q4.more (N := N) x4 (by omega) 52 0 0
          rw [if_neg (show ¬ (30 = 28 ∨ 30 = 29) by decide), if_pos (show Int32.ofNat 30 = 30 from rfl), R_46_3 q4.sg, Option.bind_some, show fX2_emit N 38 52 0 0 h4 = _ from e5, Option.bind_some]
          unfold fX7_readCallOrGift_106
          have sr := semi_run (N := N) (h0 := h) (x := bDrop (C.1.P t) x nl) (c := c) q5 (fun h' hh => ⟨x5.same hh, PcAt.same y5 (fun y y1 y2 => hh y _ y1 y2), trivial⟩) ⟨0, Or.inr (Or.inr (Or.inr (Or.inr (Or.inl ⟨_, _, rfl, hcall⟩))))⟩ (c4s.trans (c5.mono (fun a k z => sA_le (by omega) (xA_s z))))
          unfold Tks.semi at sr
          rw [if_pos h59] at sr
          exact sr
        · rw [if_neg (fun z => hcall z.2), if_neg]
          · exact fl
          · intro z
            apply hcall
            show (kd x == 30) = true
            have hlt : (if kd x = 28 ∨ kd x = 29 then 51 else kd x) < 62 := by split <;> omega
            rw [show (30 : Int32) = Int32.ofNat 30 from rfl, iEq (by omega) (by decide)] at z
            split at z
            · omega
            · rw [z]; rfl
      · rw [if_neg h59, if_neg (fun z => h59 z.1)]
        exact fl
  · obtain ⟨h4, e4, q4, c4⟩ := pq.2 w hq
    obtain ⟨h5, e5, q5, c5⟩ := gift_err (N := N) (c := c) (by omega) q4 c4
    rw [e4, Option.bind_some, Pr.bind_no]
    exact PS7.mk_no e5 q5 c5
theorem k_94 (N j : Nat) (h : pH) : rcV (gX7_readWhile N (j + 1)) 94 [.ref 46] h = fX7_readWhile N (gX7_readWhile N j) 46 h := by
  rw [rcV, gX7_readWhile]
  dsimp only
  rw [if_pos rfl]
  exact rcV_map
theorem k_95 (N j : Nat) (h : pH) : rcV (gX7_readWhile N (j + 1)) 95 [.ref 46] h = fX7_readTry N (gX7_readWhile N j) 46 h := by
  rw [rcV, gX7_readWhile]
  dsimp only
  rw [if_neg (by decide), if_pos rfl]
  exact rcV_map
theorem k_74 (N j : Nat) (h : pH) : rcV (gX7_readWhile N (j + 1)) 74 [.ref 46] h = fX7_readIf N (gX7_readWhile N j) 46 h := by
  rw [rcV, gX7_readWhile]
  dsimp only
  rw [if_neg (by decide), if_neg (by decide), if_pos rfl]
  exact rcV_map
theorem k_73 (N j : Nat) (h : pH) : rcV (gX7_readWhile N (j + 1)) 73 [.ref 46] h = fX7_readStatement N (gX7_readWhile N j) 46 h := by
  rw [rcV, gX7_readWhile]
  dsimp only
  rw [if_neg (by decide), if_neg (by decide), if_neg (by decide), if_pos rfl]
  exact rcV_map
theorem k_72 (N j : Nat) (h : pH) : rcI (gX7_readWhile N (j + 1)) 72 [.ref 46] h = fX7_readBlock N (gX7_readWhile N j) 46 h := by
  rw [rcI, gX7_readWhile]
  dsimp only
  rw [if_neg (by decide), if_neg (by decide), if_neg (by decide), if_neg (by decide), if_pos rfl]
  exact rcI_map
theorem block_42 {C : Cx} {N w W : Nat} {h : pH} {rc : Nat → List Value → pH → Option (Option Value × pH)} (q : Er7 C w W h) : ∃ v h', fX7_readBlock_42 N rc 46 h = some (v, h') ∧ Er7 C w W h' ∧ Chg (eA W) h h' := by
  obtain ⟨h4, e4, q4, c4⟩ := q.close (N := N) (k := 125) (by decide)
  obtain ⟨t, t1, t2⟩ := q.2.2.1
  have hn := q.1.2.1
  refine ⟨rd h 11 t, h4, ?_, q4, c4.mono (fun a k z => m7_e z)⟩
  unfold fX7_readBlock_42
  rw [R_46_0 q.sg, Option.bind_some, R_8_2 q.sg, Option.bind_some, g_46_8 q.sg, Option.bind_some, t2, L_11 q.sg (by omega), Option.bind_some, e4, Option.bind_some]
theorem block_8 {C : Cx} {N n w W : Nat} {v : Int32} {h : pH} {rc : Nat → List Value → pH → Option (Option Value × pH)} (q : Er7 C w W h) : ∃ v' h', fX7_readBlock_8 N rc (n + 1) 46 v h = some (v', h') ∧ Er7 C w W h' ∧ Chg (eA W) h h' := by
  obtain ⟨v', h', e, z⟩ := block_42 (N := N) (rc := rc) q
  refine ⟨v', h', ?_, z⟩
  rw [fX7_readBlock_8]
  split
  · exact e
  · rw [g_46_11 q.sg, Option.bind_some, if_neg q.ne]
    exact e
theorem Er7.block {C : Cx} {N j w W : Nat} {h : pH} (hN : 0 < N) (q : Er7 C w W h) : ∃ v h', rcI (gX7_readWhile N (j + 1)) 72 [.ref 46] h = some (v, h') ∧ Er7 C w W h' ∧ Chg (eA W) h h' := by
  obtain ⟨h1, e1, q1, c1⟩ := q.opn (N := N) (k := 123) (by decide)
  obtain ⟨n, rfl⟩ : ∃ n, N = n + 1 := ⟨N - 1, by omega⟩
  obtain ⟨v', h', e, z1, z2⟩ := block_8 (N := n + 1) (n := n) (v := 0) (rc := gX7_readWhile (n + 1) j) q1
  refine ⟨v', h', ?_, z1, (c1.mono (fun a k z => m7_e z)).trans z2⟩
  rw [k_72]
  unfold fX7_readBlock
  rw [if_pos (o_46 q.sg), e1, Option.bind_some]
  exact e
