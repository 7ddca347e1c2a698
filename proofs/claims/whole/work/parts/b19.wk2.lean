/-! ===== THE CLASS' PIECES that come to a word: all ===== -/
theorem obF_get {hp : List Ob} {i j : Nat} {ob : Ob} (h : hp[i]? = some ob) : obF hp i j = (ob.2[j]?).getD (.inl 0) := by unfold obF; rw [h]
theorem wk_cls {P : Pgm} {S : Tks} {C : Cx} {D : List Int32 → Prop} {num : List Int32 → Nat} {A : Nat → Nat} {L : List Nat} {g h : pH} {G : Gs} {N n k v w u t b M X : Nat} {i : Nat × Nat × Nat} {lo : List Vl} {ops : List (Bool × Vl)} {E : EnvV} {xs : List Xi} {ks : List Si} {l : List Nat} {a0 : List (Bool × Nat)} {s : Bool} (hN : 1100 ≤ N) (hP : PgF P S) (hct : CT P D num g) (hcp : CPr P g) (ho : HO P G.1) (hb : Bse g G A L h) (h6 : rd h 128 6 = Int32.ofNat t) (h11 : rd h 128 11 = Int32.ofNat (n + 1)) (hn : n < 100) (hF : FrK A L h g n (i, lo, ops, E, xs, ks) b t M X 0) (hse : ∃ d fs, G.1[i.2.2]? = some (some d, fs) ∧ P.und d i.1 = true) (hl : LoT P G.1 E lo) (hk : kOk k v l) (k5 : k ≠ 5) (k13 : k ≠ 13) (k14 : k ≠ 14) (k30 : k ≠ 30) (ht : P.opT i.1 E k w l = some [u]) (hops : OT P G.1 ops (popT k s l ++ a0)) : WkR A L h (t - l.length) (P.wkV i.1 E i.2.2 lo G.1 k v w l (opV ops (l.length - 1)) (opV ops 0)) (dsp N (P.pcK i.1 E k w l (pa C k v w)).1 (P.pcK i.1 E k w l (pa C k v w)).2 h) := by
  obtain ⟨ha, hB, p5, p3, _⟩ := hP
  obtain ⟨d0, fs0, s1, s2⟩ := hse
  obtain ⟨hk1, hk2, hk3⟩ := hk
  have sg := hb.1.1
  have htop := hF.top
  have k9 : t = b + M + ops.length := hF.2.2.2.2.2.2.2.2.1
  have hol : l.length ≤ ops.length := by
    have := hops.len
    rw [List.length_append, popT_len] at this
    omega
  have hpn := sg.pile.2.2.2.2
  have hself := hF.2.2.1
  have one : ∀ u, l = [u] → VT P G.1 (opV ops 0) u := fun u hu => by
    subst hu
    rw [popT_1 k30] at hops
    exact (hops.get (j := 0) (x := mk3 u) rfl).1
  have two : ∀ u u', l = [u, u'] → VT P G.1 (opV ops 1) u ∧ VT P G.1 (opV ops 0) u' := fun u u' hu => by
    subst hu
    rw [popT_2 k30] at hops
    exact ⟨(hops.get (j := 1) (x := mk3 u) rfl).1, (hops.get (j := 0) (x := mk3 u') rfl).1⟩
  have inj1 : ∀ {x : Nat}, some [x] = some [u] → x = u := fun z => (List.cons.inj (Option.some.inj z)).1
  have e1 : ∀ {x y : List Nat} {z : Nat}, eqT x y z = some [u] → u = z ∧ x = y := fun z => ⟨(List.cons.inj (eqT_one z).1).1, (eqT_one z).2⟩
  unfold Pgm.opT at ht
  rw [if_neg (show ¬ k = 70 by omega)] at ht
  unfold Pgm.wkV
  by_cases k1 : k = 1 ∨ k = 2
  · rw [if_pos k1]
    have hl0 : l = [] := by
      apply List.length_eq_zero_iff.mp
      rw [hk2]
      unfold arK
      rw [if_neg (by omega), if_neg (by omega), if_neg (by omega)]
    subst hl0
    have hv : WkR A L h t (.inl (.inl (Int32.ofNat v))) (fX5_actValue_44 N 128 (Int32.ofNat v) h) := push_v sg h6 (by omega) (Ww.num (Int32.ofNat v))
    rcases k1 with rfl | rfl
    · show WkR A L h t _ (dsp N 1 (Int32.ofNat v) h)
      rw [dsp_v (by decide)]
      unfold fX5_actValue
      rw [if_pos (o_128 sg), if_pos rfl]
      exact hv
    · show WkR A L h t _ (dsp N 2 (Int32.ofNat v) h)
      rw [dsp_v (by decide)]
      unfold fX5_actValue
      rw [if_pos (o_128 sg), if_neg (by decide), if_pos rfl]
      exact hv
  rw [if_neg k1]
  by_cases k3 : k = 3
  · subst k3
    rw [if_pos rfl]
    have hl0 : l = [] := List.length_eq_zero_iff.mp hk2
    subst hl0
    show WkR A L h t _ (dsp N 3 _ h)
    rw [dsp_v (by decide)]
    unfold fX5_actValue
    rw [if_pos (o_128 sg), if_neg (by decide), if_neg (by decide), if_pos rfl]
    exact push_v sg h6 (by omega) Ww.nul
  rw [if_neg k3]
  by_cases k4 : k = 4
  · subst k4
    rw [if_pos rfl]
    have hl0 : l = [] := List.length_eq_zero_iff.mp hk2
    subst hl0
    show WkR A L h t _ (dsp N 4 _ h)
    rw [dsp_v (by decide)]
    unfold fX5_actValue
    rw [if_pos (o_128 sg), if_neg (by decide), if_neg (by decide), if_neg (by decide), if_pos rfl, R_128_10 sg, Option.bind_some, g_128_11 sg, Option.bind_some, h11, i_sub1, L_136 sg hn, Option.bind_some]
    exact push_v sg h6 (by omega) hself
  rw [if_neg k4]
  rw [if_neg (by omega), if_neg (by omega), if_neg (by omega), if_neg k3] at ht
  by_cases k6 : k = 6
  · subst k6
    rw [if_pos rfl]
    rw [if_pos rfl] at ht
    have hl0 : l = [] := List.length_eq_zero_iff.mp hk2
    subst hl0
    unfold Pgm.nmT at ht
    have epc : ∀ a, P.pcK i.1 E 6 w [] a = P.nmK i.1 E (P.1 w) := fun a => rfl
    rw [epc]
    unfold Pgm.nmK
    rcases hf : E.fnd (P.1 w) with _ | j
    · rw [hf] at ht
      dsimp only at ht ⊢
      obtain ⟨m, hm, rfl, _⟩ := fT_some ht
      obtain ⟨q1, q2, q3, q4⟩ := obF_T ha ho s1 (t := 10 + i.1) (by rw [show 10 + i.1 - 10 = i.1 by omega]; exact s2) hm
      rw [hm]
      show WkR A L h t (.inl (obF G.1 i.2.2 (P.mo m))) (dsp N 8 (Int32.ofNat (P.mo m)) h)
      rw [dsp_v (by decide)]
      unfold fX5_actValue
      rw [if_pos (o_128 sg), if_neg (by decide), if_neg (by decide), if_neg (by decide), if_neg (by decide), if_neg (by decide), if_neg (by decide), if_neg (by decide)]
      unfold fX5_actValue_115
      rw [R_128_4 sg, Option.bind_some, R_128_10 sg, Option.bind_some, g_128_11 sg, Option.bind_some, h11, i_sub1, L_136 sg hn, Option.bind_some, hself.1]
      obtain ⟨w1, f1, f2⟩ := e3_at (N := N) ho hb (hself.2 _ rfl) s1 q2
      show WkR A L h t _ ((fX3_at N 129 (wO (A i.2.2)) (Int32.ofNat (P.mo m)) h).bind fun q5 => (fX5_push N 128 q5.1 q5.2).bind fun h6 => some ((0 : Int64), h6))
      rw [f1, Option.bind_some]
      exact push_v sg h6 (by omega) f2
    · rw [hf] at ht
      dsimp only at ht ⊢
      obtain ⟨i1, i2, i3, i4⟩ := fstN_some hf
      have hj : j < E.1.length := by omega
      have hjl : j < lo.length := by rw [hl.1]; exact hj
      have hv : lo[j]? = some (lo[j]'hjl) := List.getElem?_eq_getElem hjl
      rw [hv]
      show WkR A L h t (.inl (lo[j]'hjl)) (dsp N 7 (Int32.ofNat j) h)
      rw [dsp_v (by decide)]
      unfold fX5_actValue
      have hM : lo.length ≤ M := hF.2.2.2.2.2.2.2.2.2.1
      rw [if_pos (o_128 sg), if_neg (by decide), if_neg (by decide), if_neg (by decide), if_neg (by decide), if_neg (by decide), if_neg (by decide), if_pos rfl, R_128_5 sg, Option.bind_some, e5_slot (b := b) sg h11 hn hF.1 (by omega), Option.bind_some]
      dsimp only
      rw [L_p sg (by omega), Option.bind_some]
      exact push_v sg h6 (by omega) (hF.2.2.2.2.2.2.2.2.2.2.2.1 j _ hv)
  rw [if_neg k6] at ht ⊢
  rw [if_neg k13, if_neg k30] at ht
  by_cases k9' : k = 9
  · subst k9'
    rw [if_pos rfl]
    rw [if_pos rfl] at ht
    match l, hk2, one, hol, hops, ht with
    | [z], hk2, one, hol, hops, ht =>
      have hv := one z rfl
      have hv' : VT P G.1 (opV ops ([z].length - 1)) z := hv
      dsimp only at ht
      unfold Pgm.dotT at ht
      have epc : ∀ a, P.pcK i.1 E 9 w [z] a = P.dotK (P.1 w) z := fun a => rfl
      rw [epc]
      obtain ⟨w0, h1, f1, f2, f3, f4⟩ := pop_v (N := N) sg h6 hF hol
      have f4 : Ww A L w0 (opV ops 0) := f4
      have sg1 := f2.sg sg
      have hb1 := f2.bse hb
      have hpl : t - 1 < pileN h1 := by rw [pileN_of f2.1]; omega
      unfold Pgm.dotK
      by_cases hsz : z = 2 ∧ P.1 w = knW 7
      · rw [if_pos hsz] at ht ⊢
        obtain ⟨rfl, hw⟩ := hsz
        show WkR A L h (t - 1) _ (dsp N 11 28 h)
        rw [dsp_p (by decide) (by decide)]
        unfold fX5_actPart
        rw [if_pos (o_128 sg), if_neg (by decide), if_pos rfl, f1, Option.bind_some]
        dsimp only
        rw [id_2]
        refine WkR.of f2 ?_
        unfold fX5_takeLength
        rw [if_pos (o_128 sg1), lc_if]
        show WkR A L h1 (t - 1) (match opV ops 0 with
          | .inr (some i) => if lget [2] 0 = 2 ∧ P.1 w = knW 7 then .inl (.inl (Int32.ofNat (obL G.1 i))) else .inl (obF G.1 i (P.foO (P.fldT (P.1 w) (lget [2] 0))))
          | _ => .inr 0) _
        rcases hv.row with y | ⟨o, fs, y, y1⟩
        · rw [y] at f4 ⊢
          rw [if_pos (show w0 = 0 from f4.1), id_2]
          exact flt_v (N := N) rfl
        · rw [y] at f4 ⊢
          dsimp only
          rw [if_pos ⟨rfl, hw⟩, if_neg (show ¬ w0 = 0 by rw [f4.1]; exact wO_ne _), R_128_4 sg1, Option.bind_some, f4.1]
          show WkR A L h1 (t - 1) _ ((fX3_lengthOf N 129 (wO (A o)) h1).bind fun q3 => (fX5_pushNumber N 128 q3.1 q3.2).bind fun q4 => some (q4.1, q4.2))
          rw [e3_len ho hb1 (f4.2 o rfl) y1, Option.bind_some, obL_get y1]
          dsimp only
          rw [id_2]
          exact push_n sg1 f3 hpl _
      · rw [if_neg hsz] at ht ⊢
        obtain ⟨m, hm, rfl, _⟩ := fT_some ht
        have h10 := fldT_10 hm
        rw [hm]
        show WkR A L h (t - 1) _ (dsp N 10 (Int32.ofNat (P.mo m)) h)
        rw [dsp_p (by decide) (by decide)]
        unfold fX5_actPart
        rw [if_pos (o_128 sg), if_pos rfl, f1, Option.bind_some]
        dsimp only
        rw [id_2]
        refine WkR.of f2 ?_
        unfold fX5_takeField
        rw [if_pos (o_128 sg1), lc_if]
        show WkR A L h1 (t - 1) (match opV ops 0 with
          | .inr (some i) => if lget [z] 0 = 2 ∧ P.1 w = knW 7 then .inl (.inl (Int32.ofNat (obL G.1 i))) else .inl (obF G.1 i (P.foO (P.fldT (P.1 w) (lget [z] 0))))
          | _ => .inr 0) _
        rcases hv.obj h10 with y | ⟨o, c', fs, y, y1, y2⟩
        · rw [y] at f4 ⊢
          rw [if_pos (show w0 = 0 from f4.1), id_2]
          exact flt_v (N := N) rfl
        · rw [y] at f4 ⊢
          dsimp only
          obtain ⟨q1, q2, q3, q4⟩ := obF_T ha ho y1 y2 hm
          rw [if_neg (show ¬ (lget [z] 0 = 2 ∧ P.1 w = knW 7) from hsz), if_neg (show ¬ w0 = 0 by rw [f4.1]; exact wO_ne _), R_128_4 sg1, Option.bind_some, f4.1, show lget [z] 0 = z from rfl, hm]
          obtain ⟨w1, g1, g2⟩ := e3_at (N := N) ho hb1 (f4.2 o rfl) y1 q2
          show WkR A L h1 (t - 1) _ ((fX3_at N 129 (wO (A o)) (Int32.ofNat (P.mo m)) h1).bind fun q3 => (fX5_push N 128 q3.1 q3.2).bind fun h4 => some ((0 : Int64), h4))
          rw [g1, Option.bind_some]
          exact push_v sg1 f3 hpl g2
  rw [if_neg k9'] at ht ⊢
  by_cases k15 : k = 15
  · subst k15
    rw [if_neg (by omega), if_pos rfl]
    rw [if_pos rfl] at ht
    match l, hk2, one, hol, hops, ht with
    | [z], hk2, one, hol, hops, ht =>
      have hv := one z rfl
      dsimp only at ht
      split at ht
      · rename_i hu
        have hu := of_decide_eq_true hu
        obtain ⟨d, hd, rfl⟩ := clsT_some ht
        have hdn := (Pgm.fnd_lt hd).1
        have epc : ∀ a, P.pcK i.1 E 15 w [z] a = (15, Int32.ofNat d) := fun a => by
          show (Int32.ofNat 15, oI (-6) (P.fnd (P.1 w))) = _
          rw [hd]; rfl
        rw [epc]
        dsimp only
        obtain ⟨w0, h1, f1, f2, f3, f4⟩ := pop_v (N := N) sg h6 hF hol
        have f4 : Ww A L w0 (opV ops 0) := f4
        have sg1 := f2.sg sg
        have hb1 := f2.bse hb
        have hpl : t - 1 < pileN h1 := by rw [pileN_of f2.1]; omega
        rw [dsp_p (by decide) (by decide)]
        unfold fX5_actPart
        rw [if_pos (o_128 sg), if_neg (by decide), if_neg (by decide), if_neg (by decide), if_neg (by decide), if_neg (by decide), if_pos rfl, f1, Option.bind_some]
        dsimp only
        rw [id_2]
        refine WkR.of f2 ?_
        unfold fX5_cast
        rw [if_pos (o_128 sg1), lc_if]
        show WkR A L h1 (t - 1) (match opV ops 0 with
          | .inr (some i) => if P.isA G.1 i (P.fnd (P.1 w)) = true then .inl (opV ops 0) else .inr 3
          | _ => .inl (opV ops 0)) _
        have hx : opV ops 0 = .inr none ∨ ∃ i c fs, opV ops 0 = .inr (some i) ∧ G.1[i]? = some (some c, fs) := by
          rcases hu with rfl | hu
          · exact Or.inl hv.null
          · rcases hv.obj hu with y | ⟨o, c', fs, y, y1, y2⟩
            · exact Or.inl y
            · exact Or.inr ⟨o, c', fs, y, y1⟩
        rw [hd]
        have hio := e5_isof (N := N) hN hct hcp ho hb1 hdn f4 hx
        rcases hx with y | ⟨o, c', fs, y, y1⟩
        · rw [y] at f4 ⊢
          rw [if_pos (show w0 = 0 from f4.1)]
          exact push_v sg1 f3 hpl f4
        · rw [y] at f4 hio ⊢
          rw [if_neg (show ¬ w0 = 0 by rw [f4.1]; exact wO_ne _), hio, Option.bind_some]
          dsimp only
          rw [show isV P G.1 d (Sum.inr (some o)) = if P.isA G.1 o (some d) = true then (1 : Int32) else 0 from rfl]
          by_cases q : P.isA G.1 o (some d) = true
          · rw [if_pos q, if_pos q, if_neg (by decide)]
            exact push_v sg1 f3 hpl f4
          · rw [if_neg q, if_neg q, if_pos rfl]
            exact flt_v (N := N) rfl
      · cases ht
  rw [if_neg k15] at ht
  by_cases k16 : k = 16
  · subst k16
    rw [if_neg (by omega), if_neg (by omega), if_pos rfl]
    rw [if_pos rfl] at ht
    match l, hk2, one, hol, hops, ht with
    | [z], hk2, one, hol, hops, ht =>
      have hv := one z rfl
      dsimp only at ht
      split at ht
      · rename_i hu
        have hu := of_decide_eq_true hu
        split at ht
        · rename_i hd
          obtain ⟨d, hd⟩ := Option.isSome_iff_exists.mp hd
          have hdn := (Pgm.fnd_lt hd).1
          have epc : ∀ a, P.pcK i.1 E 16 w [z] a = (16, Int32.ofNat d) := fun a => by
            show (Int32.ofNat 16, oI (-6) (P.fnd (P.1 w))) = _
            rw [hd]; rfl
          rw [epc]
          dsimp only
          obtain ⟨w0, h1, f1, f2, f3, f4⟩ := pop_v (N := N) sg h6 hF hol
          have f4 : Ww A L w0 (opV ops 0) := f4
          have sg1 := f2.sg sg
          have hb1 := f2.bse hb
          have hpl : t - 1 < pileN h1 := by rw [pileN_of f2.1]; omega
          rw [dsp_p (by decide) (by decide)]
          unfold fX5_actPart
          rw [if_pos (o_128 sg), if_neg (by decide), if_neg (by decide), if_neg (by decide), if_neg (by decide), if_neg (by decide), if_neg (by decide)]
          unfold fX5_actPart_83
          rw [f1, Option.bind_some]
          dsimp only
          refine WkR.of f2 ?_
          have hx : opV ops 0 = .inr none ∨ ∃ i c fs, opV ops 0 = .inr (some i) ∧ G.1[i]? = some (some c, fs) := by
            rcases hu with rfl | hu
            · exact Or.inl hv.null
            · rcases hv.obj hu with y | ⟨o, c', fs, y, y1, y2⟩
              · exact Or.inl y
              · exact Or.inr ⟨o, c', fs, y, y1⟩
          rw [e5_isof (N := N) hN hct hcp ho hb1 hdn f4 hx, Option.bind_some]
          dsimp only
          rw [id_2]
          show WkR A L h1 (t - 1) (match opV ops 0 with
            | .inr (some i) => .inl (bV (P.isA G.1 i (P.fnd (P.1 w))))
            | _ => .inl (bV false)) _
          rw [hd]
          rcases hx with y | ⟨o, c', fs, y, y1⟩
          · rw [y]
            exact push_b sg1 f3 hpl false rfl
          · rw [y]
            exact push_b sg1 f3 hpl _ rfl
        · cases ht
      · cases ht
  rw [if_neg k16] at ht
  by_cases k12 : k = 12
  · subst k12
    rw [if_pos rfl]
    rw [if_pos rfl] at ht
    obtain ⟨rfl, rfl⟩ := e1 ht
    obtain ⟨v1, v2⟩ := two 2 0 rfl
    have epc : ∀ a, P.pcK i.1 E 12 w [2, 0] a = (12, a) := fun a => rfl
    rw [epc]
    dsimp only
    obtain ⟨w0, h1, w1, h2, f1, f2, f3, f4, f5, f6, f7⟩ := pop_v2 (N := N) sg h6 hF hol
    have f6 : Ww A L w0 (opV ops 0) := f6
    have f7 : Ww A L w1 (opV ops 1) := f7
    have sg1 := f4.sg sg
    have hb1 := f4.bse hb
    have hpl : t - 2 < pileN h2 := by rw [pileN_of f4.1]; omega
    rw [dsp_p (by decide) (by decide)]
    unfold fX5_actPart
    rw [if_pos (o_128 sg), if_neg (by decide), if_neg (by decide), if_pos rfl, f1, Option.bind_some]
    dsimp only
    rw [f2, Option.bind_some]
    dsimp only
    rw [id_2]
    refine WkR.of f4 ?_
    rw [(f6.n v2.int).1]
    unfold fX5_takeElement fX5_elementFault
    rw [if_pos (o_128 sg1), if_pos (o_128 sg1), lc_if]
    show WkR A L h2 (t - 2) (match opV ops 1 with
      | .inr (some i) => if 0 ≤ vI (opV ops 0) ∧ vI (opV ops 0) < Int32.ofNat (obL G.1 i) then .inl (obF G.1 i (vI (opV ops 0)).toNatClampNeg) else .inr 1
      | _ => .inr 0) _
    rcases v1.row with y | ⟨o, fs, y, y1⟩
    · rw [y] at f7 ⊢
      rw [if_pos (show w1 = 0 from f7.1)]
      unfold fX3_faultObject
      rw [Option.bind_some, Option.bind_some]
      dsimp only
      rw [lc_if, if_neg (show ¬ ((4294967296 : Int64) ||| ((0 : Int32) + 1).toInt64 = 0) by decide)]
      exact ⟨h2, rfl, Ch.refl _ _⟩
    · rw [y] at f7 ⊢
      dsimp only
      rw [if_neg (show ¬ w1 = 0 by rw [f7.1]; exact wO_ne _), R_128_4 sg1, Option.bind_some, f7.1]
      show WkR A L h2 (t - 2) _ (((fX3_has N 129 (wO (A o)) (vI (opV ops 0)) h2).bind fun q3 => if q3.1 = 0 then (fX3_faultObject N (1 : Int32) q3.2).bind fun q5 => some (q5.1, q5.2) else some ((0 : Int64), q3.2)).bind fun q1 => if (lg_cmp q1.1 (0 : Int64)) = 0 then ((getR q1.2 128 5 4).bind fun t3 => (fX3_at N t3 (wO (A o)) (vI (opV ops 0)) q1.2).bind fun q4 => (fX5_push N 128 q4.1 q4.2).bind fun h5 => some (q1.1, h5)) else some (q1.1, q1.2))
      rw [e3_has ho hb1 (f7.2 o rfl) y1, Option.bind_some, obL_get y1]
      dsimp only
      by_cases q : 0 ≤ vI (opV ops 0) ∧ vI (opV ops 0) < Int32.ofNat fs.length
      · rw [if_pos q, if_pos q, if_neg (by decide), Option.bind_some]
        dsimp only
        rw [if_pos ((lc0 _ _).mpr rfl), R_128_4 sg1, Option.bind_some]
        have hlen : fs.length ≤ 11000 := (ho.2 o _ y1).1
        have e0 : vI (opV ops 0) = Int32.ofNat (vI (opV ops 0)).toNatClampNeg := by
          have := q.1
          rw [Int32.le_iff_toInt_le] at this
          apply Int32.toInt_inj.mp
          rw [Int32.toInt_ofNat_of_lt, Int32.toNatClampNeg]
          · have h0 : (0 : Int32).toInt = 0 := rfl
            omega
          · have := Int32.toInt_lt (vI (opV ops 0))
            unfold Int32.toNatClampNeg
            omega
        have hlt : (vI (opV ops 0)).toNatClampNeg < fs.length := by
          have := q.2
          rw [e0, iLt (by have := Int32.toInt_lt (vI (opV ops 0)); unfold Int32.toNatClampNeg; omega) (by omega)] at this
          exact this
        obtain ⟨w2, g1, g2⟩ := e3_at (N := N) ho hb1 (f7.2 o rfl) y1 hlt
        rw [← e0] at g1
        rw [g1, Option.bind_some]
        exact push_v sg1 f5 hpl g2
      · rw [if_neg q, if_neg q, if_pos rfl]
        unfold fX3_faultObject
        rw [Option.bind_some, Option.bind_some]
        dsimp only
        rw [lc_if, if_neg (show ¬ ((4294967296 : Int64) ||| ((1 : Int32) + 1).toInt64 = 0) by decide)]
        exact ⟨h2, rfl, Ch.refl _ _⟩
  rw [if_neg k12] at ht ⊢
  rw [if_neg k14] at ht
  rw [if_neg k15, if_neg k16]
  have epc : ∀ a, P.pcK i.1 E k w l a = (Int32.ofNat k, a) := fun a => by
    unfold Pgm.pcK
    rw [if_neg k6, if_neg k9', if_neg (by omega)]
  rw [epc]
  dsimp only
  by_cases k17 : k = 17
  · subst k17
    rw [if_pos rfl] at ht ⊢
    obtain ⟨rfl, rfl⟩ := e1 ht
    have hv := one 0 rfl
    obtain ⟨w0, h1, f1, f2, f3, f4⟩ := pop_v (N := N) sg h6 hF hol
    have f4 : Ww A L w0 (opV ops 0) := f4
    have sg1 := f2.sg sg
    have hpl : t - 1 < pileN h1 := by rw [pileN_of f2.1]; omega
    show WkR A L h (t - 1) (.inl (.inl (-(vI (opV ops 0))))) (dsp N 17 _ h)
    rw [dsp_s (by decide) (by decide), f1, Option.bind_some]
    refine WkR.of f2 ?_
    unfold fX5_actSign
    rw [if_pos (o_128 sg1), if_pos rfl, id_2, (f4.n hv.int).1]
    exact push_n sg1 f3 hpl _
  rw [if_neg k17] at ht ⊢
  by_cases k18 : k = 18
  · subst k18
    rw [if_pos rfl] at ht ⊢
    obtain ⟨rfl, rfl⟩ := e1 ht
    have hv := one 1 rfl
    obtain ⟨w0, h1, f1, f2, f3, f4⟩ := pop_v (N := N) sg h6 hF hol
    have f4 : Ww A L w0 (opV ops 0) := f4
    have sg1 := f2.sg sg
    have hpl : t - 1 < pileN h1 := by rw [pileN_of f2.1]; omega
    show WkR A L h (t - 1) (.inl (bV (decide (vI (opV ops 0) = 0)))) (dsp N 18 _ h)
    rw [dsp_s (by decide) (by decide), f1, Option.bind_some]
    refine WkR.of f2 ?_
    unfold fX5_actSign
    rw [if_pos (o_128 sg1), if_neg (by decide), if_pos rfl, (f4.n (hv.n01 (Or.inr rfl))).1]
    unfold fX5_actSign_35
    rw [id_2, id_2]
    by_cases q : vI (opV ops 0) = 0
    · rw [if_pos q, decide_eq_true q]
      exact push_b sg1 f3 hpl true rfl
    · rw [if_neg q, decide_eq_false q]
      exact push_b sg1 f3 hpl false rfl
  rw [if_neg k18] at ht ⊢
  have hl2 : l.length = 2 := by
    rw [hk2]
    unfold arK
    rw [if_neg k30, if_pos (by omega)]
  match l, hl2, two, hol, ht with
  | [z, z'], hl2, two, hol, ht =>
    obtain ⟨v1, v2⟩ := two z z' rfl
    obtain ⟨w0, h1, w1, h2, f1, f2, f3, f4, f5, f6, f7⟩ := pop_v2 (N := N) sg h6 hF hol
    have f6 : Ww A L w0 (opV ops 0) := f6
    have f7 : Ww A L w1 (opV ops 1) := f7
    have sg0 := f3.sg sg
    have sg1 := f4.sg sg
    have hpl : t - 2 < pileN h2 := by rw [pileN_of f4.1]; omega
    show WkR A L h (t - 2) (sgW k (opV ops 1) (opV ops 0)) _
    have h8 : (8 : Int32) < Int32.ofNat k := by rw [show (8 : Int32) = Int32.ofNat 8 from rfl, iLt (by omega) (by omega)]; omega
    have h16 : (16 : Int32) < Int32.ofNat k := by rw [show (16 : Int32) = Int32.ofNat 16 from rfl, iLt (by omega) (by omega)]; omega
    rw [dsp_s h8 h16, f1, Option.bind_some]
    dsimp only
    unfold fX5_actSign
    rw [if_pos (o_128 sg0), if_neg (by rw [show (17 : Int32) = Int32.ofNat 17 from rfl, iEq (by omega) (by omega)]; omega), if_neg (by rw [show (18 : Int32) = Int32.ofNat 18 from rfl, iEq (by omega) (by omega)]; omega), f2, Option.bind_some]
    dsimp only
    refine WkR.of f4 ?_
    rw [if_neg (show ¬ (k = 28 ∨ k = 29) by omega)] at ht
    have num : (z = 0 ∧ z' = 0) → w0.toInt32 = vI (opV ops 0) ∧ w1.toInt32 = vI (opV ops 1) := fun q => by
      obtain ⟨rfl, rfl⟩ := q
      exact ⟨(f6.n v2.int).1, (f7.n v1.int).1⟩
    have arith : eqT [z, z'] [0, 0] 0 = some [u] → z = 0 ∧ z' = 0 := fun q => by
      have := (e1 q).2
      simp only [List.cons.injEq] at this
      omega
    have arith1 : eqT [z, z'] [0, 0] 1 = some [u] → z = 0 ∧ z' = 0 := fun q => by
      have := (e1 q).2
      simp only [List.cons.injEq] at this
      omega
    unfold sgW
    obtain rfl | rfl | rfl | rfl | rfl | rfl | rfl | rfl | rfl : k = 19 ∨ k = 20 ∨ k = 21 ∨ k = 22 ∨ k = 23 ∨ k = 24 ∨ k = 25 ∨ k = 26 ∨ k = 27 := by omega
    · obtain ⟨n1, n2⟩ := num (arith ht)
      rw [if_pos (show 19 = 19 from rfl), if_pos (show Int32.ofNat 19 = 19 from rfl), id_2, n1, n2]
      exact push_n sg1 f5 hpl _
    · obtain ⟨n1, n2⟩ := num (arith ht)
      rw [if_neg (show ¬ 20 = 19 by omega), if_pos (show 20 = 20 from rfl), if_neg (show ¬ Int32.ofNat 20 = 19 by decide), if_pos (show Int32.ofNat 20 = 20 from rfl), n1, n2]
      by_cases q : vI (opV ops 0) = 0
      · rw [if_pos q, if_pos q, id_2]
        exact flt_v (N := N) rfl
      · rw [if_neg q, if_neg q, if_neg q, id_2]
        exact push_n sg1 f5 hpl _
    · obtain ⟨n1, n2⟩ := num (arith ht)
      rw [if_neg (show ¬ 21 = 19 by omega), if_neg (show ¬ 21 = 20 by omega), if_pos (show 21 = 21 from rfl), if_neg (show ¬ Int32.ofNat 21 = 19 by decide), if_neg (show ¬ Int32.ofNat 21 = 20 by decide), if_pos (show Int32.ofNat 21 = 21 from rfl), n1, n2]
      by_cases q : vI (opV ops 0) = 0
      · rw [if_pos q, if_pos q, id_2]
        exact flt_v (N := N) rfl
      · rw [if_neg q, if_neg q, if_neg q, id_2]
        exact push_n sg1 f5 hpl _
    · obtain ⟨n1, n2⟩ := num (arith ht)
      rw [if_neg (show ¬ 22 = 19 by omega), if_neg (show ¬ 22 = 20 by omega), if_neg (show ¬ 22 = 21 by omega), if_pos (show 22 = 22 from rfl), if_neg (show ¬ Int32.ofNat 22 = 19 by decide), if_neg (show ¬ Int32.ofNat 22 = 20 by decide), if_neg (show ¬ Int32.ofNat 22 = 21 by decide), if_pos (show Int32.ofNat 22 = 22 from rfl), id_2, n1, n2]
      exact push_n sg1 f5 hpl _
    · obtain ⟨n1, n2⟩ := num (arith ht)
      rw [if_neg (show ¬ 23 = 19 by omega), if_neg (show ¬ 23 = 20 by omega), if_neg (show ¬ 23 = 21 by omega), if_neg (show ¬ 23 = 22 by omega), if_pos (show 23 = 23 from rfl), if_neg (show ¬ Int32.ofNat 23 = 19 by decide), if_neg (show ¬ Int32.ofNat 23 = 20 by decide), if_neg (show ¬ Int32.ofNat 23 = 21 by decide), if_neg (show ¬ Int32.ofNat 23 = 22 by decide), if_pos (show Int32.ofNat 23 = 23 from rfl), id_2, n1, n2]
      exact push_n sg1 f5 hpl _
    · obtain ⟨n1, n2⟩ := num (arith1 ht)
      rw [if_neg (show ¬ 24 = 19 by omega), if_neg (show ¬ 24 = 20 by omega), if_neg (show ¬ 24 = 21 by omega), if_neg (show ¬ 24 = 22 by omega), if_neg (show ¬ 24 = 23 by omega), if_pos (show 24 = 24 from rfl), if_neg (show ¬ Int32.ofNat 24 = 19 by decide), if_neg (show ¬ Int32.ofNat 24 = 20 by decide), if_neg (show ¬ Int32.ofNat 24 = 21 by decide), if_neg (show ¬ Int32.ofNat 24 = 22 by decide), if_neg (show ¬ Int32.ofNat 24 = 23 by decide), if_pos (show Int32.ofNat 24 = 24 from rfl), n1, n2]
      unfold fX5_actSign_183
      rw [id_2, id_2]
      by_cases q : vI (opV ops 0) ≤ vI (opV ops 1)
      · rw [if_pos q, decide_eq_false (Int32.not_lt.mpr q)]
        exact push_b sg1 f5 hpl false rfl
      · rw [if_neg q, decide_eq_true (Int32.not_le.mp q)]
        exact push_b sg1 f5 hpl true rfl
    · obtain ⟨n1, n2⟩ := num (arith1 ht)
      rw [if_neg (show ¬ 25 = 19 by omega), if_neg (show ¬ 25 = 20 by omega), if_neg (show ¬ 25 = 21 by omega), if_neg (show ¬ 25 = 22 by omega), if_neg (show ¬ 25 = 23 by omega), if_neg (show ¬ 25 = 24 by omega), if_pos (show 25 = 25 from rfl), if_neg (show ¬ Int32.ofNat 25 = 19 by decide), if_neg (show ¬ Int32.ofNat 25 = 20 by decide), if_neg (show ¬ Int32.ofNat 25 = 21 by decide), if_neg (show ¬ Int32.ofNat 25 = 22 by decide), if_neg (show ¬ Int32.ofNat 25 = 23 by decide), if_neg (show ¬ Int32.ofNat 25 = 24 by decide), if_pos (show Int32.ofNat 25 = 25 from rfl), n1, n2]
      unfold fX5_actSign_200
      rw [id_2, id_2]
      by_cases q : vI (opV ops 0) < vI (opV ops 1)
      · rw [if_pos q, decide_eq_false (Int32.not_le.mpr q)]
        exact push_b sg1 f5 hpl false rfl
      · rw [if_neg q, decide_eq_true (Int32.not_lt.mp q)]
        exact push_b sg1 f5 hpl true rfl
    all_goals
      have hc : P.cmpT z z' = true := by
        have ht : (if P.cmpT z z' = true then some [1] else none) = some [u] := ht
        split at ht
        · assumption
        · cases ht
      have hkind : (∃ m n, opV ops 1 = .inl m ∧ opV ops 0 = .inl n) ∨ ∃ m n, opV ops 1 = .inr m ∧ opV ops 0 = .inr n := by
        unfold Pgm.cmpT at hc
        split at hc
        · rename_i q
          have := of_decide_eq_true hc
          subst this
          obtain ⟨m, hm⟩ := v1.n01 q
          obtain ⟨n, hn'⟩ := v2.n01 q
          exact Or.inl ⟨m, n, hm, hn'⟩
        · rw [Bool.and_eq_true, Bool.and_eq_true] at hc
          obtain ⟨m, hm⟩ := v1.ref (of_decide_eq_true hc.1)
          obtain ⟨n, hn'⟩ := v2.ref (of_decide_eq_true hc.2.1)
          exact Or.inr ⟨m, n, hm, hn'⟩
      have heq := Ww.eq hb.2.2.2 f7 f6 hkind
    · rw [if_neg (show ¬ 26 = 19 by omega), if_neg (show ¬ 26 = 20 by omega), if_neg (show ¬ 26 = 21 by omega), if_neg (show ¬ 26 = 22 by omega), if_neg (show ¬ 26 = 23 by omega), if_neg (show ¬ 26 = 24 by omega), if_neg (show ¬ 26 = 25 by omega), if_pos (show 26 = 26 from rfl), if_neg (show ¬ Int32.ofNat 26 = 19 by decide), if_neg (show ¬ Int32.ofNat 26 = 20 by decide), if_neg (show ¬ Int32.ofNat 26 = 21 by decide), if_neg (show ¬ Int32.ofNat 26 = 22 by decide), if_neg (show ¬ Int32.ofNat 26 = 23 by decide), if_neg (show ¬ Int32.ofNat 26 = 24 by decide), if_neg (show ¬ Int32.ofNat 26 = 25 by decide), if_pos (show Int32.ofNat 26 = 26 from rfl), lc_if]
      unfold fX5_actSign_217
      rw [id_2, id_2]
      by_cases q : opV ops 1 = opV ops 0
      · rw [if_pos (heq.mpr q), decide_eq_true q]
        exact push_b sg1 f5 hpl true rfl
      · rw [if_neg (fun y => q (heq.mp y)), decide_eq_false q]
        exact push_b sg1 f5 hpl false rfl
    · rw [if_neg (show ¬ 27 = 19 by omega), if_neg (show ¬ 27 = 20 by omega), if_neg (show ¬ 27 = 21 by omega), if_neg (show ¬ 27 = 22 by omega), if_neg (show ¬ 27 = 23 by omega), if_neg (show ¬ 27 = 24 by omega), if_neg (show ¬ 27 = 25 by omega), if_neg (show ¬ 27 = 26 by omega), if_neg (show ¬ Int32.ofNat 27 = 19 by decide), if_neg (show ¬ Int32.ofNat 27 = 20 by decide), if_neg (show ¬ Int32.ofNat 27 = 21 by decide), if_neg (show ¬ Int32.ofNat 27 = 22 by decide), if_neg (show ¬ Int32.ofNat 27 = 23 by decide), if_neg (show ¬ Int32.ofNat 27 = 24 by decide), if_neg (show ¬ Int32.ofNat 27 = 25 by decide), if_neg (show ¬ Int32.ofNat 27 = 26 by decide), lc_if]
      unfold fX5_actSign_234
      rw [id_2, id_2]
      by_cases q : opV ops 1 = opV ops 0
      · rw [if_pos (heq.mpr q), decide_eq_false (fun y => y q)]
        exact push_b sg1 f5 hpl false rfl
      · rw [if_neg (fun y => q (heq.mp y)), decide_eq_true q]
        exact push_b sg1 f5 hpl true rfl
