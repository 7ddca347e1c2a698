/-! ===== THE REFERENCE throws ===== -/
def fmB2 (a k : Nat) : Prop := (a = 138 ∧ (k = 93 ∨ k = 100 ∨ k = 103 ∨ k = 106)) ∨ (193 ≤ a ∧ a ≤ 204)
def RFs (P : Pgm) (S : Tks) (num : List Int32 → Nat) (g h : pH) (B : Nat → Nat) (L : List Nat) (fs : List Fm) (t : List It) (lt pt : Nat) (trs : List (Nat × Nat)) : Prop := LwR B L h fs lt pt trs ∧ TdF P S num g fs t ∧ TdH t h ∧ TrH trs h ∧ rd h 138 93 = Int32.ofNat fs.length
def ThF (P : Pgm) (S : Tks) (num : List Int32 → Nat) (g h : pH) (B : Nat → Nat) (L : List Nat) (dd : Nat) (r : Option pH) : Option (List Fm) → Prop
  | some fs' => ∃ h' t' lt' pt' trs', r = some h' ∧ RFs P S num g h' B L fs' t' lt' pt' trs' ∧ rd h' 138 100 = Int32.ofNat pt' ∧ Chg fmB2 h h'
  | none => ∃ h', r = some h' ∧ rd h' 138 70 = 2 ∧ rd h' 138 77 = Int32.ofNat dd ∧ rd h' 138 103 = 0 ∧ rd h' 138 93 = 0 ∧ Chg fmA h h'
theorem ThF.of {P : Pgm} {S : Tks} {num : List Int32 → Nat} {g h h1 : pH} {B : Nat → Nat} {L : List Nat} {dd : Nat} {r : Option pH} {o : Option (List Fm)} (c : Chg fmB2 h h1) (q : ThF P S num g h1 B L dd r o) : ThF P S num g h B L dd r o := by
  match o, q with
  | some fs', ⟨h', t', lt', pt', trs', q1, q2, q3, q4⟩ => exact ⟨h', t', lt', pt', trs', q1, q2, q3, c.trans q4⟩
  | none, ⟨h', q1, q2, q3, q4, q5, q6⟩ => exact ⟨h', q1, q2, q3, q4, q5, (c.mono (fun a k z => by unfold fmB2 at z; unfold fmA; omega)).trans q6⟩
theorem r_ends {h : pH} {N k : Nat} (sg : Sg h) : ∃ h', fX12_ends N 138 (Int32.ofNat k) h = some h' ∧ Chg fmA h h' ∧ rd h' 138 70 = Int32.ofNat k ∧ rd h' 138 103 = 0 ∧ rd h' 138 93 = 0 ∧ rd h' 138 77 = rd h 138 77 := by
  have s1 := sg.wr 138 70 (Int32.ofNat k)
  have s2 := s1.wr 138 103 0
  have s3 := s2.wr 138 93 0
  refine ⟨wr (wr (wr (wr h 138 70 (Int32.ofNat k)) 138 103 0) 138 93 0) 138 100 0, ?_, (Chg.wr h 138 70 _ (by unfold fmA; omega)).trans ((Chg.wr _ 138 103 _ (by unfold fmA; omega)).trans ((Chg.wr _ 138 93 _ (by unfold fmA; omega)).trans (Chg.wr _ 138 100 _ (by unfold fmA; omega)))), ?_, ?_, ?_, ?_⟩
  · unfold fX12_ends
    rw [if_pos (o_138 sg), p_138_70 sg, Option.bind_some, p_138_103 s1, Option.bind_some, p_138_93 s2, Option.bind_some, p_138_100 s3, Option.bind_some]
  · rw [rd_wr_ne _ _ (by omega), rd_wr_ne _ _ (by omega), rd_wr_ne _ _ (by omega)]
    exact w_138_70 sg _
  · rw [rd_wr_ne _ _ (by omega), rd_wr_ne _ _ (by omega)]
    exact w_138_103 s1 _
  · rw [rd_wr_ne _ _ (by omega)]
    exact w_138_93 s2 _
  · rw [rd_wr_ne _ _ (by omega), rd_wr_ne _ _ (by omega), rd_wr_ne _ _ (by omega), rd_wr_ne _ _ (by omega)]
theorem thr_fs {P : Pgm} {S : Tks} {D : List Int32 → Prop} {num : List Int32 → Nat} {N dd o : Nat} {g : pH} {hp : List Ob} {B : Nat → Nat} {L : List Nat} (hN : 1100 ≤ N) (hrt : RT P D num g) (hrp : RPr P g) (ha : Acy P) (hd : dd < P.n) (ho : o ∈ L ∨ o < 5) : ∀ (fs : List Fm) (h : pH) (t : List It) (lt pt : Nat) (trs : List (Nat × Nat)) (d : Nat), StV g h → (∀ f, f ∈ fs → FK P S hp f) → fs.length ≤ 100 → RFs P S num g h B L fs t lt pt trs → t.length < d → ThF P S num g h B L dd (fX12_throwsObject_17 N d 138 (Int32.ofNat (B o)) (Int32.ofNat dd) h) (P.thF dd o fs)
  | [], h, t, lt, pt, trs, d, st, hk, hn, hq, hdt => by
    obtain ⟨q1, q2, q3, q4, q5⟩ := hq
    have q2 : t = [] := q2
    subst q2
    match d, hdt with
    | d + 1, hdt =>
      have h103 : rd h 138 103 = 0 := q3.1
      have s1 := st.1.wr 138 77 (Int32.ofNat dd)
      obtain ⟨h', r1, r2, r3, r4, r5, r6⟩ := r_ends (N := N) (k := 2) s1
      have r1 : fX12_ends N 138 2 (wr h 138 77 (Int32.ofNat dd)) = some h' := r1
      refine ⟨h', ?_, r3, by rw [r6]; exact w_138_77 st.1 _, r4, r5, (Chg.wr h 138 77 _ (by unfold fmA; omega)).trans r2⟩
      rw [fX12_throwsObject_17, g_138_103 st.1, Option.bind_some, h103, if_pos (by decide), p_138_77 st.1, Option.bind_some, r1, Option.bind_some]
  | (i, lo, ops, E, xs, ks) :: fs, h, t, lt, pt, trs, d, st, hk, hn, hq, hdt => by
    obtain ⟨q1, q2, q3, q4, q5⟩ := hq
    have htl := q2.len q1
    rw [List.length_cons] at hn q5 htl
    have hbd := q1.bd
    rw [List.length_cons] at hbd
    obtain ⟨lb, pb, tr', f1, f2, f3, f4, f5⟩ := q1
    obtain ⟨t1, t2, t3, rfl, x1, x2, x3, x4⟩ := q2
    dsimp only at x1 x3 q3 htl f4 hdt
    subst f4
    have hkl : ks.length ≤ 104 := f1.2.2.2.2.2.2.2.2.2.1
    have htk := x3.len
    have hlen : (t1 ++ (t2 ++ (8, Int32.ofNat i.2.1) :: t3)).length = t1.length + (t2.length + (t3.length + 1)) := by
      rw [List.length_append, List.length_append, List.length_cons]
    rw [hlen] at htl hdt
    have hfk : FK P S hp (i, lo, ops, E, xs, ks) := hk _ (List.mem_cons_self ..)
    obtain ⟨-, -, -, -, hty, E1, a1, hkh⟩ := hfk
    dsimp only at hty hkh
    obtain ⟨h1, r1, r2, r3⟩ := thr_pass (N := N) (v1 := Int32.ofNat (B o)) (v2 := Int32.ofNat dd) t1 h st x1.k2 q3 (by rw [List.length_append, List.length_cons]; omega)
    have st1 : StV g h1 := st.chg r3 (fun a k z => by omega)
    have c1 : Chg fmB2 h h1 := r3.mono (fun a k z => by unfold fmB2; omega)
    have h93 : rd h1 138 93 = Int32.ofNat (fs.length + 1) := (r3.2.2.1 _ _ (by omega)).trans q5
    have htr1 := q4.chg r3 (by omega) (fun a k z _ => by omega)
    obtain ⟨k1, k2⟩ := thr_kh (n := fs.length + 1) (pb := pb) (v1 := Int32.ofNat (B o)) (T := (8, Int32.ofNat i.2.1) :: t3) hN hrt hrp ha hd hkh x3 st1 r2 (by rw [List.length_cons]; omega) htr1 h93
    obtain ⟨d1, rfl⟩ : ∃ d1, d = d1 + t1.length := ⟨d - t1.length, by omega⟩
    rw [r1]
    refine ThF.of c1 ?_
    rcases hth : P.thK dd ks with _ | ⟨E', b, ks'⟩
    · have e1 : P.thF dd o ((i, lo, ops, E, xs, ks) :: fs) = P.thF dd o fs := by
        show (match P.thK dd ks with
          | some (E, b, ks') => some (P.lnd o i lo E b ks' :: fs)
          | none => P.thF dd o fs) = _
        rw [hth]
      obtain ⟨h2, m, b0, b1, b2, b3, b4⟩ := k1 hth
      have st2 : StV g h2 := st1.chg b4 (fun a k z => by unfold puT; omega)
      obtain ⟨d2, rfl⟩ : ∃ d2, d1 = d2 + 1 + m := ⟨d1 - m - 1, by omega⟩
      have h93' : rd h2 138 93 = Int32.ofNat (fs.length + 1) := (b4.2.2.1 _ _ (by unfold puT; omega)).trans h93
      have c3 : Chg (fun a k => a = 138 ∧ (k = 103 ∨ k = 93)) h2 (wr (wr h2 138 103 (Int32.ofNat t3.length)) 138 93 (Int32.ofNat fs.length)) := (Chg.wr h2 138 103 _ (by omega)).trans (Chg.wr _ 138 93 _ (by omega))
      have c03 : Chg (fun a k => a = 138) h (wr (wr h2 138 103 (Int32.ofNat t3.length)) 138 93 (Int32.ofNat fs.length)) := (r3.mono (fun a k z => z.1)).trans ((b4.mono (fun a k z => z.1)).trans (c3.mono (fun a k z => z.1)))
      rw [b1, thr_8 st2 b2 (by omega) rfl h93', e1]
      refine ThF.of ((b4.mono (fun a k z => by unfold puT at z; unfold fmB2; omega)).trans (c3.mono (fun a k z => by unfold fmB2; omega))) ?_
      refine thr_fs hN hrt hrp ha hd ho fs _ t3 lb pb tr' d2 (st2.chg c3 (fun a k z => by omega)) (fun f hf => hk f (List.mem_cons_of_mem _ hf)) (by omega) ⟨f5.chg c03 (fun a n _ _ _ => by omega) (fun a k _ _ => by omega) (fun a k _ _ => by omega), x4, ?_, b3.chg c3 (by omega) (fun a k z _ => by omega), ?_⟩ (by omega)
      · exact (b2.pop st2.1).1.chg (Chg.wr (A := fun a k => a = 138 ∧ k = 93) _ 138 93 _ ⟨rfl, rfl⟩) (by omega) (fun a k z _ => by omega)
      · exact w_138_93 (st2.1.wr 138 103 _) _
    · have e1 : P.thF dd o ((i, lo, ops, E, xs, ks) :: fs) = some (P.lnd o i lo E' b ks' :: fs) := by
        show (match P.thK dd ks with
          | some (E, b, ks') => some (P.lnd o i lo E b ks' :: fs)
          | none => P.thF dd o fs) = _
        rw [hth]
      obtain ⟨h2, t2', s, n, l, o', m, b0, b1, b2, b3, b4, b5, b6⟩ := k2 E' b ks' hth
      have st2 : StV g h2 := st1.chg b6 (fun a k z => by unfold puT; omega)
      obtain ⟨d2, rfl⟩ : ∃ d2, d1 = d2 + 1 + m := ⟨d1 - m - 1, by omega⟩
      have h93' : rd h2 138 93 = Int32.ofNat (fs.length + 1) := (b6.2.2.1 _ _ (by unfold puT; omega)).trans h93
      obtain ⟨j1, j2, j3, j4, j5, j6, ⟨E2, hck⟩, j8, e, j9, j10⟩ := thK_KH hkh hty hth
      dsimp only at j1 j2 j3 j4 j5 j6 hck j8 j9
      obtain ⟨p, a, cw, w, b', r, rfl⟩ := j4
      have j9 : P.fnd (P.1 cw) = some e := j9
      obtain ⟨E3, e', E0, E4, i1, i2, i3, i4, i5, i6, i7⟩ := inv_try hck
      have hee : e' = e := by
        rw [i2] at j9
        exact Option.some.inj j9
      subst hee
      have b3' := b3
      obtain ⟨g1, g2, g3, g4⟩ := b3'
      obtain ⟨z1, z2, z3⟩ := sz_try p a cw w b' r
      rw [z1] at g2; rw [z2] at g3; rw [z3] at g4
      rw [RTc_try] at g1
      obtain ⟨-, -, -, -, g5, g6⟩ := g1
      obtain ⟨g7, g8, g9, -⟩ := g6 e' E0 i2 i3
      have he : e' < P.n := (Pgm.fnd_lt i2).1
      obtain ⟨cp1, cp2, cp3, cp4⟩ := j6
      have hnv : nv (bTry p a cw w b' r) = 1 + nv a + nv b' + nv r := rfl
      have hdp : dp (bTry p a cw w b' r) = max (max (dp a) (dp b') + 1) (dp r) := rfl
      have c02 : Chg (fun a _ => a = 138) h h2 := (r3.mono (fun a k z => z.1)).trans (b6.mono (fun a k z => z.1))
      have hlb : lb ≤ 899 * fs.length := f1.2.2.2.2.2.1
      have htrl : (tyE pb ks' ++ tr').length < 6000 := by
        have hq := f5.bd.2.2
        rw [List.length_append, tyE_len]
        omega
      have t0 := b5.2 0 _ rfl
      rw [List.length_cons, show (tyE pb ks' ++ tr').length + 1 - 1 - 0 = (tyE pb ks' ++ tr').length by omega] at t0
      obtain ⟨h3, v0, v1, v2, v3, v4, v5, v6, v7⟩ := thr_7c (v1 := Int32.ofNat (B o)) (d := d2) (m := (tyE pb ks' ++ tr').length) (n := fs.length) (lb := lb) (pb := pb) (el := E'.1.length) hN hrt hrp ha hd he st2 b4 (by rw [List.length_append, List.length_cons]; omega) (by omega) (by omega) h93' b5.1 htrl t0.1 t0.2 ((c02.2.2.1 _ _ (by omega)).trans f1.2.2.1) (by omega) g7 j10
      have c3 : Chg (fun a k => caA fs.length (lb + E'.1.length) (t2' ++ (8, Int32.ofNat i.2.1) :: t3).length a k ∨ a = 138) h h3 := (c02.mono (fun a k z => Or.inr z)).trans (v1.mono (fun a k z => Or.inl z))
      have ec : ∀ a k, ¬ (caA fs.length (lb + E'.1.length) (t2' ++ (8, Int32.ofNat i.2.1) :: t3).length a k ∨ a = 138) → rd h3 a k = rd h a k := c3.2.2.1
      rw [b1, e1]
      have hE0 : (P.ctE E' cw w).getD E' = E0 := by rw [i3]; rfl
      have htk : (lo.take E'.1.length).length = E'.1.length := j2.1
      have hnx : (P.nxE i.1 (P.mty i.2.1) (bTry p a cw w b' r) E').1.length = E'.1.length := by rw [i6]; rfl
      have hlnd : P.lnd o i lo E' (bTry p a cw w b' r) ks' = (i, lo.take E'.1.length ++ [.inr (some o)], [], E0, [], (0, E0, b', false) :: (2, P.nxE i.1 (P.mty i.2.1) (bTry p a cw w b' r) E', nl, false) :: ks') := by
        rw [← hE0]; rfl
      rw [hlnd]
      refine ⟨h3, [] ++ (([(3, rd g 160 s)] ++ ([(5, Int32.ofNat E'.1.length)] ++ t2')) ++ (8, Int32.ofNat i.2.1) :: t3), lb + (lo.take E'.1.length ++ [Sum.inr (some o)]).length, pb, tyE pb ks' ++ tr', v0, ⟨⟨lb, pb, tr', ?_, rfl, rfl, rfl, f5.chg c3 (fun a n _ _ _ => by unfold caA; omega) (fun a k _ _ => by unfold caA; omega) (fun a k _ _ => by unfold caA; omega)⟩, ⟨[], _, t3, rfl, rfl, Nat.zero_le _, ⟨_, _, rfl, ?_, _, _, rfl, ?_, b2⟩, x4⟩, v7, ⟨v3, fun j x hj => ?_⟩, ?_⟩, v2, (b6.mono (fun a k z => by unfold puT at z; unfold fmB2; omega)).trans (v1.mono (fun a k z => by unfold caA at z; unfold fmB2; omega))⟩
      · obtain ⟨q1, q2, q3, q4, q5, q6, q7, q8, q9, q10, q11, q12, q13, q14⟩ := f1
        refine ⟨(ec _ _ (by unfold caA; omega)).trans q1, q2, (ec _ _ (by unfold caA; omega)).trans q3, ?_, (ec _ _ (by unfold caA; omega)).trans q5, q6, q7, ?_, Nat.zero_le _, ?_, ?_, fun j v hj => ?_, fun j v hj => (by cases hj), fun v hv => (by cases hv)⟩
        · rw [v4]
          show Int32.ofNat (E'.1.length + 1) = Int32.ofNat (lo.take E'.1.length ++ [Sum.inr (some o)]).length
          rw [List.length_append, htk]; rfl
        · show (lo.take E'.1.length ++ [Sum.inr (some o)]).length ≤ 899
          rw [List.length_append, htk]
          show E'.1.length + 1 ≤ 899
          omega
        · show ks'.length + 1 + 1 ≤ 104
          omega
        · show 0 + (0 + cty ks') ≤ 51
          omega
        · have hj : (lo.take E'.1.length ++ [Sum.inr (some o)])[j]? = some v := hj
          by_cases hjl : j < E'.1.length
          · rw [List.getElem?_append_left (by omega), List.getElem?_take_of_lt hjl] at hj
            rw [ec _ _ (by unfold caA; omega), ec _ _ (by unfold caA; omega)]
            exact q12 j v hj
          · rw [List.getElem?_append_right (by omega)] at hj
            have hj0 : j - (lo.take E'.1.length).length = 0 := by
              have := (List.getElem?_eq_some_iff.mp hj).1
              have e1 : [(Sum.inr (some o) : Vl)].length = 1 := rfl
              omega
            rw [hj0] at hj
            obtain rfl : (Sum.inr (some o) : Vl) = v := Option.some.inj hj
            rw [show j = E'.1.length by omega]
            exact ⟨v5, v6, ho⟩
      · rw [KtI_eq, if_pos rfl]
        exact ⟨none, s + 1 + stB a, n + szB a, l + lsB a, ⟨g9, by omega, by omega, by omega⟩, by rw [g5]⟩
      · rw [KtI_eq, if_neg (by omega), if_neg (by omega), if_pos rfl, hnx]
      · have := b5.2 (j + 1) x hj
        have hjl := (List.getElem?_eq_some_iff.mp hj).1
        rw [List.length_cons, show (tyE pb ks' ++ tr').length + 1 - 1 - (j + 1) = (tyE pb ks' ++ tr').length - 1 - j by omega] at this
        rw [v1.2.2.1 _ _ (by unfold caA; omega), v1.2.2.1 _ _ (by unfold caA; omega)]
        exact this
      · rw [List.length_cons]
        exact (v1.2.2.1 _ _ (by unfold caA; omega)).trans h93'
