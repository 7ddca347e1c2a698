theorem sz_arg (s y : Tr) : sz (eArg s y) = sz s + sz y := by
  unfold eArg
  rw [sz_nd, if_pos (by omega), Nat.add_zero]
theorem ls_arg (s y : Tr) : ls (eArg s y) = ls s + ls y := by
  unfold eArg
  rw [ls_nd, if_neg (by omega), Nat.add_zero]
theorem nK_arg (s y : Tr) : nK 30 (eArg s y) = nK 30 s := by
  have e : ownT (eArg s y) = ownT s := by
    unfold eArg
    rw [ownT_nd, if_pos rfl]
  unfold nK
  rw [e]
theorem hdR_arg (s y : Tr) (n : Nat) : hdR (eArg s y) n = hdR s n := by
  unfold eArg
  rw [hdR_nd, if_pos rfl]
theorem argR_arg (s y : Tr) (n : Nat) : argR (eArg s y) n = argR s n ++ [n + sz s + sz y - 1] := by
  unfold eArg
  rw [argR_nd, if_pos rfl]
/-- one more is held -/
def hoA (p : Nat) : Nat → Nat → Prop := fun a k => (a = 138 ∧ k = 23) ∨ (a = 150 ∧ k = p)
theorem hoA_out (p : Nat) : rpOut (hoA p) := by
  refine ⟨fun k hk z => ?_, fun k => ⟨fun z => ?_, fun z => ?_, fun z => ?_⟩⟩
  · rcases z with ⟨h1, h2⟩ | ⟨h1, h2⟩
    · rw [h2] at hk; exact absurd hk (by decide)
    · omega
  · rcases z with ⟨h1, h2⟩ | ⟨h1, h2⟩ <;> omega
  · rcases z with ⟨h1, h2⟩ | ⟨h1, h2⟩ <;> omega
  · rcases z with ⟨h1, h2⟩ | ⟨h1, h2⟩ <;> omega
def hoH (h : pH) (p : Nat) (v : Int32) : pH := wr (wr h 150 p v) 138 23 (Int32.ofNat (p + 1))
theorem hoH_chg (h : pH) (p : Nat) (v : Int32) : Chg (hoA p) h (hoH h p v) := (Chg.wr h _ _ _ (Or.inr ⟨rfl, rfl⟩)).trans (Chg.wr _ _ _ _ (Or.inl ⟨rfl, rfl⟩))
theorem hoH_fr (h : pH) (n l p : Nat) (v : Int32) : Fr n l p h (hoH h p v) := ⟨(hoH_chg h p v).mono (fun a k z => z.elim (fun z => Or.inr (Or.inl ⟨z.1, by omega⟩)) (fun z => Or.inr (Or.inr (Or.inr (Or.inr ⟨z.1, by omega⟩))))), NmLe_of (hoH_chg h p v) ((hoA_out p).1 11 (by decide)) (hoA_out p).2⟩
theorem At.hold {T : Txt} {t r n l q : Nat} {h : pH} (a : At T t r n l q h) (hq : q + 1 ≤ tkP T t) (v : Int32) : At T t r n l (q + 1) (hoH h q v) := by
  have c := hoH_chg h q v
  have f : ∀ k, k ≠ 23 → rd (hoH h q v) 138 k = rd h 138 k := fun k hk => c.2.2.1 _ _ (fun z => by rcases z with z | z <;> omega)
  obtain ⟨h1, h2, h3, h4, h5, h6, b1, b2, b3⟩ := a
  exact ⟨h1.chg c (hoA_out q), h2, by rw [f 10 (by decide)]; exact h3, by rw [f 15 (by decide)]; exact h4, by rw [f 21 (by decide)]; exact h5, w_138_23 (h1.1.1.wr _ _ _) _, b1, b2, hq⟩
theorem Er.hold {w n l q : Nat} {h : pH} (a : Er w n l q h) (v : Int32) : Er w n l (q + 1) (hoH h q v) := by
  have c := hoH_chg h q v
  have f : ∀ k, k ≠ 23 → rd (hoH h q v) 138 k = rd h 138 k := fun k hk => c.2.2.1 _ _ (fun z => by rcases z with z | z <;> omega)
  obtain ⟨⟨hs, hw, e9, e5⟩, h4, h5, h6⟩ := a
  exact ⟨⟨c.sg hs, hw, by rw [f 9 (by decide)]; exact e9, by rw [f 5 (by decide)]; exact e5⟩, by rw [f 15 (by decide)]; exact h4, by rw [f 21 (by decide)]; exact h5, w_138_23 (hs.wr _ _ _) _⟩
/-- an argument is held -/
theorem call_hold {N q : Nat} {h : pH} {v : Int32} {α : Type} (hs : Sg h) (hq : q < 3200) (e : rd h 138 23 = Int32.ofNat q) (G : pH → Option α) : ((getR h 138 12 24).bind fun t22 => (getI h 138 12 23).bind fun t23 => (stI h t22 t23 v).bind fun h24 => (getI h24 138 12 23).bind fun t25 => (putI h24 138 12 23 (t25 + (1 : Int32))).bind fun h26 => G h26) = G (hoH h q v) := by
  have s1 := hs.wr 150 q v
  rw [R_138_24 hs, Option.bind_some, g_138_23 hs, Option.bind_some, e, T_150 hs hq, Option.bind_some, g_138_23 s1, Option.bind_some, rd_wr_ne _ _ (by omega), e, i_add1, p_138_23 s1, Option.bind_some]
  rfl
theorem call_loop {T : Txt} {N j r n l q w t0 : Nat} {kk id : Int32} {sub : Nat → Pr Tr} (hop : RunE T N j 257 sub r) (hA : (tkS T).Adv sub) (hN : 3200 ≤ N) (hr : r + 1 ≤ 30) (hn0 : n ≤ tkP T t0) (hl0 : l ≤ tkP T t0) : ∀ (f m : Nat) (s : Tr) (i t : Nat) (h : pH), T.2 < t + f → t ≤ T.2 → f + 1 < m → At T t r (n + sz s) (l + ls s) (q + i) h → NE T h s n l → (argR s n).length = i → (∀ b j, (argR s n)[b]? = some j → rd h 150 (q + b) = Int32.ofNat j) → kk = nK 30 s → NmIs T h w id → sz s + tkP T t0 + 1 ≤ tkP T t → ls s + i + 1 + tkP T t0 ≤ tkP T t →
    PostE T (Pr.bind ((tkS T).argl sub f s i t) fun a t' => ok (eCall a.2 w a.1) t') t0 (r + 1) n l q h (fX12_called_32 N (gX12_sum N j) m 138 kk (hdR s n) id (Int32.ofNat q) 1 h)
  | 0, m, s, i, t, h, hf, ht, hm, a, hs, hi, hh, hkk, hid, b1, b2 => by omega
  | f + 1, m + 1, s, i, t, h, hf, ht, hm, a, hs, hi, hh, hkk, hid, b1, b2 => by
    have hP := a.P_le
    have hqb := a.2.2.2.2.2.2.2.2
    have e9 := a.1.2.2.2.2.2.2.2.2.2.2
    rw [fX12_called_32, if_neg (by decide), g_138_9 a.sg, Option.bind_some, e9, if_neg (by decide), a.isO, Option.bind_some]
    have hp := hop t _ _ _ h a
    show PostE T (Pr.bind (Pr.bind (sub t) fun y t' => if tkK T t' = 44 then (tkS T).argl sub f (eArg s y) (i + 1) (t' + 1) else if tkK T t' = 41 then ok (eArg s y, i + 1) (t' + 1) else no (tkP T t')) fun a t' => ok (eCall a.2 w a.1) t') t0 (r + 1) n l q h _
    rcases hq : sub t with ⟨y, t1⟩ | w'
    · rw [hq, PostE_ok] at hp
      obtain ⟨h2, e2, a2, ny, f2, sy, c1, c2⟩ := hp
      have hadv := hA _ _ _ hq
      rw [e2, Option.bind_some, Pr.bind_ok]
      dsimp only
      rw [call_hold (N := N) (q := q + i) a2.sg (by omega) a2.2.2.2.2.2.1]
      have a3 := a2.hold (by omega) (Int32.ofNat (n + sz s + sz y - 1))
      have f3 := hoH_fr h2 (n + sz s + sz y) (l + ls s + ls y) (q + i) (Int32.ofNat (n + sz s + sz y - 1))
      have f23 : Fr (n + sz s) (l + ls s) (q + i) h (hoH h2 (q + i) (Int32.ofNat (n + sz s + sz y - 1))) := f2.trans (f3.mono (by omega) (by omega) (Nat.le_refl _))
      have a3' : At T t1 r (n + sz (eArg s y)) (l + ls (eArg s y)) (q + (i + 1)) (hoH h2 (q + i) (Int32.ofNat (n + sz s + sz y - 1))) := by
        rw [sz_arg, ls_arg, show n + (sz s + sz y) = n + sz s + sz y by omega, show l + (ls s + ls y) = l + ls s + ls y by omega]
        exact a3
      have hs3 : NE T (hoH h2 (q + i) (Int32.ofNat (n + sz s + sz y - 1))) (eArg s y) n l := by
        unfold eArg
        rw [NE_nd]
        exact ⟨NE.fr f23 s n l (Nat.le_refl _) (Nat.le_refl _) hs, NE.fr f3 y _ _ (Nat.le_refl _) (Nat.le_refl _) ny, Or.inr (Or.inl rfl)⟩
      have hi3 : (argR (eArg s y) n).length = i + 1 := by rw [argR_arg, List.length_append, hi]; rfl
      have hh3 : ∀ b j, (argR (eArg s y) n)[b]? = some j → rd (hoH h2 (q + i) (Int32.ofNat (n + sz s + sz y - 1))) 150 (q + b) = Int32.ofNat j := by
        intro b j e
        rw [argR_arg] at e
        by_cases hb : b < i
        · rw [List.getElem?_append_left (by omega)] at e
          rw [f23.hold (by omega)]
          exact hh b j e
        · have hb2 : b < i + 1 := by
            have := (List.getElem?_eq_some_iff.mp e).1
            rw [List.length_append, hi] at this
            exact this
          have hbi : b = i := by omega
          subst hbi
          rw [List.getElem?_append_right (by omega), hi, Nat.sub_self] at e
          have e : n + sz s + sz y - 1 = j := Option.some.inj e
          unfold hoH
          rw [rd_wr_ne _ _ (by omega), W_150 a2.sg, e]
      have hid3 := hid.le f23.2
      rw [r_isSign a3.1 (k := 44) (by unfold isSK isSgn; simp) (by decide), Option.bind_some]
      dsimp only
      by_cases k44 : tkK T t1 = 44
      · rw [if_pos k44, if_pos k44, if_neg (by decide)]
        obtain ⟨h4, e4, a4, f4⟩ := a3'.next hN (by rw [k44]; decide) (by rw [k44]; decide)
        have hm1 := tk_mono T t1 (by rw [k44]; decide)
        have hlt := Tks.lt_of (S := tkS T) (t := t1) (by show tkK T t1 ≠ 0; rw [k44]; decide)
        have hlt : t1 < T.2 := hlt
        rw [e4, Option.bind_some]
        show PostE T _ t0 (r + 1) n l q h (fX12_called_32 N (gX12_sum N j) m 138 kk (hdR s n) id (Int32.ofNat q) 1 h4)
        have ih := call_loop (kk := kk) (id := id) (w := w) hop hA hN hr hn0 hl0 f m (eArg s y) (i + 1) (t1 + 1) h4 (by omega) (by omega) (by omega) a4 (NE.fr f4 _ n l (Nat.le_refl _) (Nat.le_refl _) hs3) hi3 (fun b j e => by
          have hb : b < i + 1 := by rw [← hi3]; exact (List.getElem?_eq_some_iff.mp e).1
          rw [f4.hold (by omega)]
          exact hh3 b j e) (by rw [nK_arg]; exact hkk) (hid3.le f4.2) (by rw [sz_arg]; omega) (by rw [ls_arg]; omega)
        rw [hdR_arg] at ih
        refine PostE_back ih ?_
        exact (f23.mono (by omega) (by omega) (by omega)).trans (f4.mono (by omega) (by omega) (by omega))
      · rw [if_neg k44, if_neg k44, if_pos rfl]
        obtain ⟨m', rfl⟩ : ∃ m', m = m' + 1 := ⟨m - 1, by omega⟩
        show PostE T _ t0 (r + 1) n l q h (fX12_called_32 N (gX12_sum N j) (m' + 1) 138 kk (hdR s n) id (Int32.ofNat q) 0 _)
        rw [fX12_called_32, if_pos rfl]
        have fin := call91_ok (rc := gX12_sum N j) (t0 := t0) (w := w) (kk := kk) (id := id) a3' hr hN hs3 hi3 hh3 (by rw [nK_arg]; exact hkk) hid3 (by rw [sz_arg]; omega) (by rw [ls_arg]; omega) hn0 hl0
        rw [hdR_arg] at fin
        have fin2 := PostE_back fin (f23.mono (by omega) (by omega) (by omega))
        by_cases k41 : tkK T t1 = 41
        · rw [if_pos k41] at fin2 ⊢
          exact fin2
        · rw [if_neg k41] at fin2 ⊢
          exact fin2
    · rw [hq, PostE_no] at hp
      obtain ⟨v, h2, n', l', e2, a2, f2, c1, c2, c3, c4, c5⟩ := hp
      have hw := a2.1.2.1
      rw [e2, Option.bind_some, Pr.bind_no, Pr.bind_no]
      dsimp only
      rw [call_hold (N := N) (q := q + i) a2.sg (by omega) a2.2.2.2]
      have a3 := a2.hold v
      have f3 := hoH_fr h2 n' l' (q + i) v
      rw [e_isSign _ a3.1, Option.bind_some]
      dsimp only
      rw [if_pos rfl]
      obtain ⟨m', rfl⟩ : ∃ m', m = m' + 1 := ⟨m - 1, by omega⟩
      show PostE T _ t0 (r + 1) n l q h (fX12_called_32 N (gX12_sum N j) (m' + 1) 138 kk (hdR s n) id (Int32.ofNat q) 0 _)
      rw [fX12_called_32, if_pos rfl]
      have a3 : Er w' n' l' (q + (i + 1)) (hoH h2 (q + i) v) := a3
      obtain ⟨v', h', r1, r2, r3⟩ := call91_err (T := T) (rc := gX12_sum N j) (kk := kk) (x := hdR s n) (id := id) a3 hN (by omega) (by omega) (by omega)
      rw [PostE_no]
      exact ⟨v', h', n' + 1, l' + (i + 1), r1, r2, ((f2.mono (by omega) (by omega) (by omega)).trans (f3.mono (by omega) (by omega) (by omega))).trans (r3.mono (by omega) (by omega) (Nat.le_refl _)), by omega, by omega, by omega, by omega, by omega⟩
