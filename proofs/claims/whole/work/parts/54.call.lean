/-! ===== CALLS AND THEIR ARGUMENTS ===== -/
/-- what the end of called() writes -/
def CaA (m lb : Nat) : Nat → Nat → Prop := fun a k => (a = 138 ∧ (k = 15 ∨ k = 21 ∨ k = 23)) ∨ ((a = 144 ∨ a = 145 ∨ a = 146 ∨ a = 147 ∨ a = 148) ∧ k = m) ∨ (a = 149 ∧ lb ≤ k)
theorem CaA_out (m lb : Nat) : rpOut (CaA m lb) := by
  refine ⟨fun k hk z => ?_, fun k => ⟨fun z => ?_, fun z => ?_, fun z => ?_⟩⟩
  · rcases z with ⟨h1, h2⟩ | ⟨h1, h2⟩ | ⟨h1, h2⟩
    · rcases h2 with h2 | h2 | h2 <;> rw [h2] at hk <;> exact absurd hk (by decide)
    · omega
    · omega
  · rcases z with ⟨h1, h2⟩ | ⟨h1, h2⟩ | ⟨h1, h2⟩ <;> omega
  · rcases z with ⟨h1, h2⟩ | ⟨h1, h2⟩ | ⟨h1, h2⟩ <;> omega
  · rcases z with ⟨h1, h2⟩ | ⟨h1, h2⟩ | ⟨h1, h2⟩ <;> omega
theorem CaA_PB {m lb n l q a k : Nat} (h : CaA m lb a k) (hm : n ≤ m) (hl : l ≤ lb) : PB n l q a k := by
  rcases h with ⟨h1, h2⟩ | ⟨h1, h2⟩ | ⟨h1, h2⟩
  · exact Or.inr (Or.inl ⟨h1, by omega⟩)
  · exact Or.inr (Or.inr (Or.inl ⟨h1, by omega⟩))
  · exact Or.inr (Or.inr (Or.inr (Or.inl ⟨h1, by omega⟩)))
theorem CaA_fr {m lb n l q : Nat} {h h' : pH} (c : Chg (CaA m lb) h h') (hm : n ≤ m) (hl : l ≤ lb) : Fr n l q h h' := ⟨c.mono (fun _ _ z => CaA_PB z hm hl), NmLe_of c ((CaA_out m lb).1 11 (by decide)) (CaA_out m lb).2⟩
theorem i_sub (a b : Nat) : Int32.ofNat (a + b) - Int32.ofNat a = Int32.ofNat b := by
  rw [Int32.ofNat_add, Int32.add_comm, Int32.add_sub_cancel]
/-- the arguments go from what is held to the list; then the call's node -/
theorem call107 {N m lb q i kn : Nat} {rc : Nat → List Value → pH → Option (Option Value × pH)} {kk x id bg : Int32} (hm : m < 3200) (hl : lb + i ≤ 3200) (hq : q + i ≤ 3200) : ∀ (d a : Nat) (h : pH), a + d = i → Sg h → rd h 138 15 = Int32.ofNat m → rd h 138 21 = Int32.ofNat (lb + a) → rd h 138 23 = Int32.ofNat (q + i) →
    ∃ h', fX12_called_107 N rc (kn + d + 1) 138 kk x id (Int32.ofNat q) bg (Int32.ofNat (q + a)) h = some (Int32.ofNat m, h') ∧ Chg (CaA m lb) h h' ∧ rd h' 138 15 = Int32.ofNat (m + 1) ∧ rd h' 138 21 = Int32.ofNat (lb + i) ∧ rd h' 138 23 = Int32.ofNat q ∧ (∀ b, a ≤ b → b < i → rd h' 149 (lb + b) = rd h 150 (q + b)) ∧ (∀ b, b < a → rd h' 149 (lb + b) = rd h 149 (lb + b)) ∧ rd h' 144 m = kk ∧ rd h' 145 m = x ∧ rd h' 146 m = bg ∧ rd h' 147 m = id ∧ rd h' 148 m = Int32.ofNat i
  | 0, a, h, ha, hs, e15, e21, e23 => by
    have hai : a = i := by omega
    subst hai
    have s1 := hs.wr 138 23 (Int32.ofNat q)
    have c1 : Chg (CaA m lb) h (wr h 138 23 (Int32.ofNat q)) := Chg.wr h _ _ _ (Or.inl ⟨rfl, by simp⟩)
    have e15' : rd (wr h 138 23 (Int32.ofNat q)) 138 15 = Int32.ofNat m := by rw [rd_wr_ne _ _ (by decide), e15]
    have c2 : Chg (CaA m lb) (wr h 138 23 (Int32.ofNat q)) (ndH (wr h 138 23 (Int32.ofNat q)) m kk x bg id) := (ndH_chg _ m kk x bg id).mono (fun a k z => z.elim (fun z => Or.inl ⟨z.1, Or.inl z.2⟩) (fun z => Or.inr (Or.inl ⟨by omega, z.2⟩)))
    have s2 := c2.sg s1
    obtain ⟨r1, r2, r3, r4, r5⟩ := ndH_rd s1 m kk x bg id
    have c3 : Chg (CaA m lb) (ndH (wr h 138 23 (Int32.ofNat q)) m kk x bg id) (wr (ndH (wr h 138 23 (Int32.ofNat q)) m kk x bg id) 148 m (Int32.ofNat a)) := Chg.wr _ _ _ _ (Or.inr (Or.inl ⟨by simp, rfl⟩))
    have k23 : rd (ndH (wr h 138 23 (Int32.ofNat q)) m kk x bg id) 138 23 = Int32.ofNat q := by
      rw [(ndH_chg _ m kk x bg id).2.2.1 138 23 (fun z => z.elim (fun z => absurd z.2 (by decide)) (fun z => by omega)), w_138_23 hs]
    have k21 : rd (ndH (wr h 138 23 (Int32.ofNat q)) m kk x bg id) 138 21 = Int32.ofNat (lb + a) := by
      rw [(ndH_chg _ m kk x bg id).2.2.1 138 21 (fun z => z.elim (fun z => absurd z.2 (by decide)) (fun z => by omega)), rd_wr_ne _ _ (by decide), e21]
    have k149 : ∀ b, rd (ndH (wr h 138 23 (Int32.ofNat q)) m kk x bg id) 149 b = rd h 149 b := fun b => by
      rw [(ndH_chg _ m kk x bg id).2.2.1 149 b (fun z => z.elim (fun z => absurd z.1 (by decide)) (fun z => by omega)), rd_wr_ne _ _ (by omega)]
    refine ⟨_, ?_, (c1.trans c2).trans c3, ?_, ?_, ?_, fun b b1 b2 => absurd b1 (by omega), fun b _ => ?_, ?_, ?_, ?_, ?_, W_148 s2 _ _⟩
    · rw [fX12_called_107, g_138_23 hs, Option.bind_some, e23, if_pos ((Int32.ofNat_le_ofNat (by omega) (by omega)).mpr (Nat.le_refl _)), Option.bind_some, p_138_23 hs, Option.bind_some, e12_node s1 e15' hm, Option.bind_some]
      dsimp only
      rw [R_138_20 s2, Option.bind_some, i_sub, T_148 s2 hm, Option.bind_some]
    · rw [rd_wr_ne _ _ (by omega), r5]
    · rw [rd_wr_ne _ _ (by omega), k21]
    · rw [rd_wr_ne _ _ (by omega), k23]
    · rw [rd_wr_ne _ _ (by omega), k149]
    · rw [rd_wr_ne _ _ (by omega), r1]
    · rw [rd_wr_ne _ _ (by omega), r2]
    · rw [rd_wr_ne _ _ (by omega), r3]
    · rw [rd_wr_ne _ _ (by omega), r4]
  | d + 1, a, h, ha, hs, e15, e21, e23 => by
    have s1 := hs.wr 149 (lb + a) (rd h 150 (q + a))
    have c1 : Chg (CaA m lb) h (wr h 149 (lb + a) (rd h 150 (q + a))) := Chg.wr h _ _ _ (Or.inr (Or.inr ⟨rfl, by omega⟩))
    have e21' : rd (wr h 149 (lb + a) (rd h 150 (q + a))) 138 21 = Int32.ofNat (lb + a) := by rw [rd_wr_ne _ _ (by omega), e21]
    have c2 : Chg (CaA m lb) (wr h 149 (lb + a) (rd h 150 (q + a))) (wr (wr h 149 (lb + a) (rd h 150 (q + a))) 138 21 (Int32.ofNat (lb + (a + 1)))) := Chg.wr _ _ _ _ (Or.inl ⟨rfl, by simp⟩)
    have f : ∀ b j, ¬ (149 = b ∧ lb + a = j) → ¬ (138 = b ∧ 21 = j) → rd (wr (wr h 149 (lb + a) (rd h 150 (q + a))) 138 21 (Int32.ofNat (lb + (a + 1)))) b j = rd h b j := fun b j z1 z2 => by rw [rd_wr_ne _ _ z2, rd_wr_ne _ _ z1]
    obtain ⟨h', r0, r1, r2, r3, r4, r5, r5', r6⟩ := call107 (N := N) (rc := rc) (kk := kk) (x := x) (id := id) (bg := bg) (kn := kn) hm hl hq d (a + 1) (wr (wr h 149 (lb + a) (rd h 150 (q + a))) 138 21 (Int32.ofNat (lb + (a + 1)))) (by omega) (s1.wr _ _ _) (by rw [f 138 15 (by omega) (by omega)]; exact e15) (w_138_21 s1 _) (by rw [f 138 23 (by omega) (by omega)]; exact e23)
    refine ⟨h', ?_, (c1.trans c2).trans r1, r2, r3, r4, fun b b1 b2 => ?_, fun b b1 => ?_, r6⟩
    · rw [fX12_called_107, g_138_23 hs, Option.bind_some, e23, if_neg (fun z => by have := (Int32.ofNat_le_ofNat (by omega) (by omega)).mp z; omega), R_138_22 hs, Option.bind_some, g_138_21 hs, Option.bind_some, e21, R_138_24 hs, Option.bind_some, L_150 hs (by omega), Option.bind_some, T_149 hs (by omega), Option.bind_some, g_138_21 s1, Option.bind_some, e21', i_add1, p_138_21 s1, Option.bind_some, i_add1]
      exact r0
    · by_cases hb : b = a
      · subst hb
        rw [r5' b (by omega), rd_wr_ne _ _ (by omega), W_149 hs]
      · rw [r5 b (by omega) b2, f 150 _ (by omega) (by omega)]
    · rw [r5' b (by omega), f 149 _ (by omega) (by omega)]
/-- the call's node, all told -/
theorem NE_call {T : Txt} {h : pH} {n l i w : Nat} {s : Tr} (hs : NE T h s n l) (e1 : rd h 144 (n + sz s) = nK 30 s) (e2 : rd h 145 (n + sz s) = hdR s n) (e3 : rd h 146 (n + sz s) = Int32.ofNat (l + ls s)) (e4 : NmIs T h w (rd h 147 (n + sz s))) (e5 : rd h 148 (n + sz s) = Int32.ofNat i) (hi : (argR s n).length = i) (e6 : ∀ b j, (argR s n)[b]? = some j → rd h 149 (l + ls s + b) = Int32.ofNat j) : NE T h (eCall i w s) n l := by
  unfold eCall
  rw [NE_nd]
  refine ⟨hs, NE_nl _ _ _ _, Or.inr (Or.inr ⟨?_, ?_, ?_, ?_, fun _ => ⟨?_, hi, e6⟩⟩)⟩
  · rw [sz_nl, Nat.add_zero, e1]
  · rw [sz_nl, Nat.add_zero, e2]
    unfold n1
    rw [if_pos rfl]
  · rw [sz_nl, Nat.add_zero, e3]
    unfold n2
    rw [if_pos rfl]
  · rw [sz_nl, Nat.add_zero]
    unfold ofOk
    rw [if_neg (by omega), if_pos (by omega)]
    exact e4
  · rw [sz_nl, Nat.add_zero, e5]
theorem sz_call (i w : Nat) (s : Tr) : sz (eCall i w s) = sz s + 1 := by
  unfold eCall
  rw [sz_nd, if_neg (by omega), sz_nl]
theorem ls_call (i w : Nat) (s : Tr) : ls (eCall i w s) = ls s + i := by
  unfold eCall
  rw [ls_nd, if_pos rfl, ls_nl, Nat.add_zero]
/-- gone wrong: the end of called() all the same -/
theorem call91_err {T : Txt} {N w n l q i : Nat} {rc : Nat → List Value → pH → Option (Option Value × pH)} {kk x id : Int32} {h : pH} (he : Er w n l (q + i) h) (hN : 3200 ≤ N) (hn : n < 3200) (hl : l + i ≤ 3200) (hq : q + i ≤ 3100) : ∃ v h', fX12_called_91 N rc 138 kk x id (Int32.ofNat q) h = some (v, h') ∧ Er w (n + 1) (l + i) q h' ∧ Fr n l q h h' := by
  obtain ⟨h1, r1, a1, f1⟩ := he.closes (N := N) 41
  obtain ⟨⟨hs, hw, e9, e5⟩, e15, e21, e23⟩ := a1
  obtain ⟨kn, hkn⟩ : ∃ kn, N = kn + i + 1 := ⟨N - i - 1, by omega⟩
  obtain ⟨h', p0, p1, p2, p3, p4, p5⟩ := call107 (N := N) (rc := rc) (kk := kk) (x := x) (id := id) (bg := Int32.ofNat l) (kn := kn) (m := n) (lb := l) (q := q) (i := i) hn hl (by omega) i 0 h1 (by omega) hs e15 e21 e23
  rw [← hkn] at p0
  have g : ∀ k, k = 9 ∨ k = 5 → rd h' 138 k = rd h1 138 k := fun k hk => p1.2.2.1 _ _ (fun z => by rcases z with z | z | z <;> omega)
  refine ⟨Int32.ofNat n, h', ?_, ⟨⟨p1.sg hs, hw, by rw [g 9 (by simp)]; exact e9, by rw [g 5 (by simp)]; exact e5⟩, p2, p3, p4⟩, (f1.mono (Nat.le_refl _) (Nat.le_refl _) (by omega)).trans (CaA_fr p1 (Nat.le_refl _) (Nat.le_refl _))⟩
  unfold fX12_called_91
  rw [r1, Option.bind_some, g_138_21 hs, Option.bind_some, e21]
  exact p0
/-- what the arguments come to, from the node n on; then the end of called() -/
theorem call91_ok {T : Txt} {N t t0 r n l q i w : Nat} {rc : Nat → List Value → pH → Option (Option Value × pH)} {kk id : Int32} {h : pH} {s : Tr} (a : At T t r (n + sz s) (l + ls s) (q + i) h) (hr : r + 1 ≤ 30) (hN : 3200 ≤ N) (hs : NE T h s n l) (hi : (argR s n).length = i) (hh : ∀ b j, (argR s n)[b]? = some j → rd h 150 (q + b) = Int32.ofNat j) (hkk : kk = nK 30 s) (hid : NmIs T h w id) (b1 : sz s + tkP T t0 + 1 ≤ tkP T t) (b2 : ls s + i + tkP T t0 ≤ tkP T t) (hn0 : n ≤ tkP T t0) (hl0 : l ≤ tkP T t0) : PostE T (if tkK T t = 41 then ok (eCall i w s) (t + 1) else no (tkP T t)) t0 (r + 1) n l q h (fX12_called_91 N rc 138 kk (hdR s n) id (Int32.ofNat q) h) := by
  have hP := a.P_le
  obtain ⟨kn, hkn⟩ : ∃ kn, N = kn + i + 1 := ⟨N - i - 1, by have := a.2.2.2.2.2.2.2.2; omega⟩
  have hqb := a.2.2.2.2.2.2.2.2
  by_cases hK : tkK T t = 41
  · obtain ⟨h1, r1, a1, f1⟩ := a.closes1 (N := N) (k := 41) (c := 41) hr (by unfold isSK isSgn; simp) (by decide) hN hK
    have hm := tk_mono T t (by rw [hK]; decide)
    obtain ⟨h', p0, p1, p2, p3, p4, p5, -, p6, p7, p8, p9, p10⟩ := call107 (N := N) (rc := rc) (kk := kk) (x := hdR s n) (id := id) (bg := Int32.ofNat (l + ls s)) (kn := kn) (m := n + sz s) (lb := l + ls s) (q := q) (i := i) (by omega) (by omega) (by omega) i 0 h1 (by omega) a1.sg a1.2.2.2.1 a1.2.2.2.2.1 a1.2.2.2.2.2.1
    rw [← hkn] at p0
    have fr2 : Fr (n + sz s) (l + ls s) q h1 h' := CaA_fr p1 (Nat.le_refl _) (Nat.le_refl _)
    have fr1 : Fr (n + sz s) (l + ls s) q h h1 := f1.mono (Nat.le_refl _) (Nat.le_refl _) (by omega)
    have fr := fr1.trans fr2
    rw [if_pos hK, PostE_ok, sz_call, ls_call]
    refine ⟨h', ?_, ⟨a1.1.chg p1 (CaA_out _ _), hr, ?_, ?_, ?_, p4, by omega, by omega, by omega⟩, NE_call (NE.fr fr s n l (Nat.le_refl _) (Nat.le_refl _) hs) (by rw [p6, hkk]) p7 p8 (by rw [p9]; exact hid.le fr.2) p10 hi (fun b j e => ?_), fr.mono (by omega) (by omega) (Nat.le_refl _), by omega, by omega, by omega⟩
    · unfold fX12_called_91
      rw [r1, Option.bind_some, g_138_21 a1.sg, Option.bind_some, a1.2.2.2.2.1, show n + (sz s + 1) - 1 = n + sz s by omega]
      exact p0
    · rw [p1.2.2.1 138 10 (fun z => by rcases z with z | z | z <;> omega)]
      exact a1.2.2.1
    · rw [p2, show n + (sz s + 1) = n + sz s + 1 by omega]
    · rw [p3, show l + (ls s + i) = l + ls s + i by omega]
    · have hb : b < i := by rw [← hi]; exact (List.getElem?_eq_some_iff.mp e).1
      rw [p5 b (Nat.zero_le _) hb, f1.hold (by omega)]
      exact hh b j e
  · obtain ⟨h1, r1, a1, f1⟩ := a.closes0 (N := N) (k := 41) (c := 41) (by unfold isSK isSgn; simp) (by decide) hK
    obtain ⟨⟨hs1, hw1, e9, e5⟩, e15, e21, e23⟩ := a1
    obtain ⟨h', p0, p1, p2, p3, p4, p5⟩ := call107 (N := N) (rc := rc) (kk := kk) (x := hdR s n) (id := id) (bg := Int32.ofNat (l + ls s)) (kn := kn) (m := n + sz s) (lb := l + ls s) (q := q) (i := i) (by omega) (by omega) (by omega) i 0 h1 (by omega) hs1 e15 e21 e23
    rw [← hkn] at p0
    have g : ∀ k, k = 9 ∨ k = 5 → rd h' 138 k = rd h1 138 k := fun k hk => p1.2.2.1 _ _ (fun z => by rcases z with z | z | z <;> omega)
    rw [if_neg hK, PostE_no]
    refine ⟨Int32.ofNat (n + sz s), h', n + sz s + 1, l + ls s + i, ?_, ⟨⟨p1.sg hs1, hw1, by rw [g 9 (by simp)]; exact e9, by rw [g 5 (by simp)]; exact e5⟩, p2, p3, p4⟩, (f1.mono (by omega) (by omega) (by omega)).trans (CaA_fr p1 (by omega) (by omega)), by omega, by omega, by omega, by omega, by omega⟩
    unfold fX12_called_91
    rw [r1, Option.bind_some, g_138_21 hs1, Option.bind_some, e21]
    exact p0
