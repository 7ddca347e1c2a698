/-- the reference as program() begins to read -/
theorem e12_begin {N L : Nat} {h : pH} (hN : 3200 ≤ N) (hs : Sg h) (e1 : rd h 138 1 = Int32.ofNat L) (hL : L ≤ 3000) (hK : ∀ j, j < 36 → rd h 143 j = knB j) : ∃ (T : Txt) (h' : pH), fX12_program N 138 h = fX12_program_164 N N 138 1 h' ∧ T.2 = L ∧ (∀ i, i < L → T.1 i = rd h 139 i) ∧ At3 T 0 30 0 0 0 0 0 0 h' ∧ rd h' 138 37 = Int32.ofNat 5 ∧ rd h' 172 0 = Int32.ofNat 0 ∧ 8 ≤ nmM h' ∧ (∀ k, k < 8 → nmR h' k = knW k) ∧ (∀ c, c < 5 → rd h' 162 c = Int32.ofNat c ∧ rd h' 165 c = -1 ∧ rd h' 167 c = 0) ∧ rd h' 167 5 = 0 ∧ rd h' 138 1 = 0 ∧ rd h' 138 56 = 0 ∧ rd h' 138 69 = 0 ∧ rd h' 138 58 = -1 ∧ Chg bgA h h' := by
  have cA : Chg bgA h (wr h 138 3 (Int32.ofNat L)) := Chg.wr h _ _ _ (Or.inl ⟨rfl, by simp⟩)
  have sA := cA.sg hs
  obtain ⟨x, hx⟩ : ∃ x, N = x + L + 1 := ⟨N - L - 1, by omega⟩
  obtain ⟨hB, b1, b2, b3, b4⟩ := prog10_loop (N := N) (x := x) hL L 0 (wr h 138 3 (Int32.ofNat L)) (by omega) sA (by rw [rd_wr_ne _ _ (by omega)]; exact e1)
  have sB := b2.sg sA
  have kB : ∀ a j, a ≠ 140 → rd hB a j = rd (wr h 138 3 (Int32.ofNat L)) a j := fun a j ha => b2.2.2.1 _ _ (fun z => ha z.1)
  have cB : Chg bgA (wr h 138 3 (Int32.ofNat L)) hB := b2.mono (fun a j z => Or.inr (Or.inl z.1))
  have eB1 : rd hB 138 1 = Int32.ofNat L := by rw [kB 138 1 (by decide), rd_wr_ne _ _ (by omega)]; exact e1
  have cC := rsH_chg hB
  have sC := cC.sg sB
  obtain ⟨q1, q56, q69, q4, q9, q58, q10, q15, q21, q23, q25, q44, q53⟩ := rsH_rd sB
  have kC' : ∀ a j, a ≠ 138 ∨ j = 3 → rd (rsH hB) a j = rd hB a j := fun a j ha => cC.2.2.1 _ _ (Fl_ne (ha.imp (fun z => z) (fun z => by rw [z]; decide)))
  have cC' : Chg bgA hB (rsH hB) := cC.mono (fun a j z => Or.inl ⟨z.1, by have := z.2; simp only [List.mem_cons, List.not_mem_nil, or_false] at this ⊢; omega⟩)
  obtain ⟨hD, d1, d2, d3⟩ := e12_known (N := N) hN sC (fun j hj => by rw [kC' 143 j (by simp), kB 143 j (by decide), rd_wr_ne _ _ (by omega)]; exact hK j hj)
  have sD := d2.sg sC
  have kD : ∀ a j, (a = 138 ∧ j ≠ 11) ∨ (a ≠ 138 ∧ a ≠ 140 ∧ a ≠ 141 ∧ a ≠ 142) ∨ (a = 140 ∧ j < 3000) → rd hD a j = rd (rsH hB) a j := fun a j ha => d2.2.2.1 _ _ (fun z => by rcases z with z | z | z <;> omega)
  have cD : Chg bgA (rsH hB) hD := d2.mono (fun a j z => by
    rcases z with z | z | z
    · exact Or.inl ⟨z.1, by rw [z.2]; decide⟩
    · exact Or.inr (Or.inl z.1)
    · exact z.1.elim (fun z => Or.inr (Or.inr (Or.inl z))) (fun z => Or.inr (Or.inr (Or.inr (Or.inl z)))))
  obtain ⟨y, hy⟩ : ∃ y, N = y + 5 + 1 := ⟨N - 6, by omega⟩
  obtain ⟨hE, f1, f2, f3⟩ := prog107_loop (N := N) (x := y) 5 0 hD (by omega) sD
  have sE := f2.sg sD
  have kE : ∀ a j, a ≠ 162 → a ≠ 165 → a ≠ 167 → rd hE a j = rd hD a j := fun a j h1 h2 h3 => f2.2.2.1 _ _ (fun z => by omega)
  have cE : Chg bgA hD hE := f2.mono (fun a j z => Or.inr (Or.inr (Or.inr (Or.inr (Or.inl ⟨z.1, by omega⟩)))))
  have sF1 := sE.wr 167 5 0
  have sF2 := sF1.wr 172 0 0
  have sF := sF2.wr 138 37 5
  have cF : Chg bgA hE (wr (wr (wr hE 167 5 0) 172 0 0) 138 37 5) := ((Chg.wr hE _ _ _ (Or.inr (Or.inr (Or.inr (Or.inr (Or.inl ⟨by simp, by omega⟩)))))).trans (Chg.wr _ _ _ _ (Or.inr (Or.inr (Or.inr (Or.inr (Or.inr ⟨rfl, rfl⟩))))))).trans (Chg.wr _ _ _ _ (Or.inl ⟨rfl, by simp⟩))
  generalize hF : wr (wr (wr hE 167 5 0) 172 0 0) 138 37 5 = F at *
  have kF : ∀ a j, ¬ (a = 167 ∧ j = 5) → ¬ (a = 172 ∧ j = 0) → ¬ (a = 138 ∧ j = 37) → rd F a j = rd hE a j := fun a j h1 h2 h3 => by rw [← hF, rd_wr_ne _ _ (by omega), rd_wr_ne _ _ (by omega), rd_wr_ne _ _ (by omega)]
  have fld : ∀ j, j ≠ 37 → j ≠ 11 → rd F 138 j = rd (rsH hB) 138 j := fun j h1 h2 => by rw [kF 138 j (by omega) (by omega) (by omega), kE 138 j (by decide) (by decide) (by decide), kD 138 j (by omega)]
  have okF : knOk 8 F := by
    refine ⟨by rw [kF 138 11 (by omega) (by omega) (by omega), kE 138 11 (by decide) (by decide) (by decide)]; exact d3.1, fun k hk => ?_⟩
    obtain ⟨u1, u2, u3⟩ := d3.2 k hk
    exact ⟨by rw [kF 141 k (by omega) (by omega) (by omega), kE 141 k (by decide) (by decide) (by decide)]; exact u1, by rw [kF 142 k (by omega) (by omega) (by omega), kE 142 k (by decide) (by decide) (by decide)]; exact u2, fun i hi => by rw [kF 140 _ (by omega) (by omega) (by omega), kE 140 _ (by decide) (by decide) (by decide)]; exact u3 i hi⟩
  obtain ⟨n8, m8, r8, inj8⟩ := knOk.nms sF okF
  have e3F : rd F 138 3 = Int32.ofNat L := by rw [fld 3 (by decide) (by decide), kC' 138 3 (by simp), kB 138 3 (by decide), w_138_3 hs]
  obtain ⟨tF, lF⟩ := tOk_of sF hL e3F
  obtain ⟨h', w1, w2, w3, w4⟩ := first_word (N := N) hN tF n8 inj8 (by rw [fld 4 (by decide) (by decide)]; exact q4) (by rw [fld 9 (by decide) (by decide)]; exact q9)
  have kW : ∀ a j, (a = 138 ∧ j ∉ [4, 5, 6, 7, 8, 11]) ∨ (a ≠ 138 ∧ a ≠ 141 ∧ a ≠ 142) → rd h' a j = rd F a j := fun a j ha => w3.2.2.1 _ _ (by
    rcases ha with ha | ha
    · exact NxB_ne (Or.inr ha.2) (by omega) (by omega)
    · exact NxB_ne (Or.inl ha.1) ha.2.1 ha.2.2)
  have fw : ∀ j, j ∉ [4, 5, 6, 7, 8, 11] → j ≠ 37 → rd h' 138 j = rd (rsH hB) 138 j := fun j h1 h2 => by rw [kW 138 j (Or.inl ⟨rfl, h1⟩), fld j h2 (fun z => h1 (by rw [z]; decide))]
  refine ⟨(tx F, tl F), h', ?_, lF, fun i hi => ?_, ⟨⟨⟨w2, Nat.le_refl _, ?_, ?_, ?_, ?_, Nat.zero_le _, Nat.zero_le _, Nat.zero_le _⟩, ?_, Nat.zero_le _⟩, ?_, ?_, Nat.zero_le _, Nat.zero_le _⟩, ?_, ?_, by have := w4.1; omega, fun k hk => (w4.2 k (by omega)).trans (r8 k hk), fun c hc => ?_, ?_, ?_, ?_, ?_, ?_, ?_⟩
  · unfold fX12_program
    rw [if_pos (o_138 hs), g_138_1 hs, Option.bind_some, e1, p_138_3 hs, Option.bind_some]
    rw [← hx] at b1
    rw [← hy] at f1
    have b1' : fX12_program_10 N N 138 0 (wr h 138 3 (Int32.ofNat L)) = fX12_program_10 N (x + 1) 138 (Int32.ofNat L) hB := b1
    have f1' : fX12_program_107 N N 138 0 hD = fX12_program_107 N (y + 1) 138 (Int32.ofNat 5) hE := f1
    have t1 : stI hE 167 5 0 = some (wr hE 167 5 0) := T_167 sE (i := 5) (by omega) 0
    have t2 : stI (wr hE 167 5 0) 172 0 0 = some (wr (wr hE 167 5 0) 172 0 0) := T_172 sF1 (i := 0) (by omega) 0
    rw [b1', prog10_end sB eB1, d1, Option.bind_some, f1', fX12_program_107, if_pos (show (5 : Int32) ≤ Int32.ofNat 5 by decide), R_138_43 sE, Option.bind_some, t1, Option.bind_some, R_138_49 sF1, Option.bind_some, t2, Option.bind_some, p_138_37 sF2, Option.bind_some, hF, w1, Option.bind_some]
  · show rd F 140 i = rd h 139 i
    rw [kF 140 i (by omega) (by omega) (by omega), kE 140 i (by decide) (by decide) (by decide), kD 140 i (by omega), kC' 140 i (by simp), b3 i (Nat.zero_le _) hi, rd_wr_ne _ _ (by omega)]
  · rw [fw 10 (by decide) (by decide)]; exact q10
  · rw [fw 15 (by decide) (by decide)]; exact q15
  · rw [fw 21 (by decide) (by decide)]; exact q21
  · rw [fw 23 (by decide) (by decide)]; exact q23
  · rw [fw 25 (by decide) (by decide)]; exact q25
  · rw [fw 44 (by decide) (by decide)]; exact q44
  · rw [fw 53 (by decide) (by decide)]; exact q53
  · rw [kW 138 37 (by decide), ← hF, w_138_37 sF2]; rfl
  · rw [kW 172 0 (by decide), ← hF, rd_wr_ne _ _ (by omega), W_172 sF1]; rfl
  · have k : ∀ a, a = 162 ∨ a = 165 ∨ a = 167 → rd h' a c = rd hE a c := fun a ha => by rw [kW a c (by omega), kF a c (by omega) (by omega) (by omega)]
    rw [k 162 (by simp), k 165 (by simp), k 167 (by simp)]
    exact f3 c (Nat.zero_le _) hc
  · rw [kW 167 5 (by decide), ← hF, rd_wr_ne _ _ (by omega), rd_wr_ne _ _ (by omega), W_167 sE]
  · rw [fw 1 (by decide) (by decide)]; exact q1
  · rw [fw 56 (by decide) (by decide)]; exact q56
  · rw [fw 69 (by decide) (by decide)]; exact q69
  · rw [fw 58 (by decide) (by decide)]; exact q58
  · refine ((((cA.trans cB).trans cC').trans cD).trans (cE.trans cF)).trans (w3.mono (fun a j z => ?_))
    rcases z with z | z | z
    · exact Or.inl ⟨z.1, by have := z.2; simp only [List.mem_cons, List.not_mem_nil, or_false] at this ⊢; omega⟩
    · exact Or.inr (Or.inr (Or.inl z))
    · exact Or.inr (Or.inr (Or.inr (Or.inl z)))
/-- what program() has read: all stands in the tables -/
def Parsed (T : Txt) (cs : List Cl) (h : pH) : Prop := (∃ t n l q s, At3 T t 30 (csM cs) (csP cs) s n l q h ∧ s = csS cs ∧ n = csN cs ∧ l = csL cs) ∧ csR T h cs 5 0 0 0 0 0 ∧ rd h 138 37 = Int32.ofNat (5 + cs.length) ∧ rd h 172 (csM cs) = Int32.ofNat (csP cs) ∧ 8 ≤ nmM h ∧ (∀ k, k < 8 → nmR h k = knW k) ∧ (∀ c, c < 5 → rd h 162 c = Int32.ofNat c ∧ rd h 165 c = -1 ∧ rd h 167 c = 0) ∧ rd h 167 5 = 0 ∧ 9 * cs.length ≤ 3000
/-- what reading a text changes in the reference -/
def rdA : Nat → Nat → Prop := fun a k => bgA a k ∨ PM 5 0 0 0 0 0 0 a k ∨ (a = 138 ∧ k = 37)
theorem e12_parse {N L : Nat} {h : pH} (hN : 3200 ≤ N) (hs : Sg h) (e1 : rd h 138 1 = Int32.ofNat L) (hL : L ≤ 3000) (hK : ∀ j, j < 36 → rd h 143 j = knB j) : ∃ T : Txt, T.2 = L ∧ (∀ i, i < L → T.1 i = rd h 139 i) ∧
    match (tkS T).prog with
    | Sum.inl (cs, _) => ∃ h' k', fX12_program N 138 h = fX12_program_164 N (k' + 1) 138 0 h' ∧ Parsed T cs h' ∧ rd h' 138 9 = -1 ∧ rd h' 138 3 = Int32.ofNat L ∧ rd h' 138 1 = 0 ∧ rd h' 138 56 = 0 ∧ rd h' 138 69 = 0 ∧ rd h' 138 58 = -1 ∧ Chg rdA h h'
    | Sum.inr w => ∃ h', fX12_program N 138 h = some (-1 - Int32.ofNat w, h') ∧ w ≤ 3000 ∧ rd h' 138 1 = 0 ∧ rd h' 138 56 = 0 ∧ rd h' 138 69 = 0 ∧ Chg rdA h h' := by
  obtain ⟨T, h1, b1, b2, b3, a1, e37, e172, n8, r8, c5, c55, z1, z56, z69, z58, ch⟩ := e12_begin hN hs e1 hL hK
  refine ⟨T, b2, b3, ?_⟩
  have lp := clss_loop (T := T) (N := N) (q := 0) hN (T.2 + 1) N 0 5 0 0 0 0 0 h1 (by omega) (Nat.zero_le _) (by omega) (Nat.le_refl _) (Nat.zero_le _) a1 e37 e172
  have hp : (tkS T).prog = (tkS T).clss (T.2 + 1) 0 := rfl
  have keep : ∀ {h' : pH}, FrC 5 0 0 0 0 0 0 h1 h' → ∀ j, j = 1 ∨ j = 56 ∨ j = 69 ∨ j = 58 → rd h' 138 j = rd h1 138 j := by
    intro h' f j hj
    refine f.1.2.2.1 _ _ (fun z => ?_)
    rcases z with (((z | z | z | z | z) | z | z) | (z | z | z | z | z)) | z
    · rcases z with z | z | z
      · have := z.2
        simp only [List.mem_cons, List.not_mem_nil, or_false] at this
        omega
      · omega
      · omega
    all_goals omega
  have chF : ∀ {h' : pH}, FrC 5 0 0 0 0 0 0 h1 h' → Chg rdA h h' := fun f => (ch.mono (fun a k z => Or.inl z)).trans (f.1.mono (fun a k z => z.elim (fun z => Or.inr (Or.inl z)) (fun z => Or.inr (Or.inr z))))
  rw [hp, b1]
  rcases hq : (tkS T).clss (T.2 + 1) 0 with ⟨cs, t'⟩ | w
  · rw [hq] at lp
    obtain ⟨h', k', r1, r2, r3, r4, r5, r6, r7, r8'⟩ := lp
    have g : ∀ a c, (a = 162 ∧ c < 5) ∨ (a = 167 ∧ c ≤ 5) → rd h' a c = rd h1 a c := fun a c ha => r6.rdM (by omega)
    have g165 : ∀ c, rd h' 165 c = rd h1 165 c := fun c => r6.1.2.2.1 _ _ (fun z => by
      rcases z with (((z | z | z | z | z) | z | z) | (z | z | z | z | z)) | z
      · rcases z with z | z | z <;> omega
      all_goals omega)
    have rp := r2.1.1.1
    have hP := r2.1.1.P_le
    have hPt := (tkP_le T t').1
    refine ⟨h', k', r1, ⟨⟨t', _, _, _, _, by rw [Nat.zero_add, Nat.zero_add] at r2; exact r2, Nat.zero_add _, Nat.zero_add _, Nat.zero_add _⟩, r3, r4, by rw [Nat.zero_add, Nat.zero_add] at r5; exact r5, Nat.le_trans n8 r6.2.1, fun k hk => (r6.2.2 k (by omega)).trans (r8 k hk), fun c hc => ?_, by rw [g 167 5 (by omega)]; exact c55, by omega⟩, rp.2.2.2.2.2.2.2.2.2.2, by rw [← b2, ← rp.2.2.1]; exact rp.1.2.1, by rw [keep r6 1 (by simp)]; exact z1, by rw [keep r6 56 (by simp)]; exact z56, by rw [keep r6 69 (by simp)]; exact z69, by rw [keep r6 58 (by simp)]; exact z58, chF r6⟩
    rw [g 162 c (by omega), g 167 c (by omega), g165]
    exact c5 c hc
  · rw [hq] at lp
    obtain ⟨h', k', n', l', q', r1, r2, r3⟩ := lp
    have hw := r2.1.2.1
    refine ⟨h', ?_, hw, by rw [keep r3 1 (by simp)]; exact z1, by rw [keep r3 56 (by simp)]; exact z56, by rw [keep r3 69 (by simp)]; exact z69, chF r3⟩
    rw [r1, fX12_program_164, if_pos rfl, g_138_9 r2.sg, Option.bind_some, r2.1.2.2.1, if_neg (fun z => by
      have z : Int32.ofNat w < Int32.ofNat 0 := z
      rw [iLt (by omega) (by decide)] at z
      omega), Option.bind_some]
