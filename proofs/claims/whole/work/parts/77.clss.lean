def csM : List Cl → Nat
  | [] => 0
  | x :: r => x.2.2.2.length + csM r
def csP : List Cl → Nat
  | [] => 0
  | x :: r => msP x.2.2.2 + csP r
def csS : List Cl → Nat
  | [] => 0
  | x :: r => msS x.2.2.2 + csS r
def csN : List Cl → Nat
  | [] => 0
  | x :: r => msN x.2.2.2 + csN r
def csL : List Cl → Nat
  | [] => 0
  | x :: r => msL x.2.2.2 + csL r
/-- all of the text's in the tables -/
def csR (T : Txt) (h : pH) : List Cl → Nat → Nat → Nat → Nat → Nat → Nat → Prop
  | [], _, _, _, _, _, _ => True
  | x :: r, c, m, p, s, n, l => clR T h x c m p s n l ∧ csR T h r (c + 1) (m + x.2.2.2.length) (p + msP x.2.2.2) (s + msS x.2.2.2) (n + msN x.2.2.2) (l + msL x.2.2.2)
theorem clR.keep {T : Txt} {h h' : pH} {x : Cl} {c m p s n l q : Nat} (hq : clR T h x c m p s n l) (f : FrC (c + 1) (m + x.2.2.2.length) (p + msP x.2.2.2) (s + msS x.2.2.2) (n + msN x.2.2.2) (l + msL x.2.2.2) q h h') : clR T h' x c m p s n l := by
  obtain ⟨q1, q2, q3, q4, q5⟩ := hq
  have g : ∀ a, 162 ≤ a → a ≤ 164 → rd h' a c = rd h a c := fun a h1 h2 => f.rdM (Or.inr (Or.inr (Or.inl ⟨⟨h1, h2⟩, by omega⟩)))
  refine ⟨by rw [g 162 (by decide) (by decide)]; exact q1.le f.2, by rw [g 163 (by decide) (by decide)]; exact q2, ?_, by rw [f.rdM (a := 167) (k := c + 1) (Or.inr (Or.inr (Or.inr (Or.inl ⟨rfl, Nat.le_refl _⟩))))]; exact q4, msQ.keep _ _ _ _ _ _ _ _ _ _ _ (Nat.le_refl _) (Nat.le_refl _) (Nat.le_refl _) (Nat.le_refl _) (Nat.le_refl _) f.km q5⟩
  revert q3
  cases x.2.2.1 with
  | none => intro q3; exact (g 164 (by decide) (by decide)).trans q3
  | some w =>
    intro q3
    show NmIs T h' w (rd h' 164 c)
    rw [g 164 (by decide) (by decide)]
    exact NmIs.le q3 f.2
theorem wcode_0 {K : Int32} (h : wcode K = 0) : K = 0 := by
  unfold wcode at h
  by_cases h0 : K = 0
  · exact h0
  rw [if_neg h0] at h
  exfalso
  revert h
  repeat' split
  all_goals decide
theorem clss_loop {T : Txt} {N q : Nat} (hN : 3200 ≤ N) : ∀ (f k t c m p s n l : Nat) (h : pH), T.2 < t + f → t ≤ T.2 → f < k → 5 ≤ c → 9 * (c - 5) ≤ tkP T t → At3 T t 30 m p s n l q h → rd h 138 37 = Int32.ofNat c → rd h 172 m = Int32.ofNat p →
    match (tkS T).clss f t with
    | Sum.inl (cs, t') => ∃ h' k', fX12_program_164 N k 138 1 h = fX12_program_164 N (k' + 1) 138 0 h' ∧ At3 T t' 30 (m + csM cs) (p + csP cs) (s + csS cs) (n + csN cs) (l + csL cs) q h' ∧ csR T h' cs c m p s n l ∧ rd h' 138 37 = Int32.ofNat (c + cs.length) ∧ rd h' 172 (m + csM cs) = Int32.ofNat (p + csP cs) ∧ FrC c m p s n l q h h' ∧ tkK T t' = 0 ∧ 9 * (c + cs.length - 5) ≤ tkP T t'
    | Sum.inr w => ∃ h' k' n' l' q', fX12_program_164 N k 138 1 h = fX12_program_164 N (k' + 1) 138 0 h' ∧ Er w n' l' q' h' ∧ FrC c m p s n l q h h'
  | 0, k, t, c, m, p, s, n, l, h, hf, ht, hk, hc5, hc9, a, e37, e172 => by omega
  | f + 1, k + 1, t, c, m, p, s, n, l, h, hf, ht, hk, hc5, hc9, a, e37, e172 => by
    have aa := a.1.1
    have hs := aa.sg
    have hP := aa.P_le
    have b25 := a.1.2.2
    have b4 := a.2.2.2
    obtain ⟨k0, rfl⟩ : ∃ k0, k = k0 + 1 := ⟨k - 1, by omega⟩
    have spec : (tkS T).clss (f + 1) t = if tkK T t ≠ 1 then no (tkP T t) else Pr.bind ((tkS T).cls (t + 1)) fun c t' => if tkK T t' = 0 then ok [c] t' else Pr.bind ((tkS T).clss f t') fun l t'' => ok (c :: l) t'' := rfl
    rw [spec, fX12_program_164, if_neg (show ¬ (1 : Int32) = 0 by decide)]
    have key : (1 : Int32) = Int32.ofNat 1 := rfl
    rw [show fX12_isKey N 138 1 h = fX12_isKey N 138 (Int32.ofNat 1) h from rfl, r_isKey aa.1 (by decide) (by decide), Option.bind_some]
    dsimp only
    have stop : ∀ w n' l' q' g, Er w n' l' q' g → FrC c m p s n l q h g → ∃ h' k' n' l' q', fX12_program_184 N (fX12_program_164 N (k0 + 1)) 138 g = fX12_program_164 N (k' + 1) 138 0 h' ∧ Er w n' l' q' h' ∧ FrC c m p s n l q h h' := by
      intro w n' l' q' g ag fg
      refine ⟨g, k0, n', l', q', ?_, ag, fg⟩
      unfold fX12_program_184 fX12_program_202 fX12_program_203
      rw [g_138_9 ag.sg, Option.bind_some, ag.1.2.2.1, if_pos (i_nonneg (by have := ag.1.2.1; omega))]
    by_cases k1 : tkK T t = Int32.ofNat 1
    · obtain ⟨h1, e1, a1, f1⟩ := aa.passes1 (N := N) (g := 1) (by decide) hN (by rw [k1]; decide) (by rw [k1]; decide)
      have hm := tk_mono T t (by rw [k1]; decide)
      have hlt : t < T.2 := Tks.lt_of (S := tkS T) (t := t) (by show tkK T t ≠ 0; rw [k1]; decide)
      have a13 : At3 T (t + 1) 30 m p s n l q h1 := ⟨⟨a1, f1.r25 a.1.2.1, by omega⟩, by rw [f1.keepM (by omega)]; exact a.2.1, by rw [f1.keepM (by omega)]; exact a.2.2.1, by omega, by omega⟩
      have cp := cls_post hN a13 (by rw [f1.keepM (by omega)]; exact e37) (by rw [f1.keepM (by omega)]; exact e172) (by omega)
      rw [if_pos k1, if_neg (show ¬ tkK T t ≠ 1 from fun z => z k1), e1, Option.bind_some]
      dsimp only
      rw [if_neg (show ¬ (1 : Int32) = 0 by decide)]
      rcases hq : (tkS T).cls (t + 1) with ⟨x, t1⟩ | w
      · rw [hq] at cp
        obtain ⟨h2, e2, a2, cl, e1722, e372, f2, d1⟩ := cp
        have hadv : t + 1 < t1 ∧ t1 ≤ T.2 := Tks.cls_adv (tkS T) _ _ _ hq
        have k22 : tkK T (t + 1) = 22 := by
          by_cases z : tkK T (t + 1) = 22
          · exact z
          · have e : (tkS T).cls (t + 1) = no (tkP T (t + 1)) := if_pos z
            rw [e] at hq
            cases hq
        have hcls := tk_class k1 k22
        have f12 : FrC c m p s n l q h h2 := f1.toS.toM.toC.trans f2
        obtain ⟨id, hw, hwn⟩ := a2.1.1.1.2.2.2.2.2.2.1
        have e9 := a2.1.1.1.2.2.2.2.2.2.2.2.2.2
        rw [e2, Option.bind_some, Pr.bind_ok]
        unfold fX12_program_184 fX12_program_202 fX12_program_203
        rw [g_138_9 a2.1.1.sg, Option.bind_some, e9, if_neg (show ¬ (0 : Int32) ≤ -1 by decide), g_138_5 a2.1.1.sg, Option.bind_some, hw.code]
        have i1 : c + [x].length = c + 1 := rfl
        by_cases k0' : tkK T t1 = 0
        · rw [if_pos k0', if_pos (show wcode (tkK T t1) = 0 by rw [k0']; decide)]
          refine ⟨h2, k0, rfl, ?_, ⟨cl, trivial⟩, e372, ?_, f12, k0', by rw [i1]; omega⟩
          · show At3 T t1 30 (m + (x.2.2.2.length + 0)) (p + (msP x.2.2.2 + 0)) (s + (msS x.2.2.2 + 0)) (n + (msN x.2.2.2 + 0)) (l + (msL x.2.2.2 + 0)) q h2
            exact a2
          · show rd h2 172 (m + (x.2.2.2.length + 0)) = Int32.ofNat (p + (msP x.2.2.2 + 0))
            exact e1722
        · have hlt1 : t1 < T.2 := Tks.lt_of (S := tkS T) (t := t1) k0'
          rw [if_neg k0', if_neg (fun z => k0' (wcode_0 z))]
          have ih := clss_loop hN f (k0 + 1) t1 (c + 1) (m + x.2.2.2.length) (p + msP x.2.2.2) (s + msS x.2.2.2) (n + msN x.2.2.2) (l + msL x.2.2.2) h2 (by omega) (by omega) (by omega) (by omega) (by omega) a2 e372 e1722
          rcases hq2 : (tkS T).clss f t1 with ⟨cs, t2⟩ | w
          · rw [hq2] at ih
            obtain ⟨h', k', r1, r2, r3, r4, r5, r6, r7, r8⟩ := ih
            rw [Pr.bind_ok]
            have j1 : m + csM (x :: cs) = m + x.2.2.2.length + csM cs := by show m + (x.2.2.2.length + csM cs) = _; omega
            have j2 : p + csP (x :: cs) = p + msP x.2.2.2 + csP cs := by show p + (msP x.2.2.2 + csP cs) = _; omega
            have j3 : s + csS (x :: cs) = s + msS x.2.2.2 + csS cs := by show s + (msS x.2.2.2 + csS cs) = _; omega
            have j4 : n + csN (x :: cs) = n + msN x.2.2.2 + csN cs := by show n + (msN x.2.2.2 + csN cs) = _; omega
            have j5 : l + csL (x :: cs) = l + msL x.2.2.2 + csL cs := by show l + (msL x.2.2.2 + csL cs) = _; omega
            have j6 : c + (x :: cs).length = c + 1 + cs.length := by rw [List.length_cons]; omega
            exact ⟨h', k', r1, by rw [j1, j2, j3, j4, j5]; exact r2, ⟨cl.keep r6, r3⟩, by rw [j6]; exact r4, by rw [j1, j2]; exact r5, f12.trans (r6.mono (by omega) (by omega) (by omega) (by omega) (by omega) (by omega) (Nat.le_refl _)), r7, by rw [j6]; exact r8⟩
          · rw [hq2] at ih
            obtain ⟨h', k', n', l', q', r1, r2, r3⟩ := ih
            rw [Pr.bind_no]
            exact ⟨h', k', n', l', q', r1, r2, f12.trans (r3.mono (by omega) (by omega) (by omega) (by omega) (by omega) (by omega) (Nat.le_refl _))⟩
      · rw [hq] at cp
        obtain ⟨h2, n', l', q', e2, a2, f2⟩ := cp
        rw [e2, Option.bind_some, Pr.bind_no]
        exact stop w n' l' q' h2 a2 (f1.toS.toM.toC.trans f2)
    · obtain ⟨h1, e1, a1, f1⟩ := aa.passes0 (N := N)
      rw [if_neg k1, if_pos (show tkK T t ≠ 1 from k1), e1, Option.bind_some]
      dsimp only
      rw [if_pos rfl]
      exact stop _ n l q h1 a1 f1.toS.toM.toC
