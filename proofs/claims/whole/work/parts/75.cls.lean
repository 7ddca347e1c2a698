/-! ===== CLASSES AND THE WHOLE TEXT, AS THE REFERENCE READS THEM ===== -/
def msP : List Mb → Nat
  | [] => 0
  | b :: r => mbP b + msP r
def msS : List Mb → Nat
  | [] => 0
  | b :: r => stB (mbB b) + msS r
def msN : List Mb → Nat
  | [] => 0
  | b :: r => szB (mbB b) + msN r
def msL : List Mb → Nat
  | [] => 0
  | b :: r => lsB (mbB b) + msL r
def msQ (T : Txt) (h : pH) : List Mb → Nat → Nat → Nat → Nat → Nat → Prop
  | [], _, _, _, _, _ => True
  | b :: r, m, p, s, n, l => mbR T h b m p s n l ∧ msQ T h r (m + 1) (p + mbP b) (s + stB (mbB b)) (n + szB (mbB b)) (l + lsB (mbB b))
theorem msQ.keep {T : Txt} {h h' : pH} : ∀ (ms : List Mb) (m p s n l m' p' s' n' l' : Nat), m + ms.length ≤ m' → p + msP ms ≤ p' → s + msS ms ≤ s' → n + msN ms ≤ n' → l + msL ms ≤ l' → KM m' p' s' n' l' h h' → msQ T h ms m p s n l → msQ T h' ms m p s n l
  | [], _, _, _, _, _, _, _, _, _, _, _, _, _, _, _, _, _ => trivial
  | b :: r, m, p, s, n, l, m', p', s', n', l', h1, h2, h3, h4, h5, f, ⟨q1, q2⟩ => by
    rw [List.length_cons] at h1
    rw [show msP (b :: r) = mbP b + msP r from rfl] at h2
    rw [show msS (b :: r) = stB (mbB b) + msS r from rfl] at h3
    rw [show msN (b :: r) = szB (mbB b) + msN r from rfl] at h4
    rw [show msL (b :: r) = lsB (mbB b) + msL r from rfl] at h5
    exact ⟨q1.keep (f.sub (by omega) (by omega) (by omega) (by omega) (by omega)), msQ.keep r _ _ _ _ _ m' p' s' n' l' (by omega) (by omega) (by omega) (by omega) (by omega) f q2⟩
theorem mems_loop {T : Txt} {N r c q : Nat} (hN : 3200 ≤ N) : ∀ (f k t m p s n l : Nat) (h : pH), T.2 < t + f → t ≤ T.2 → f < k → At3 T t r m p s n l q h → rd h 172 m = Int32.ofNat p →
    match (tkS T).mems r f t with
    | Sum.inl (ms, t') => ∃ h', fX12_readClass_79 N k 138 h = fX12_readClass_102 N 138 h' ∧ At3 T t' r (m + ms.length) (p + msP ms) (s + msS ms) (n + msN ms) (l + msL ms) q h' ∧ msQ T h' ms m p s n l ∧ rd h' 172 (m + ms.length) = Int32.ofNat (p + msP ms) ∧ FrM c m p s n l q h h' ∧ rd h' 138 37 = rd h 138 37 ∧ tkK T t' = 125 ∧ tkP T t ≤ tkP T t'
    | Sum.inr w => ∃ h' n' l' q', fX12_readClass_79 N k 138 h = fX12_readClass_102 N 138 h' ∧ Er w n' l' q' h' ∧ FrM c m p s n l q h h' ∧ n ≤ n' ∧ l ≤ l' ∧ q ≤ q'
  | 0, k, t, m, p, s, n, l, h, hf, ht, hk, a, e172 => by omega
  | f + 1, k + 1, t, m, p, s, n, l, h, hf, ht, hk, a, e172 => by
    have aa := a.1.1
    have hs := aa.sg
    have e9 := aa.1.2.2.2.2.2.2.2.2.2.2
    have spec : (tkS T).mems r (f + 1) t = if tkK T t = 125 then ok [] t else Pr.bind ((tkS T).mem r t) fun a t' => Pr.bind ((tkS T).mems r f t') fun b t'' => ok (a :: b) t'' := rfl
    rw [spec, fX12_readClass_79, g_138_9 hs, Option.bind_some, e9, if_neg (show ¬ (0 : Int32) ≤ -1 by decide), r_isSign aa.1 (k := 125) (by unfold isSK isSgn; simp) (by decide), Option.bind_some]
    dsimp only
    by_cases k125 : tkK T t = 125
    · rw [if_pos k125, if_pos k125, if_neg (show ¬ (1 : Int32) = 0 by decide)]
      exact ⟨h, rfl, a, trivial, e172, FrM.refl _ _ _ _ _ _ _ _, rfl, k125, Nat.le_refl _⟩
    · rw [if_neg k125, if_neg k125, if_pos rfl]
      have mp := member_post (c := c) hN a
      rcases hq : (tkS T).mem r t with ⟨b, t1⟩ | w
      · rw [hq] at mp
        obtain ⟨h1, e1, a1, mb, e172', f1, e37, b1⟩ := mp
        have hadv : t < t1 ∧ t1 ≤ T.2 := Tks.mem_adv (tkS T) r _ _ _ hq
        rw [e1, Option.bind_some, Pr.bind_ok]
        have ih := mems_loop (c := c) hN f k t1 (m + 1) (p + mbP b) (s + stB (mbB b)) (n + szB (mbB b)) (l + lsB (mbB b)) h1 (by omega) (by omega) (by omega) a1 e172'
        rcases hq2 : (tkS T).mems r f t1 with ⟨ms, t2⟩ | w
        · rw [hq2] at ih
          obtain ⟨h', r1, r2, r3, r4, r5, r6, r7, r8⟩ := ih
          rw [Pr.bind_ok]
          have e1' : m + (b :: ms).length = m + 1 + ms.length := by rw [List.length_cons]; omega
          have e2' : p + msP (b :: ms) = p + mbP b + msP ms := by show p + (mbP b + msP ms) = _; omega
          have e3' : s + msS (b :: ms) = s + stB (mbB b) + msS ms := by show s + (stB (mbB b) + msS ms) = _; omega
          have e4' : n + msN (b :: ms) = n + szB (mbB b) + msN ms := by show n + (szB (mbB b) + msN ms) = _; omega
          have e5' : l + msL (b :: ms) = l + lsB (mbB b) + msL ms := by show l + (lsB (mbB b) + msL ms) = _; omega
          refine ⟨h', r1, by rw [e1', e2', e3', e4', e5']; exact r2, ⟨mb.keep r5.km, r3⟩, by rw [e1', e2']; exact r4, f1.trans (r5.mono (Nat.le_refl _) (by omega) (by omega) (by omega) (by omega) (by omega) (Nat.le_refl _)), r6.trans e37, r7, by omega⟩
        · rw [hq2] at ih
          obtain ⟨h', n', l', q', r1, r2, r3, z1, z2, z3⟩ := ih
          rw [Pr.bind_no]
          exact ⟨h', n', l', q', r1, r2, f1.trans (r3.mono (Nat.le_refl _) (by omega) (by omega) (by omega) (by omega) (by omega) (Nat.le_refl _)), by omega, by omega, z3⟩
      · rw [hq] at mp
        obtain ⟨h1, n', l', q', e1, a1, f1, z1, z2, z3⟩ := mp
        obtain ⟨k', rfl⟩ : ∃ k', k = k' + 1 := ⟨k - 1, by omega⟩
        rw [e1, Option.bind_some, Pr.bind_no, fX12_readClass_79, g_138_9 a1.sg, Option.bind_some, a1.1.2.2.1, if_pos (i_nonneg (by have := a1.1.2.1; omega))]
        exact ⟨h1, n', l', q', rfl, a1, f1, z1, z2, z3⟩
/-- besides, the count of what the text tells -/
def FrC (c m p s n l q : Nat) (h h' : pH) : Prop := Chg (fun a k => PM c m p s n l q a k ∨ (a = 138 ∧ k = 37)) h h' ∧ NmLe h h'
theorem FrC.refl (c m p s n l q : Nat) (h : pH) : FrC c m p s n l q h h := ⟨Chg.refl _ _, NmLe.refl _⟩
theorem FrC.trans {c m p s n l q : Nat} {h h1 h2 : pH} (a : FrC c m p s n l q h h1) (b : FrC c m p s n l q h1 h2) : FrC c m p s n l q h h2 := ⟨a.1.trans b.1, a.2.trans b.2⟩
theorem FrM.toC {c m p s n l q : Nat} {h h' : pH} (f : FrM c m p s n l q h h') : FrC c m p s n l q h h' := ⟨f.1.mono (fun _ _ z => Or.inl z), f.2⟩
theorem FrC.mono {c m p s n l q c' m' p' s' n' l' q' : Nat} {h h' : pH} (a : FrC c' m' p' s' n' l' q' h h') (g1 : c ≤ c') (g2 : m ≤ m') (g3 : p ≤ p') (g4 : s ≤ s') (g5 : n ≤ n') (g6 : l ≤ l') (g7 : q ≤ q') : FrC c m p s n l q h h' := ⟨a.1.mono (fun _ _ z => z.imp (fun z => z.imp (fun z => z.mono g4 g5 g6 g7) (fun z => z.mono g1 g2 g3)) (fun z => z)), a.2⟩
theorem FrC.rdM {c m p s n l q : Nat} {h h' : pH} (f : FrC c m p s n l q h h') {a k : Nat} (ha : ((168 ≤ a ∧ a ≤ 174) ∧ k < m) ∨ ((a = 176 ∨ a = 177) ∧ k < p) ∨ ((162 ≤ a ∧ a ≤ 164) ∧ k < c) ∨ (a = 167 ∧ k ≤ c) ∨ ((151 ≤ a ∧ a ≤ 161) ∧ k < s) ∨ ((144 ≤ a ∧ a ≤ 148) ∧ k < n) ∨ (a = 149 ∧ k < l)) : rd h' a k = rd h a k := by
  refine f.1.2.2.1 _ _ (fun z => ?_)
  rcases z with (((z | z | z | z | z) | z | z) | (z | z | z | z | z)) | z
  · rcases z with z | z | z <;> omega
  all_goals omega
theorem FrC.km {c m p s n l q : Nat} {h h' : pH} (f : FrC c m p s n l q h h') : KM m p s n l h h' := ⟨fun a k h1 h2 h3 => f.rdM (Or.inl ⟨⟨h1, h2⟩, h3⟩), fun a k h1 h2 => f.rdM (Or.inr (Or.inl ⟨h1, h2⟩)), fun a k h1 h2 _ h4 => f.rdM (Or.inr (Or.inr (Or.inr (Or.inr (Or.inl ⟨⟨h1, h2⟩, h4⟩))))), fun a k h1 h2 _ h4 => f.rdM (Or.inr (Or.inr (Or.inr (Or.inr (Or.inr (Or.inl ⟨⟨h1, h2⟩, h4⟩)))))), fun k _ h4 => f.rdM (Or.inr (Or.inr (Or.inr (Or.inr (Or.inr (Or.inr ⟨rfl, h4⟩)))))), f.2⟩
theorem c37 {c m p s n l q : Nat} (g : pH) (x : Int32) : FrC c m p s n l q g (wr g 138 37 x) := by
  have c1 : Chg (Fl [37]) g (wr g 138 37 x) := Chg.wr _ _ _ _ ⟨rfl, by simp⟩
  exact ⟨c1.mono (fun a k z => Or.inr ⟨z.1, List.mem_singleton.mp z.2⟩), NmLe_of c1 (Fl_ne (Or.inr (by decide))) fl_rest⟩
theorem At.c37 {T : Txt} {t r n l q : Nat} {g : pH} (a : At T t r n l q g) (x : Int32) : At T t r n l q (wr g 138 37 x) := by
  have c1 : Chg (Fl [37]) g (wr g 138 37 x) := Chg.wr _ _ _ _ ⟨rfl, by simp⟩
  exact a.chg c1 ⟨fun k hk => Fl_ne (Or.inr (fun z => by rw [List.mem_singleton.mp z] at hk; exact absurd hk (by decide))), fl_rest⟩ (fun k hk => Fl_ne (Or.inr (fun z => by rw [List.mem_singleton.mp z] at hk; exact absurd hk (by decide))))
theorem Er.c37 {w n l q : Nat} {g : pH} (a : Er w n l q g) (x : Int32) : Er w n l q (wr g 138 37 x) := by
  have c1 : Chg (Fl [37]) g (wr g 138 37 x) := Chg.wr _ _ _ _ ⟨rfl, by simp⟩
  exact a.chg c1 (fun k hk => Fl_ne (Or.inr (fun z => by rw [List.mem_singleton.mp z] at hk; exact absurd hk (by decide))))
/-- one of the text's in the tables -/
def clR (T : Txt) (h : pH) (x : Cl) (c m p s n l : Nat) : Prop := NmIs T h x.1 (rd h 162 c) ∧ rd h 163 c = Int32.ofNat x.2.1 ∧ (match x.2.2.1 with
  | none => rd h 164 c = -1
  | some w => NmIs T h w (rd h 164 c)) ∧ rd h 167 (c + 1) = Int32.ofNat (m + x.2.2.2.length) ∧ msQ T h x.2.2.2 m p s n l
def PostC (T : Txt) (x : Pr Cl) (t r c m p s n l q : Nat) (h : pH) (res : Option pH) : Prop := match x with
  | Sum.inl (x, t') => ∃ h', res = some h' ∧ At3 T t' r (m + x.2.2.2.length) (p + msP x.2.2.2) (s + msS x.2.2.2) (n + msN x.2.2.2) (l + msL x.2.2.2) q h' ∧ clR T h' x c m p s n l ∧ rd h' 172 (m + x.2.2.2.length) = Int32.ofNat (p + msP x.2.2.2) ∧ rd h' 138 37 = Int32.ofNat (c + 1) ∧ FrC c m p s n l q h h' ∧ tkP T t + 3 ≤ tkP T t'
  | Sum.inr w => ∃ h' n' l' q', res = some h' ∧ Er w n' l' q' h' ∧ FrC c m p s n l q h h'
theorem mA_c {c m p a k : Nat} (ha : 162 ≤ a ∧ a ≤ 164) (hk : c ≤ k) : mA c m p a k := Or.inr (Or.inl ⟨ha, hk⟩)
/-- from its { on -/
theorem cls55_post {T : Txt} {N t t0 c m p s n l q w pl : Nat} {o : Option Nat} {h g : pH} (hN : 3200 ≤ N) (a : At3 T t 30 m p s n l q g) (e37 : rd g 138 37 = Int32.ofNat c) (e172 : rd g 172 m = Int32.ofNat p) (hc : c < 350) (r1 : NmIs T g w (rd g 162 c)) (r2 : rd g 163 c = Int32.ofNat pl) (r3 : match o with
    | none => rd g 164 c = -1
    | some w => NmIs T g w (rd g 164 c)) (f : FrC c m p s n l q h g) (ht : tkP T t0 + 1 ≤ tkP T t) : PostC T ((tkS T).clsB w pl o t) t0 30 c m p s n l q h (fX12_readClass_55 N 138 g) := by
  have aa := a.1.1
  have hs := aa.sg
  have hP := aa.P_le
  have a1 := aa.c37 (Int32.ofNat (c + 1))
  have spec : (tkS T).clsB w pl o t = if tkK T t ≠ 123 then no (tkP T t) else Pr.bind ((tkS T).mems 29 (T.2 - t) (t + 1)) fun m t' => ok (w, pl, o, m) (t' + 1) := rfl
  rw [spec]
  unfold fX12_readClass_55
  rw [g_138_37 hs, Option.bind_some, e37, i_add1, p_138_37 hs, Option.bind_some, r_isSign a1.1 (k := 123) (by unfold isSK isSgn; simp) (by decide), Option.bind_some]
  dsimp only
  have f1 : FrC c m p s n l q h (wr g 138 37 (Int32.ofNat (c + 1))) := f.trans (c37 g _)
  by_cases k123 : tkK T t = 123
  · obtain ⟨h2, e2, a2, f2⟩ := At.opens1 (N := N) (r := 29) (g := 1) a1 (by decide) hN (by rw [k123]; decide) (by rw [k123]; decide)
    have hm2 := tk_mono T t (by rw [k123]; decide)
    have hlt : t < T.2 := Tks.lt_of (S := tkS T) (t := t) (by show tkK T t ≠ 0; rw [k123]; decide)
    have keep : ∀ b j, (b = 138 ∧ (j = 44 ∨ j = 53)) ∨ (162 ≤ b ∧ b ≤ 177) → rd h2 b j = rd g b j := fun b j hb => by rw [f2.keepM (by omega), rd_wr_ne _ _ (by omega)]
    have a3 : At3 T (t + 1) 29 m p s n l q h2 := ⟨⟨a2, by rw [f2.f25, rd_wr_ne _ _ (by omega)]; exact a.1.2.1, by have := a.1.2.2; omega⟩, by rw [keep 138 44 (by omega)]; exact a.2.1, by rw [keep 138 53 (by omega)]; exact a.2.2.1, by have := a.2.2.2.1; omega, by have := a.2.2.2.2; omega⟩
    have lp := mems_loop (T := T) (c := c + 1) hN (T.2 - t) N (t + 1) m p s n l h2 (by omega) (by omega) (by omega) a3 (by rw [keep 172 m (by omega)]; exact e172)
    have f12 : FrC c m p s n l q h h2 := f1.trans f2.toS.toM.toC
    rw [if_pos k123, if_neg (show ¬ tkK T t ≠ 123 from fun z => z k123), e2, Option.bind_some]
    dsimp only
    rw [if_neg (show ¬ (1 : Int32) = 0 by decide)]
    rcases hq : (tkS T).mems 29 (T.2 - t) (t + 1) with ⟨ms, t'⟩ | w'
    · rw [hq] at lp
      obtain ⟨h4, e4, a4, mq, e1724, f4, e374, k125, d1⟩ := lp
      rw [e4, Pr.bind_ok]
      obtain ⟨h5, e5, a5, f5⟩ := a4.1.1.closes1 (N := N) (k := 125) (c := 125) (by omega) (by unfold isSK isSgn; simp) (by decide) hN k125
      have hm5 := tk_mono T t' (by rw [k125]; decide)
      have e375 : rd h5 138 37 = Int32.ofNat (c + 1) := by rw [f5.keepM (by omega), e374, f2.keepM (by omega), w_138_37 hs]
      have e445 : rd h5 138 44 = Int32.ofNat (m + ms.length) := by rw [f5.keepM (by omega)]; exact a4.2.1
      have c6 : Chg (mA c m p) h5 (wr h5 167 (c + 1) (Int32.ofNat (m + ms.length))) := Chg.wr _ _ _ _ (Or.inr (Or.inr (Or.inl ⟨rfl, by omega⟩)))
      have a6 := a5.ma c6
      have n46 : NmLe h4 (wr h5 167 (c + 1) (Int32.ofNat (m + ms.length))) := f5.2.trans (mA_nm c6)
      have row : ∀ b, 162 ≤ b → b ≤ 164 → rd (wr h5 167 (c + 1) (Int32.ofNat (m + ms.length))) b c = rd g b c := fun b h1 h2' => by rw [rd_wr_ne _ _ (by omega), f5.keepM (by omega), f4.rdM (Or.inr (Or.inr (Or.inl ⟨⟨h1, h2'⟩, by omega⟩))), keep b c (by omega)]
      have nF : NmLe g (wr h5 167 (c + 1) (Int32.ofNat (m + ms.length))) := (c37 (c := 0) (m := 0) (p := 0) (s := 0) (n := 0) (l := 0) (q := 0) g (Int32.ofNat (c + 1))).2.trans (f2.2.trans (f4.2.trans n46))
      have keep6 : ∀ b j, (b = 138 ∧ (j = 44 ∨ j = 53)) ∨ b = 172 → rd (wr h5 167 (c + 1) (Int32.ofNat (m + ms.length))) b j = rd h4 b j := fun b j hb => by rw [rd_wr_ne _ _ (by omega), f5.keepM (by omega)]
      refine ⟨_, ?_, ⟨⟨a6, ?_, ?_⟩, ?_, ?_, ?_, ?_⟩, ⟨?_, ?_, ?_, W_167 a5.sg _ _, ?_⟩, ?_, ?_, f12.trans ((f4.mono (by omega) (Nat.le_refl _) (Nat.le_refl _) (Nat.le_refl _) (Nat.le_refl _) (Nat.le_refl _) (Nat.le_refl _)).trans ((f5.toS.toM (s := s) (c := c) (m := m) (p := p) |>.mono (Nat.le_refl _) (Nat.le_refl _) (Nat.le_refl _) (Nat.le_refl _) (by omega) (by omega) (Nat.le_refl _)).trans (mA_frM c6))).toC, ?_⟩
      · unfold fX12_readClass_102
        rw [e5, Option.bind_some, R_138_43 a5.sg, Option.bind_some, g_138_37 a5.sg, Option.bind_some, e375, g_138_44 a5.sg, Option.bind_some, e445, T_167 a5.sg (by omega), Option.bind_some]
      · rw [rd_wr_ne _ _ (by omega), f5.f25]; exact a4.1.2.1
      · have := a4.1.2.2; show 2 * (s + msS ms) ≤ _; omega
      · rw [keep6 138 44 (by omega)]; exact a4.2.1
      · rw [keep6 138 53 (by omega)]; exact a4.2.2.1
      · have := a4.2.2.2.1; show 4 * (m + ms.length) ≤ _; omega
      · have := a4.2.2.2.2; show 4 * (p + msP ms) ≤ _; omega
      · rw [row 162 (by decide) (by decide)]; exact r1.le nF
      · rw [row 163 (by decide) (by decide)]; exact r2
      · cases o with
        | none => exact (row 164 (by decide) (by decide)).trans r3
        | some w2 =>
          show NmIs T _ w2 (rd _ 164 c)
          rw [row 164 (by decide) (by decide)]
          exact NmIs.le r3 nF
      · have f56 : FrM c (m + ms.length) (p + msP ms) (s + msS ms) (n + msN ms) (l + msL ms) q h4 (wr h5 167 (c + 1) (Int32.ofNat (m + ms.length))) := f5.toS.toM.trans ⟨(Chg.wr h5 167 (c + 1) (Int32.ofNat (m + ms.length)) (Or.inr (Or.inr (Or.inr (Or.inl ⟨rfl, by omega⟩))))), mA_nm c6⟩
        exact msQ.keep ms m p s n l _ _ _ _ _ (Nat.le_refl _) (Nat.le_refl _) (Nat.le_refl _) (Nat.le_refl _) (Nat.le_refl _) f56.km mq
      · rw [keep6 172 _ (by omega)]; exact e1724
      · rw [rd_wr_ne _ _ (by omega)]; exact e375
      · omega
    · rw [hq] at lp
      obtain ⟨h4, n', l', q', e4, a4, f4, z1, z2, z3⟩ := lp
      rw [e4, Pr.bind_no]
      obtain ⟨h5, e5, a5, f5⟩ := a4.closes (N := N) 125
      have e375 : rd h5 138 37 = Int32.ofNat (c + 1) := by rw [f5.keepM (by omega), f4.f37, f2.keepM (by omega), w_138_37 hs]
      have c6 : Chg (mA c m p) h5 (wr h5 167 (c + 1) (rd h5 138 44)) := Chg.wr _ _ _ _ (Or.inr (Or.inr (Or.inl ⟨rfl, by omega⟩)))
      refine ⟨_, n', l', q', ?_, a5.ma c6, f12.trans (((f4.mono (by omega) (Nat.le_refl _) (Nat.le_refl _) (Nat.le_refl _) (Nat.le_refl _) (Nat.le_refl _) (Nat.le_refl _)).trans ((f5.toS.toM (s := s) (c := c) (m := m) (p := p)).mono (Nat.le_refl _) (Nat.le_refl _) (Nat.le_refl _) (Nat.le_refl _) z1 z2 z3)).trans (mA_frM c6)).toC⟩
      unfold fX12_readClass_102
      rw [e5, Option.bind_some, R_138_43 a5.sg, Option.bind_some, g_138_37 a5.sg, Option.bind_some, e375, g_138_44 a5.sg, Option.bind_some, T_167 a5.sg (by omega), Option.bind_some]
  · obtain ⟨h2, e2, a2, f2⟩ := a1.opens0 (N := N) 0 (Or.inl rfl)
    rw [if_neg k123, if_pos k123, e2, Option.bind_some]
    dsimp only
    rw [if_pos rfl]
    exact ⟨h2, n, l, q, rfl, a2, f1.trans f2.toS.toM.toC⟩
