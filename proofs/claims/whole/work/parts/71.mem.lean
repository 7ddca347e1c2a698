/-! ===== MEMBERS ===== -/
/-- places of members, parameters and of what holds them -/
def mA (c m p : Nat) : Nat → Nat → Prop := fun a k => (a = 138 ∧ (k = 44 ∨ k = 53)) ∨ ((162 ≤ a ∧ a ≤ 164) ∧ c ≤ k) ∨ (a = 167 ∧ c < k) ∨ ((168 ≤ a ∧ a ≤ 174) ∧ m ≤ k) ∨ ((a = 176 ∨ a = 177) ∧ p ≤ k)
theorem mA_out (c m p : Nat) : rpOut (mA c m p) := by
  refine ⟨fun k hk z => ?_, fun k => ⟨fun z => ?_, fun z => ?_, fun z => ?_⟩⟩
  · simp only [List.mem_cons, List.not_mem_nil, or_false] at hk
    rcases z with z | z | z | z | z <;> omega
  · rcases z with z | z | z | z | z <;> omega
  · rcases z with z | z | z | z | z <;> omega
  · rcases z with z | z | z | z | z <;> omega
theorem mA_no {c m p k : Nat} (hk : k ≠ 37 ∧ k ≠ 44 ∧ k ≠ 53) : ¬ mA c m p 138 k := fun z => by rcases z with z | z | z | z | z <;> omega
theorem At.ma {T : Txt} {t r n l q c m p : Nat} {h h' : pH} (a : At T t r n l q h) (g : Chg (mA c m p) h h') : At T t r n l q h' := a.chg g (mA_out c m p) (fun k hk => mA_no (by simp only [List.mem_cons, List.not_mem_nil, or_false] at hk; omega))
theorem Er.ma {w n l q c m p : Nat} {h h' : pH} (a : Er w n l q h) (g : Chg (mA c m p) h h') : Er w n l q h' := a.chg g (fun k hk => mA_no (by simp only [List.mem_cons, List.not_mem_nil, or_false] at hk; omega))
theorem mA_nm {c m p : Nat} {h h' : pH} (g : Chg (mA c m p) h h') : NmLe h h' := NmLe_of g (mA_no (by decide)) (mA_out c m p).2
theorem mA_ag {c m p : Nat} {h h' : pH} (g : Chg (mA c m p) h h') (s s' n n' l l' : Nat) : Ag h h' s s' n n' l l' :=
  ⟨fun a k h1 h2 _ _ => g.2.2.1 _ _ (fun z => by rcases z with z | z | z | z | z <;> omega), fun a k h1 h2 _ _ => g.2.2.1 _ _ (fun z => by rcases z with z | z | z | z | z <;> omega), fun k _ _ => g.2.2.1 _ _ (fun z => by rcases z with z | z | z | z | z <;> omega), mA_nm g⟩
/-- what reading members may change -/
def PM (c m p s n l q : Nat) : Nat → Nat → Prop := fun a k => PS s n l q a k ∨ mA c m p a k
def FrM (c m p s n l q : Nat) (h h' : pH) : Prop := Chg (PM c m p s n l q) h h' ∧ NmLe h h'
theorem FrM.refl (c m p s n l q : Nat) (h : pH) : FrM c m p s n l q h h := ⟨Chg.refl _ _, NmLe.refl _⟩
theorem FrM.trans {c m p s n l q : Nat} {h h1 h2 : pH} (a : FrM c m p s n l q h h1) (b : FrM c m p s n l q h1 h2) : FrM c m p s n l q h h2 := ⟨a.1.trans b.1, a.2.trans b.2⟩
theorem mA.mono {c m p c' m' p' a k : Nat} (h : mA c' m' p' a k) (h1 : c ≤ c') (h2 : m ≤ m') (h3 : p ≤ p') : mA c m p a k := by
  rcases h with z | z | z | z | z
  · exact Or.inl z
  · exact Or.inr (Or.inl ⟨z.1, by omega⟩)
  · exact Or.inr (Or.inr (Or.inl ⟨z.1, by omega⟩))
  · exact Or.inr (Or.inr (Or.inr (Or.inl ⟨z.1, by omega⟩)))
  · exact Or.inr (Or.inr (Or.inr (Or.inr ⟨z.1, by omega⟩)))
theorem FrM.mono {c m p s n l q c' m' p' s' n' l' q' : Nat} {h h' : pH} (a : FrM c' m' p' s' n' l' q' h h') (g1 : c ≤ c') (g2 : m ≤ m') (g3 : p ≤ p') (g4 : s ≤ s') (g5 : n ≤ n') (g6 : l ≤ l') (g7 : q ≤ q') : FrM c m p s n l q h h' := ⟨a.1.mono (fun _ _ z => z.imp (fun z => z.mono g4 g5 g6 g7) (fun z => z.mono g1 g2 g3)), a.2⟩
theorem FrS.toM {c m p s n l q : Nat} {h h' : pH} (f : FrS s n l q h h') : FrM c m p s n l q h h' := ⟨f.1.mono (fun _ _ z => Or.inl z), f.2⟩
theorem mA_frM {c m p s n l q : Nat} {h h' : pH} (g : Chg (mA c m p) h h') : FrM c m p s n l q h h' := ⟨g.mono (fun _ _ z => Or.inr z), mA_nm g⟩
theorem FrS.keepM {s n l q : Nat} {h h' : pH} (f : FrS s n l q h h') {a k : Nat} (ha : (a = 138 ∧ (k = 37 ∨ k = 44 ∨ k = 53 ∨ k = 58)) ∨ (162 ≤ a ∧ a ≤ 177)) : rd h' a k = rd h a k := by
  refine f.1.2.2.1 _ _ (fun z => ?_)
  rcases z with (z | z | z | z | z) | z | z
  · rcases z with z | z | z
    · rcases ha with ha | ha
      · have := z.2
        simp only [List.mem_cons, List.not_mem_nil, or_false] at this
        omega
      · omega
    · omega
    · omega
  · omega
  · omega
  · omega
  · omega
  · omega
  · omega
theorem Fr.keepM {n l q : Nat} {h h' : pH} (f : Fr n l q h h') {a k : Nat} (ha : (a = 138 ∧ (k = 37 ∨ k = 44 ∨ k = 53 ∨ k = 58)) ∨ (162 ≤ a ∧ a ≤ 177)) : rd h' a k = rd h a k := (f.toS (s := 0)).keepM ha
/-- the reader among members: m members, p parameters -/
def At3 (T : Txt) (t r m p s n l q : Nat) (h : pH) : Prop := At2 T t r s n l q h ∧ rd h 138 44 = Int32.ofNat m ∧ rd h 138 53 = Int32.ofNat p ∧ 4 * m ≤ tkP T t ∧ 4 * p ≤ tkP T t
/-- one member in the tables -/
def mbR (T : Txt) (h : pH) (b : Mb) (m p s n l : Nat) : Prop := NmIs T h b.2.2.1 (rd h 168 m) ∧ rd h 169 m = Int32.ofNat b.2.2.2.1 ∧ tyR T h b.2.1 (rd h 170 m) ∧ rd h 171 m = (if b.1 = true then 1 else 0) ∧ rd h 172 m = Int32.ofNat p ∧ (∀ i x, b.2.2.2.2.1[i]? = some x → tyR T h x.1 (rd h 176 (p + i)) ∧ NmIs T h x.2 (rd h 177 (p + i))) ∧ (b.1 = true → rd h 173 m = fsB b.2.2.2.2.2.1 s ∧ rd h 174 m = Int32.ofNat b.2.2.2.2.2.2 ∧ RB T h b.2.2.2.2.2.1 none s n l)
abbrev mbP (b : Mb) : Nat := b.2.2.2.2.1.length
abbrev mbB (b : Mb) : Tr := b.2.2.2.2.2.1
/-- members in the tables -/
def msR (T : Txt) (h : pH) : List Mb → Nat → Nat → Nat → Nat → Nat → Prop
  | [], m, p, _, _, _ => rd h 172 m = Int32.ofNat p
  | b :: r, m, p, s, n, l => mbR T h b m p s n l ∧ msR T h r (m + 1) (p + mbP b) (s + stB (mbB b)) (n + szB (mbB b)) (l + lsB (mbB b))
theorem FrM.rdM {c m p s n l q : Nat} {h h' : pH} (f : FrM c m p s n l q h h') {a k : Nat} (ha : ((168 ≤ a ∧ a ≤ 174) ∧ k < m) ∨ ((a = 176 ∨ a = 177) ∧ k < p) ∨ ((162 ≤ a ∧ a ≤ 164) ∧ k < c) ∨ (a = 167 ∧ k ≤ c)) : rd h' a k = rd h a k := by
  refine f.1.2.2.1 _ _ (fun z => ?_)
  rcases z with ((z | z | z | z | z) | z | z) | (z | z | z | z | z)
  · rcases z with z | z | z <;> omega
  all_goals omega
theorem FrM.ag {c m p s n l q : Nat} {h h' : pH} (f : FrM c m p s n l q h h') (s0 n0 l0 : Nat) : Ag h h' s0 s n0 n l0 l := by
  have key : ∀ a k, ((151 ≤ a ∧ a ≤ 161) ∧ k < s) ∨ ((144 ≤ a ∧ a ≤ 148) ∧ k < n) ∨ (a = 149 ∧ k < l) → rd h' a k = rd h a k := by
    intro a k hc
    refine f.1.2.2.1 _ _ (fun z => ?_)
    rcases z with ((z | z | z | z | z) | z | z) | (z | z | z | z | z)
    · rcases z with z | z | z <;> omega
    all_goals omega
  exact ⟨fun a k h1 h2 _ h4 => key a k (Or.inl ⟨⟨h1, h2⟩, h4⟩), fun a k h1 h2 _ h4 => key a k (Or.inr (Or.inl ⟨⟨h1, h2⟩, h4⟩)), fun k _ h4 => key 149 k (Or.inr (Or.inr ⟨rfl, h4⟩)), f.2⟩
/-- agreement on members, parameters, statements, nodes -/
def KM (m p s n l : Nat) (h h' : pH) : Prop := (∀ a k, 168 ≤ a → a ≤ 174 → k < m → rd h' a k = rd h a k) ∧ (∀ a k, (a = 176 ∨ a = 177) → k < p → rd h' a k = rd h a k) ∧ Ag h h' 0 s 0 n 0 l
theorem KM.sub {m p s n l m' p' s' n' l' : Nat} {h h' : pH} (g : KM m' p' s' n' l' h h') (g1 : m ≤ m') (g2 : p ≤ p') (g3 : s ≤ s') (g4 : n ≤ n') (g5 : l ≤ l') : KM m p s n l h h' := ⟨fun a k h1 h2 h3 => g.1 a k h1 h2 (by omega), fun a k h1 h2 => g.2.1 a k h1 (by omega), g.2.2.sub (Nat.le_refl _) g3 (Nat.le_refl _) g4 (Nat.le_refl _) g5⟩
theorem FrM.km {c m p s n l q : Nat} {h h' : pH} (f : FrM c m p s n l q h h') : KM m p s n l h h' := ⟨fun a k h1 h2 h3 => f.rdM (Or.inl ⟨⟨h1, h2⟩, h3⟩), fun a k h1 h2 => f.rdM (Or.inr (Or.inl ⟨h1, h2⟩)), f.ag _ _ _⟩
theorem FrM.f37 {c m p s n l q : Nat} {h h' : pH} (f : FrM c m p s n l q h h') : rd h' 138 37 = rd h 138 37 := by
  refine f.1.2.2.1 _ _ (fun z => ?_)
  rcases z with ((z | z | z | z | z) | z | z) | (z | z | z | z | z)
  · rcases z with z | z | z
    · exact absurd z.2 (by decide)
    · omega
    · omega
  all_goals omega
theorem mbR.keep {T : Txt} {h h' : pH} {b : Mb} {m p s n l : Nat} (hq : mbR T h b m p s n l) (f : KM (m + 1) (p + mbP b) (s + stB (mbB b)) (n + szB (mbB b)) (l + lsB (mbB b)) h h') : mbR T h' b m p s n l := by
  obtain ⟨q1, q2, q3, q4, q5, q6, q7⟩ := hq
  have le := f.2.2.2.2.2
  have g : ∀ a, 168 ≤ a → a ≤ 174 → rd h' a m = rd h a m := fun a h1 h2 => f.1 a m h1 h2 (by omega)
  refine ⟨by rw [g 168 (by decide) (by decide)]; exact q1.le le, by rw [g 169 (by decide) (by decide)]; exact q2, by rw [g 170 (by decide) (by decide)]; exact q3.le le, by rw [g 171 (by decide) (by decide)]; exact q4, by rw [g 172 (by decide) (by decide)]; exact q5, fun i x e => ?_, fun z => ?_⟩
  · have hi : i < mbP b := (List.getElem?_eq_some_iff.mp e).1
    rw [f.2.1 176 (p + i) (by simp) (by omega), f.2.1 177 (p + i) (by simp) (by omega)]
    exact ⟨(q6 i x e).1.le le, (q6 i x e).2.le le⟩
  · obtain ⟨u1, u2, u3⟩ := q7 z
    rw [g 173 (by decide) (by decide), g 174 (by decide) (by decide)]
    exact ⟨u1, u2, RB.keep _ _ _ _ _ (f.2.2.sub (by omega) (Nat.le_refl _) (by omega) (Nat.le_refl _) (by omega) (Nat.le_refl _)) (fun j hj => by cases hj) u3⟩
/-- what follows where all has gone wrong -/
theorem mem92_er {N w n l q c m p : Nat} {v : Int32} {h : pH} (he : Er w n l q h) (e53 : rd h 138 53 = Int32.ofNat p) (hm : m < 800) (hv : v = 0 ∨ v = 1) : ∃ h', fX12_member_92 N 138 (Int32.ofNat m) 171 (Int32.ofNat m) v h = some h' ∧ Er w n l q h' ∧ ∀ s, FrM c m p s n l q h h' := by
  have hs := he.sg
  have c1 : Chg (mA c m p) h (wr h 171 m v) := Chg.wr h _ _ _ (Or.inr (Or.inr (Or.inr (Or.inl ⟨by omega, Nat.le_refl _⟩))))
  have s1 := c1.sg hs
  have c2 : Chg (mA c m p) (wr h 171 m v) (wr (wr h 171 m v) 172 m (Int32.ofNat p)) := Chg.wr _ _ _ _ (Or.inr (Or.inr (Or.inr (Or.inl ⟨by omega, Nat.le_refl _⟩))))
  have s2 := c2.sg s1
  have c3 : Chg (mA c m p) (wr (wr h 171 m v) 172 m (Int32.ofNat p)) (wr (wr (wr h 171 m v) 172 m (Int32.ofNat p)) 172 (m + 1) (Int32.ofNat p)) := Chg.wr _ _ _ _ (Or.inr (Or.inr (Or.inr (Or.inl ⟨by omega, by omega⟩))))
  have s3 := c3.sg s2
  have cc := (c1.trans c2).trans c3
  have a3 := he.ma cc
  obtain ⟨h4, e4, a4, f4⟩ := a3.passes (N := N) 0
  obtain ⟨h5, e5, a5, f5⟩ := a3.opens (N := N) 0
  have ld : ldZ (wr (wr (wr h 171 m v) 172 m (Int32.ofNat p)) 172 (m + 1) (Int32.ofNat p)) 171 (Int32.ofNat m) = some v := by
    rw [L_171 s3 hm, rd_wr_ne _ _ (by omega), rd_wr_ne _ _ (by omega), W_171 hs]
  unfold fX12_member_92
  rw [T_171 hs hm hv, Option.bind_some, R_138_49 s1, Option.bind_some, g_138_53 s1, Option.bind_some, rd_wr_ne _ _ (by omega), e53, T_172 s1 (by omega), Option.bind_some, R_138_49 s2, Option.bind_some, g_138_53 s2, Option.bind_some, rd_wr_ne _ _ (by omega), rd_wr_ne _ _ (by omega), e53, i_add1, T_172 s2 (by omega), Option.bind_some, R_138_48 s3, Option.bind_some, ld, Option.bind_some]
  by_cases v0 : v = 0
  · rw [if_pos v0, e_isSign _ a3.1, Option.bind_some]
    dsimp only
    rw [e4, Option.bind_some]
    exact ⟨h4, rfl, a4, fun s => (mA_frM cc).trans f4.toS.toM⟩
  · rw [if_neg v0, e_isSign _ a3.1, Option.bind_some]
    dsimp only
    rw [e5, Option.bind_some]
    dsimp only
    rw [if_pos rfl]
    exact ⟨h5, rfl, a5, fun s => (mA_frM cc).trans f5.toS.toM⟩
theorem mem39_er {N w n l q c m p : Nat} {v : Int32} {h : pH} (he : Er w n l q h) (e44 : rd h 138 44 = Int32.ofNat m) (e53 : rd h 138 53 = Int32.ofNat p) (hm : m < 800) : ∃ h', fX12_member_39 N 138 (Int32.ofNat m) v h = some h' ∧ Er w n l q h' ∧ ∀ s, FrM c m p s n l q h h' := by
  have hs := he.sg
  have c1 : Chg (mA c m p) h (wr h 169 m (rd h 138 6)) := Chg.wr h _ _ _ (Or.inr (Or.inr (Or.inr (Or.inl ⟨by omega, Nat.le_refl _⟩))))
  have a1 := he.ma c1
  obtain ⟨h2, e2, a2, f2⟩ := a1.name (N := N)
  have c3 : Chg (mA c m p) h2 (wr h2 168 m (-1)) := Chg.wr h2 _ _ _ (Or.inr (Or.inr (Or.inr (Or.inl ⟨by omega, Nat.le_refl _⟩))))
  have a3 := a2.ma c3
  have c4 : Chg (mA c m p) (wr h2 168 m (-1)) (wr (wr h2 168 m (-1)) 138 44 (Int32.ofNat (m + 1))) := Chg.wr _ _ _ _ (Or.inl ⟨rfl, by simp⟩)
  have a4 := a3.ma c4
  have e44' : rd (wr h2 168 m (-1)) 138 44 = Int32.ofNat m := by rw [rd_wr_ne _ _ (by omega), f2.keepM (by omega), rd_wr_ne _ _ (by omega), e44]
  have e53' : rd (wr (wr h2 168 m (-1)) 138 44 (Int32.ofNat (m + 1))) 138 53 = Int32.ofNat p := by rw [rd_wr_ne _ _ (by omega), rd_wr_ne _ _ (by omega), f2.keepM (by omega), rd_wr_ne _ _ (by omega), e53]
  obtain ⟨h5, e5, a5, f5⟩ := mem92_er (N := N) (c := c) (v := 0) a4 e53' hm (Or.inl rfl)
  obtain ⟨h6, e6, a6, f6⟩ := mem92_er (N := N) (c := c) (v := 1) a4 e53' hm (Or.inr rfl)
  have fr : ∀ s, FrM c m p s n l q h (wr (wr h2 168 m (-1)) 138 44 (Int32.ofNat (m + 1))) := fun s => (mA_frM c1).trans (f2.toS.toM.trans (mA_frM (c3.trans c4)))
  unfold fX12_member_39 fX12_member_87
  rw [R_138_46 hs, Option.bind_some, g_138_6 hs, Option.bind_some, T_169 hs hm, Option.bind_some, R_138_45 a1.sg, Option.bind_some, e2, Option.bind_some]
  dsimp only
  rw [T_168 a2.sg hm, Option.bind_some, g_138_44 a3.sg, Option.bind_some, e44', i_add1, p_138_44 a3.sg, Option.bind_some, R_138_48 a4.sg, Option.bind_some]
  by_cases hv : v = 0
  · rw [if_pos hv, e_isSign _ a4.1, Option.bind_some]
    dsimp only
    rw [if_pos rfl, if_neg (show ¬ 171 = 4 by decide)]
    exact ⟨h5, e5, a5, fun s => (fr s).trans (f5 s)⟩
  · rw [if_neg hv, if_neg (show ¬ 171 = 4 by decide)]
    exact ⟨h6, e6, a6, fun s => (fr s).trans (f6 s)⟩
