/-! ===== WHAT READING A STATEMENT COMES TO ===== -/
def PostS (T : Txt) (p : Pr Tr) (t r s n l q : Nat) (h : pH) (res : Option (Int32 × pH)) : Prop := match p with
  | Sum.inl (e, t') => ∃ h', res = some (Int32.ofNat s, h') ∧ At2 T t' r (s + stB e) (n + szB e) (l + lsB e) q h' ∧ SR T h' e s n l ∧ rd h' 161 s = -1 ∧ FrS s n l q h h' ∧ 2 * stB e + tkP T t ≤ tkP T t' ∧ szB e + tkP T t ≤ tkP T t' ∧ lsB e + tkP T t ≤ tkP T t'
  | Sum.inr w => ∃ v h' n' l' q', res = some (v, h') ∧ Er w n' l' q' h' ∧ FrS s n l q h h' ∧ tkP T t ≤ w ∧ n ≤ n' ∧ l ≤ l' ∧ q ≤ q'
def PostB (T : Txt) (p : Pr (Tr × Nat)) (t r s n l q : Nat) (h : pH) (res : Option (Int32 × pH)) : Prop := match p with
  | Sum.inl (b, t') => ∃ h', res = some (fsB b.1 s, h') ∧ At2 T t' r (s + stB b.1) (n + szB b.1) (l + lsB b.1) q h' ∧ RB T h' b.1 none s n l ∧ rd h' 138 57 = Int32.ofNat b.2 ∧ FrS s n l q h h' ∧ 2 * stB b.1 + 2 + tkP T t ≤ tkP T t' ∧ szB b.1 + tkP T t ≤ tkP T t' ∧ lsB b.1 + tkP T t ≤ tkP T t'
  | Sum.inr w => ∃ v h' n' l' q', res = some (v, h') ∧ Er w n' l' q' h' ∧ FrS s n l q h h' ∧ tkP T t ≤ w ∧ n ≤ n' ∧ l ≤ l' ∧ q ≤ q'
theorem PostS_ok {T : Txt} {e : Tr} {t t' r s n l q : Nat} {h : pH} {res : Option (Int32 × pH)} : PostS T (ok e t') t r s n l q h res = ∃ h', res = some (Int32.ofNat s, h') ∧ At2 T t' r (s + stB e) (n + szB e) (l + lsB e) q h' ∧ SR T h' e s n l ∧ rd h' 161 s = -1 ∧ FrS s n l q h h' ∧ 2 * stB e + tkP T t ≤ tkP T t' ∧ szB e + tkP T t ≤ tkP T t' ∧ lsB e + tkP T t ≤ tkP T t' := rfl
theorem PostS_no {T : Txt} {t w r s n l q : Nat} {h : pH} {res : Option (Int32 × pH)} : PostS T (no w) t r s n l q h res = ∃ v h' n' l' q', res = some (v, h') ∧ Er w n' l' q' h' ∧ FrS s n l q h h' ∧ tkP T t ≤ w ∧ n ≤ n' ∧ l ≤ l' ∧ q ≤ q' := rfl
theorem PostB_ok {T : Txt} {b : Tr × Nat} {t t' r s n l q : Nat} {h : pH} {res : Option (Int32 × pH)} : PostB T (ok b t') t r s n l q h res = ∃ h', res = some (fsB b.1 s, h') ∧ At2 T t' r (s + stB b.1) (n + szB b.1) (l + lsB b.1) q h' ∧ RB T h' b.1 none s n l ∧ rd h' 138 57 = Int32.ofNat b.2 ∧ FrS s n l q h h' ∧ 2 * stB b.1 + 2 + tkP T t ≤ tkP T t' ∧ szB b.1 + tkP T t ≤ tkP T t' ∧ lsB b.1 + tkP T t ≤ tkP T t' := rfl
theorem PostB_no {T : Txt} {t w r s n l q : Nat} {h : pH} {res : Option (Int32 × pH)} : PostB T (no w) t r s n l q h res = ∃ v h' n' l' q', res = some (v, h') ∧ Er w n' l' q' h' ∧ FrS s n l q h h' ∧ tkP T t ≤ w ∧ n ≤ n' ∧ l ≤ l' ∧ q ≤ q' := rfl
theorem Fr.ag {n l q : Nat} {h h' : pH} (f : Fr n l q h h') (s s' n0 l0 : Nat) : Ag h h' s s' n0 n l0 l := by
  refine ⟨fun a k h1 h2 _ _ => f.st ⟨h1, h2⟩, fun a m h1 h2 _ h4 => ?_, fun m _ h4 => f.list h4, f.2⟩
  obtain ⟨g1, g2, g3, g4, g5⟩ := f.node h4
  have : a = 144 ∨ a = 145 ∨ a = 146 ∨ a = 147 ∨ a = 148 := by omega
  rcases this with z | z | z | z | z <;> rw [z] <;> assumption
theorem SR.fr {T : Txt} {h h' : pH} {e : Tr} {s n l q : Nat} (f : Fr (n + szB e) (l + lsB e) q h h') (hq : SR T h e s n l) : SR T h' e s n l := hq.keep (f.ag _ _ _ _) (fun a h1 h2 => f.st ⟨h1, by omega⟩)
theorem Fr.r25 {n l q x : Nat} {h h' : pH} (f : Fr n l q h h') (e : rd h 138 25 = Int32.ofNat x) : rd h' 138 25 = Int32.ofNat x := f.f25.trans e
/-- ; -/
theorem semi_er {N w n l q : Nat} {v : Int32} {h : pH} (he : Er w n l q h) : ∃ h', ((fX12_isSign N 138 59 h).bind fun q2 => (fX12_passes N 138 q2.1 q2.2).bind fun q3 => some (v, q3.2)) = some (v, h') ∧ Er w n l q h' ∧ Fr n l q h h' := by
  obtain ⟨h1, r1, a1, f1⟩ := he.passes (N := N) 0
  refine ⟨h1, ?_, a1, f1⟩
  rw [e_isSign _ he.1, Option.bind_some]
  dsimp only
  rw [r1, Option.bind_some]
theorem semi_post {T : Txt} {N t0 t r s n l q : Nat} {h h4 : pH} {e : Tr} (hN : 3200 ≤ N) (a : At T t r (n + szB e) (l + lsB e) q h4) (e25 : rd h4 138 25 = Int32.ofNat (s + stB e)) (hS : SR T h4 e s n l) (e161 : rd h4 161 s = -1) (f : FrS s n l q h h4) (b1 : 2 * stB e + tkP T t0 ≤ tkP T t + 1) (b2 : szB e + tkP T t0 ≤ tkP T t) (b3 : lsB e + tkP T t0 ≤ tkP T t) (hs0 : 2 * s ≤ tkP T t0) (hst : 1 ≤ stB e) : PostS T ((tkS T).semi e t) t0 r s n l q h ((fX12_isSign N 138 59 h4).bind fun q2 => (fX12_passes N 138 q2.1 q2.2).bind fun q3 => some (Int32.ofNat s, q3.2)) := by
  show PostS T (if tkK T t = 59 then ok e (t + 1) else no (tkP T t)) t0 r s n l q h _
  rw [r_isSign a.1 (k := 59) (by unfold isSK isSgn; simp) (by decide), Option.bind_some]
  dsimp only
  by_cases hK : tkK T t = 59
  · obtain ⟨h5, r5, a5, f5⟩ := a.passes1 (N := N) (g := 1) (by decide) hN (by rw [hK]; decide) (by rw [hK]; decide)
    have hm := tk_mono T t (by rw [hK]; decide)
    rw [if_pos hK, if_pos hK, r5, Option.bind_some, PostS_ok]
    exact ⟨h5, rfl, ⟨a5, f5.r25 e25, by omega⟩, hS.fr f5, by rw [f5.st (by omega)]; exact e161, f.trans ((f5.toS (s := s + stB e)).mono (by omega) (by omega) (by omega) (Nat.le_refl _)), by omega, by omega, by omega⟩
  · obtain ⟨h5, r5, a5, f5⟩ := a.passes0 (N := N)
    rw [if_neg hK, if_neg hK, r5, Option.bind_some, PostS_no]
    exact ⟨_, h5, _, _, _, rfl, a5, f.trans ((f5.toS (s := s + stB e)).mono (by omega) (by omega) (by omega) (Nat.le_refl _)), by omega, by omega, by omega, Nat.le_refl _⟩
/-- the places of a statement that was begun -/
def Bg (h : pH) (s : Nat) (k : Int32) (p n : Nat) : Prop := rd h 151 s = k ∧ rd h 152 s = Int32.ofNat p ∧ rd h 153 s = Int32.ofNat n ∧ rd h 154 s = -1 ∧ rd h 155 s = -1 ∧ rd h 159 s = -1 ∧ rd h 160 s = -1 ∧ rd h 161 s = -1
theorem Bg.keep {h h' : pH} {s p n : Nat} {k : Int32} (b : Bg h s k p n) (g : ∀ a, 151 ≤ a → a ≤ 161 → rd h' a s = rd h a s) : Bg h' s k p n := by
  unfold Bg at b ⊢
  rw [g 151 (by decide) (by decide), g 152 (by decide) (by decide), g 153 (by decide) (by decide), g 154 (by decide) (by decide), g 155 (by decide) (by decide), g 159 (by decide) (by decide), g 160 (by decide) (by decide), g 161 (by decide) (by decide)]
  exact b
theorem At2.begun {N t r n l q s : Nat} {T : Txt} {h : pH} (a : At2 T t r s n l q h) (k : Int32) : ∃ h', fX12_begun N 138 k h = some (Int32.ofNat s, h') ∧ At T t r n l q h' ∧ rd h' 138 25 = Int32.ofNat (s + 1) ∧ FrS s n l q h h' ∧ Bg h' s k (tkP T t) n := by
  have hP := a.1.P_le
  obtain ⟨h', e, a1, e25, f, r1, r2, r3, r4, r5, r6, r7, r8, r9⟩ := a.1.begun (N := N) a.2.1 (by have := a.2.2; omega) k
  exact ⟨h', e, a1, e25, f, r1, r2, r3, r4, r5, r7, r8, r9⟩
