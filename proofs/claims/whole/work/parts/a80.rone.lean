/-! ===== THE REFERENCE'S TYPER: small statements ===== -/
/-- what typing the statements from s to s' with the nodes from n to n' at depth d changes -/
def tsA (d s s' n n' a k : Nat) : Prop := ndA n n' a k ∨ ((a = 156 ∨ a = 158) ∧ s ≤ k ∧ k < s') ∨ a = 178 ∨ a = 179 ∨ a = 180 ∨ (a = 181 ∧ 3000 * d ≤ k) ∨ (a = 138 ∧ (k = 58 ∨ k = 62 ∨ k = 66))
theorem tsA.rk {d s s' n n' : Nat} (a k : Nat) (h : rkA a k) : ¬ tsA d s s' n n' a k := by
  unfold rkA rtA at h
  unfold tsA ndA
  omega
theorem tsA.mono {d s s' n n' d1 s1 s1' n1 n1' a k : Nat} (h : tsA d1 s1 s1' n1 n1' a k) (h0 : d ≤ d1) (h1 : s ≤ s1) (h2 : s1' ≤ s') (h3 : n ≤ n1) (h4 : n1' ≤ n') : tsA d s s' n n' a k := by
  rcases h with h | h | h | h | h | h | h
  · exact Or.inl (h.mono h3 h4)
  · exact Or.inr (Or.inl ⟨h.1, by omega, by omega⟩)
  · exact Or.inr (Or.inr (Or.inl h))
  · exact Or.inr (Or.inr (Or.inr (Or.inl h)))
  · exact Or.inr (Or.inr (Or.inr (Or.inr (Or.inl h))))
  · exact Or.inr (Or.inr (Or.inr (Or.inr (Or.inr (Or.inl ⟨h.1, by omega⟩)))))
  · exact Or.inr (Or.inr (Or.inr (Or.inr (Or.inr (Or.inr h)))))
theorem ndA.ts {d s s' n n' a k : Nat} (h : ndA n n' a k) : tsA d s s' n n' a k := Or.inl h
theorem AgT.of {d s0 s1 n0 n1 s s' n n' l l' : Nat} {h h' : pH} (g : Chg (tsA d s0 s1 n0 n1) h h') (h1 : s' ≤ s0 ∨ s1 ≤ s) (h2 : n' ≤ n0 ∨ n1 ≤ n) : AgT h h' s s' n n' l l' := ⟨fun a k i1 i2 i3 i4 => g.2.2.1 _ _ (by unfold tsA ndA; omega), fun k => g.2.2.1 _ _ (by unfold tsA ndA; omega), fun a m i1 i3 i4 => g.2.2.1 _ _ (by unfold tsA ndA; omega), fun m => g.2.2.1 _ _ (by unfold tsA ndA; omega)⟩
/-- the reference's typer between statements -/
def RSt (P : Pgm) (D : List Int32 → Prop) (num : List Int32 → Nat) (c mth : Nat) (E : EnvV) (h : pH) : Prop := RS P D num c E h ∧ rd h 138 61 = Int32.ofNat mth ∧ rd h 138 58 = -1
def OnR (P : Pgm) (D : List Int32 → Prop) (num : List Int32 → Nat) (c mth d s s' n n' : Nat) (Z : EnvV → pH → Prop) (O : CkR) (x : Option pH) (E : EnvV) (h : pH) : Prop := ∃ h1, x = some h1 ∧ Chg (tsA d s s' n n') h h1 ∧ match O with
  | .inl p => rd h1 138 58 = Int32.ofNat p ∧ ∃ E1, RSc P D num E1 h1 ∧ Pfx E E1
  | .inr E' => RSt P D num c mth E' h1 ∧ Z E' h1
theorem EnvV.one_same {E E' : EnvV} (h : E'.1 = E.1) (q : E.one) : E'.one := by
  unfold EnvV.one EnvV.nm at *
  rw [h]
  exact q
theorem EnvV.no3_same {E E' : EnvV} (h : E'.1 = E.1) (q : E.no3) : E'.no3 := by
  unfold EnvV.no3 at *
  rw [h]
  exact q
theorem EnvV.one_add {E : EnvV} {w : List Int32} {t : Nat} {s : Bool} (q : E.one) (hf : E.fnd w = none) : (E.add w t s).one := by
  have hnm : ∀ i, i < E.1.length → (E.add w t s).nm i = E.nm i := fun i hi => by
    unfold EnvV.nm EnvV.add
    rw [List.getElem?_append_left hi]
  have hlast : (E.add w t s).nm E.1.length = w := by
    unfold EnvV.nm EnvV.add
    rw [List.getElem?_append_right (Nat.le_refl _), Nat.sub_self]
    rfl
  have hno : ∀ i, i < E.1.length → E.nm i ≠ w := fun i hi z => by
    have := fstN_none hf i (Nat.zero_le _) (by omega)
    rw [decide_eq_true z] at this
    cases this
  intro i j hi hj e
  rw [EnvV.add_len] at hi hj
  by_cases h1 : i < E.1.length
  · by_cases h2 : j < E.1.length
    · rw [hnm i h1, hnm j h2] at e
      exact q i j h1 h2 e
    · rw [hnm i h1, show j = E.1.length by omega, hlast] at e
      exact absurd e (hno i h1)
  · by_cases h2 : j < E.1.length
    · rw [hnm j h2, show i = E.1.length by omega, hlast] at e
      exact absurd e.symm (hno j h2)
    · omega
theorem EnvV.no3_add {E : EnvV} {w : List Int32} {t : Nat} {s : Bool} (q : E.no3) (ht : t ≠ 3) : (E.add w t s).no3 := by
  intro i x hx
  have hx : (E.1 ++ [(w, t)])[i]? = some x := hx
  by_cases h1 : i < E.1.length
  · rw [List.getElem?_append_left h1] at hx
    exact q i x hx
  · rw [List.getElem?_append_right (by omega)] at hx
    cases hd : i - E.1.length with
    | zero => rw [hd] at hx; rw [← Option.some.inj hx]; exact ht
    | succ n => rw [hd] at hx; cases hx
theorem RSc.stop {P : Pgm} {D : List Int32 → Prop} {num : List Int32 → Nat} {E : EnvV} {h : pH} (hs : Sg h) (q : RSc P D num E h) : RSc P D num E.stop (wr h 138 66 1) := by
  obtain ⟨q1, q2, q3, q4, q5⟩ := q
  refine ⟨by rw [rd_wr_ne _ _ (by omega)]; exact q1, q2, fun i x hx => ?_, w_138_66 hs _, fun i hi => ?_⟩
  · obtain ⟨a1, a2, a3, a4⟩ := q3 i x hx
    exact ⟨a1, by rw [rd_wr_ne _ _ (by omega)]; exact a2, by rw [rd_wr_ne _ _ (by omega)]; exact a3, a4⟩
  · obtain ⟨b, b1, _⟩ := q5 i hi
    exact ⟨b, by rw [rd_wr_ne _ _ (by omega)]; exact b1, fun z => by cases z⟩
theorem RSc.give {P : Pgm} {D : List Int32 → Prop} {num : List Int32 → Nat} {E : EnvV} {j : Nat} {h : pH} (hs : Sg h) (q : RSc P D num E h) : RSc P D num (E.give j) (wr h 180 j 1) := by
  obtain ⟨q1, q2, q3, q4, q5⟩ := q
  refine ⟨by rw [rd_wr_ne _ _ (by omega)]; exact q1, q2, fun i x hx => ?_, by rw [rd_wr_ne _ _ (by omega)]; exact q4, fun i hi => ?_⟩
  · obtain ⟨a1, a2, a3, a4⟩ := q3 i x hx
    exact ⟨a1, by rw [rd_wr_ne _ _ (by omega)]; exact a2, by rw [rd_wr_ne _ _ (by omega)]; exact a3, a4⟩
  · obtain ⟨b, b1, b2⟩ := q5 i hi
    by_cases z : i = j
    · subst z
      exact ⟨true, W_180 hs _ _, fun _ => by show true = if i = i then true else _; rw [if_pos rfl]⟩
    · exact ⟨b, by rw [rd_wr_ne _ _ (by omega)]; exact b1, fun y => by show b = if i = j then true else E.2.2 i; rw [if_neg z]; exact b2 y⟩
theorem one366_bad {rc : Nat → List Value → pH → Option (Option Value × pH)} {N s p : Nat} {d k : Int32} {h : pH} (hs : Sg h) (hsl : s < 1600) (h58 : rd h 138 58 = -1) (h152 : rd h 152 s = Int32.ofNat p) : fX12_checkOne_366 N rc 138 (Int32.ofNat s) d k 0 h = some (wr h 138 58 (Int32.ofNat p)) := by
  unfold fX12_checkOne_366
  rw [if_pos rfl, R_138_27 hs, Option.bind_some, L_152 hs hsl, Option.bind_some, h152, e12_isBad hs (by rw [h58]; decide), Option.bind_some]
theorem e12_tov {N s m t : Nat} {h : pH} (hs : Sg h) (hsl : s < 1600) (hm : m < 3200) (h154 : rd h 154 s = Int32.ofNat m) (h148 : rd h 148 m = Int32.ofNat t) : fX12_typeOfValue N 138 (Int32.ofNat s) h = some (Int32.ofNat t, h) := by
  unfold fX12_typeOfValue
  rw [if_pos (o_138 hs), R_138_29 hs, Option.bind_some, L_154 hs hsl, Option.bind_some, h154, if_pos (by have := i_nneg (a := m) (by omega); exact Int32.not_lt.mp this), R_138_20 hs, Option.bind_some, Option.bind_some, L_154 hs hsl, Option.bind_some, h154, L_148 hs hm, Option.bind_some, h148]
theorem e12_tov0 {N s : Nat} {h : pH} (hs : Sg h) (hsl : s < 1600) (h154 : rd h 154 s = -1) : fX12_typeOfValue N 138 (Int32.ofNat s) h = some (3, h) := by
  unfold fX12_typeOfValue
  rw [if_pos (o_138 hs), R_138_29 hs, Option.bind_some, L_154 hs hsl, Option.bind_some, h154, if_neg (show ¬ (0 : Int32) ≤ -1 by decide)]
/-- a statement whose nodes are bad -/
theorem one41_bad {P : Pgm} {D : List Int32 → Prop} {num : List Int32 → Nat} {rc : Nat → List Value → pH → Option (Option Value × pH)} {N s p m kk : Nat} {d : Int32} {h : pH} {x : Int32} (hk : kk ≤ 8) (hs : Sg h) (hsl : s < 1600) (h58 : rd h 138 58 = -1) (h152 : rd h 152 s = Int32.ofNat p) (htv : fX12_typeOfValue N 138 (Int32.ofNat s) h = some (x, h)) (hty : kk = 0 → ∃ u, fX12_meant N 138 (rd h 156 s) h = some (u, h)) : fX12_checkOne_41 N rc 138 (Int32.ofNat s) d (Int32.ofNat kk) (Int32.ofNat m) 0 h = some (wr h 138 58 (Int32.ofNat p)) := by
  have B := fun k => one366_bad (N := N) (rc := rc) (d := d) (k := k) hs hsl h58 h152
  unfold fX12_checkOne_41
  rw [htv, Option.bind_some]
  have : kk = 0 ∨ kk = 1 ∨ kk = 2 ∨ kk = 3 ∨ kk = 4 ∨ kk = 5 ∨ kk = 6 ∨ kk = 7 ∨ kk = 8 := by omega
  rcases this with rfl | rfl | rfl | rfl | rfl | rfl | rfl | rfl | rfl
  · obtain ⟨u, hu⟩ := hty rfl
    rw [if_pos rfl]
    dsimp only
    rw [R_138_31 hs, Option.bind_some, L_156 hs hsl, Option.bind_some, hu, Option.bind_some, if_pos rfl]
    exact B 0
  · exact B 1
  · exact B 2
  · exact B 3
  · exact B 4
  · exact B 5
  · exact B 6
  · exact B 7
  · exact B 8
theorem RSt.bad {P : Pgm} {D : List Int32 → Prop} {num : List Int32 → Nat} {c mth d s s' n n' p : Nat} {E : EnvV} {Z : EnvV → pH → Prop} {h h1 : pH} {x : Option pH} (q : RSt P D num c mth E h) (g : Chg (ndA n n') h h1) (e : x = some (wr h1 138 58 (Int32.ofNat p))) : OnR P D num c mth d s s' n n' Z (.inl p) x E h := by
  have hs1 : Sg h1 := q.1.1.1.1.of g.1
  have g2 : Chg (fun a k => a = 138 ∧ k = 58) h1 (wr h1 138 58 (Int32.ofNat p)) := Chg.wr _ _ _ _ ⟨rfl, rfl⟩
  exact ⟨_, e, (g.mono (fun a k z => Or.inl z)).trans (g2.mono (fun a k z => show tsA d s s' n n' a k by unfold tsA; omega)), w_138_58 hs1 _, E, (q.1.nd g).2.1.chg g2 (fun a k z => by omega), Pfx.refl E⟩
theorem RSt.nd {P : Pgm} {D : List Int32 → Prop} {num : List Int32 → Nat} {c mth lo hi : Nat} {E : EnvV} {h h' : pH} (q : RSt P D num c mth E h) (g : Chg (ndA lo hi) h h') : RSt P D num c mth E h' := ⟨q.1.nd g, by rw [g.2.2.1 _ _ (by unfold ndA; omega)]; exact q.2.1, by rw [g.2.2.1 _ _ (by unfold ndA; omega)]; exact q.2.2⟩
theorem RSt.sc {P : Pgm} {D : List Int32 → Prop} {num : List Int32 → Nat} {c mth : Nat} {E E' : EnvV} {A : Nat → Nat → Prop} {h h' : pH} (q : RSt P D num c mth E h) (g : Chg A h h') (hA : ∀ a k, rkA a k → ¬ A a k) (h60 : ¬ A 138 60) (h61 : ¬ A 138 61) (h58 : ¬ A 138 58) (qe : RSc P D num E' h') (ho : E'.one) (h3 : E'.no3) : RSt P D num c mth E' h' := ⟨⟨q.1.1.chg g hA, qe, by rw [g.2.2.1 _ _ h60]; exact q.1.2.2.1, ho, h3⟩, by rw [g.2.2.1 _ _ h61]; exact q.2.1, by rw [g.2.2.1 _ _ h58]; exact q.2.2⟩
/-- a statement with an expression -/
theorem one_exp {S : Tks} {P : Pgm} {D : List Int32 → Prop} {num : List Int32 → Nat} {rc : Nat → List Value → pH → Option (Option Value × pH)} {c mth N s p n l kk : Nat} {E : EnvV} {e : Tr} {call : Bool} {d : Int32} {h : pH} (hN : 5000 ≤ N) (ha : Acy P) (hc : c < P.n) (p3 : P.P3) (ox : Ox S e) (q : RSt P D num c mth E h) (rn : RN P D num h e n l) (hsl : s < 1600) (hn : n + sz e ≤ 3200) (hl : l + ls e ≤ 3200) (st : St h s (Int32.ofNat kk) p n (Int32.ofNat (n + sz e - 1))) (hk : kk ≤ 7) (h7 : call = decide (kk = 7)) (hty : kk = 0 → ∃ y, tyD D P y ∧ rd h 156 s = tyM num P y) : match P.vlT c E e call with
    | none => ∃ h1, fX12_checkOne N rc 138 (Int32.ofNat s) d h = some (wr h1 138 58 (Int32.ofNat p)) ∧ Chg (ndA n (n + sz e)) h h1
    | some t => ∃ h1, fX12_checkOne N rc 138 (Int32.ofNat s) d h = fX12_checkOne_41 N rc 138 (Int32.ofNat s) d (Int32.ofNat kk) (Int32.ofNat (n + sz e - 1)) 1 h1 ∧ fX12_typeOfValue N 138 (Int32.ofNat s) h1 = some (Int32.ofNat t, h1) ∧ P.te c E e = some [t] ∧ rd h1 148 (n + sz e - 1) = Int32.ofNat t ∧ P.tOk t ∧ RXn P num c E h1 e n l ∧ Chg (ndA n (n + sz e)) h h1 := by
  have hs := q.1.1.1.1
  obtain ⟨s1, s2, s3, s4⟩ := st
  have z1 := ox.sz1
  have A := RS.nodes (S := S) (N := N) (call := call) hN ha hc p3 ox q.1 rn hsl hn hl s4 (by rw [s1]; exact i_ne (b := 8) (by omega) (by omega) (by omega)) (by
    rw [h7, s1]
    by_cases z : kk = 7
    · rw [decide_eq_true z, z]; rfl
    · rw [decide_eq_false z, decide_eq_false (show ¬ Int32.ofNat kk = 7 from i_ne (b := 7) (by omega) (by omega) z)])
  have hpre : fX12_checkOne N rc 138 (Int32.ofNat s) d h = (fX12_checkNodes N 138 (Int32.ofNat s) (Int32.ofNat n) (Int32.ofNat (n + sz e - 1)) h).bind fun q81 => if q81.1 = 0 then fX12_checkOne_41 N rc 138 (Int32.ofNat s) d (Int32.ofNat kk) (Int32.ofNat (n + sz e - 1)) 0 q81.2 else fX12_checkOne_36 N rc 138 (Int32.ofNat s) d (Int32.ofNat kk) (Int32.ofNat (n + sz e - 1)) q81.2 := by
    unfold fX12_checkOne
    rw [if_pos (o_138 hs), R_138_26 hs, Option.bind_some, L_151 hs hsl, Option.bind_some, s1, R_138_29 hs, Option.bind_some, L_154 hs hsl, Option.bind_some, s4, if_neg (i_nneg (by omega)), R_138_28 hs, Option.bind_some, L_153 hs hsl, Option.bind_some, s3]
  rw [hpre]
  cases hv : P.vlT c E e call with
  | none =>
    rw [hv] at A
    obtain ⟨h1, e1, g⟩ := A
    refine ⟨h1, ?_, g⟩
    have q1 := q.nd g
    have hs1 := q1.1.1.1.1
    have r : ∀ a, 151 ≤ a → a ≤ 161 → rd h1 a s = rd h a s := fun a i1 i2 => g.2.2.1 _ _ (by unfold ndA; omega)
    have htv : ∃ x, fX12_typeOfValue N 138 (Int32.ofNat s) h1 = some (x, h1) := by
      refine ⟨rd h1 148 (n + sz e - 1), ?_⟩
      unfold fX12_typeOfValue
      have s4' : rd h1 154 s = Int32.ofNat (n + sz e - 1) := by rw [r _ (by omega) (by omega)]; exact s4
      rw [if_pos (o_138 hs1), R_138_29 hs1, Option.bind_some, L_154 hs1 hsl, Option.bind_some, s4', if_pos (Int32.not_lt.mp (i_nneg (by omega))), R_138_20 hs1, Option.bind_some, Option.bind_some, L_154 hs1 hsl, Option.bind_some, s4', L_148 hs1 (by omega), Option.bind_some]
    obtain ⟨x, hx⟩ := htv
    rw [e1, Option.bind_some, if_pos rfl]
    exact one41_bad (P := P) (D := D) (num := num) (by omega) hs1 hsl q1.2.2 (by rw [r _ (by omega) (by omega)]; exact s2) hx (fun z => by
      obtain ⟨y, y1, y2⟩ := hty z
      exact ⟨_, by rw [r _ (by omega) (by omega), y2]; exact q1.1.1.1.meant (by omega) y1⟩)
  | some t =>
    rw [hv] at A
    obtain ⟨h1, e1, e2, e3, e4, e5, g⟩ := A
    refine ⟨h1, ?_, e12_tov (hs.of g.1) hsl (by omega) (by rw [g.2.2.1 _ _ (by unfold ndA; omega)]; exact s4) e3, e2, e3, e4, e5, g⟩
    rw [e1, Option.bind_some, if_neg (show ¬ (1 : Int32) = 0 by decide)]
    rfl
theorem one_stop {P : Pgm} {D : List Int32 → Prop} {num : List Int32 → Nat} {rc : Nat → List Value → pH → Option (Option Value × pH)} {c mth N d0 s s' n n' k : Nat} {E : EnvV} {Z : EnvV → pH → Prop} {d : Int32} {h h1 : pH} {x : Option pH} (hk : k = 3 ∨ k = 4) (q : RSt P D num c mth E h) (g : Chg (ndA n n') h h1) (hZ : Z E.stop (wr h1 138 66 1)) (e : x = fX12_checkOne_366 N rc 138 (Int32.ofNat s) d (Int32.ofNat k) 1 h1) : OnR P D num c mth d0 s s' n n' Z (.inr E.stop) x E h := by
  have q1 := q.nd g
  have hs1 := q1.1.1.1.1
  have g2 : Chg (fun a k => a = 138 ∧ k = 66) h1 (wr h1 138 66 1) := Chg.wr _ _ _ _ ⟨rfl, rfl⟩
  refine ⟨wr h1 138 66 1, ?_, (g.mono (fun a k z => Or.inl z)).trans (g2.mono (fun a k z => show tsA d0 s s' n n' a k by unfold tsA; omega)), q1.sc g2 (fun a k z => by unfold rkA rtA at z; omega) (by omega) (by omega) (by omega) (q1.1.2.1.stop hs1) (EnvV.one_same rfl q1.1.2.2.2.1) (EnvV.no3_same rfl q1.1.2.2.2.2), hZ⟩
  rw [e]
  unfold fX12_checkOne_366 fX12_checkOne_392
  rcases hk with rfl | rfl
  · rw [if_neg (show ¬ (1 : Int32) = 0 by decide), if_pos (show Int32.ofNat 3 = 3 from rfl), z_138_66 hs1 (Or.inr rfl), Option.bind_some]
  · rw [if_neg (show ¬ (1 : Int32) = 0 by decide), if_neg (show ¬ Int32.ofNat 4 = 3 by decide), if_pos (show Int32.ofNat 4 = 4 from rfl), z_138_66 hs1 (Or.inr rfl), Option.bind_some]
theorem one_keep {P : Pgm} {D : List Int32 → Prop} {num : List Int32 → Nat} {rc : Nat → List Value → pH → Option (Option Value × pH)} {c mth N d0 s s' n n' k : Nat} {E : EnvV} {Z : EnvV → pH → Prop} {d : Int32} {h h1 : pH} {x : Option pH} (hk : k = 0 ∨ k = 6 ∨ k = 7 ∨ k = 8) (q : RSt P D num c mth E h) (g : Chg (ndA n n') h h1) (hZ : Z E h1) (e : x = fX12_checkOne_366 N rc 138 (Int32.ofNat s) d (Int32.ofNat k) 1 h1) : OnR P D num c mth d0 s s' n n' Z (.inr E) x E h := by
  refine ⟨h1, ?_, g.mono (fun a k z => Or.inl z), q.nd g, hZ⟩
  rw [e]
  rcases hk with rfl | rfl | rfl | rfl <;> rfl
