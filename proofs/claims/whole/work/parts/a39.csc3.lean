/-! ===== THE CLASS' SCOPE: what is kept ===== -/
/-- row a holds the bits of E's first n -/
def btR (h : pH) (a n : Nat) (E : EnvV) : Prop := E.2.1 = false → ∀ i, i < n → bt (rd h a (i / 32)) (i % 32) = E.2.2 i
/-- level d was opened at E -/
def KSc (E : EnvV) (d : Nat) (h : pH) : Prop := rd h 122 d = kI E.2.1 ∧ rd h 124 d = Int32.ofNat E.1.length ∧ btR h (57 + d) E.1.length E
/-- level d turned at E, of which n variables count -/
def TSc (E : EnvV) (n d : Nat) (h : pH) : Prop := rd h 123 d = kI E.2.1 ∧ btR h (90 + d) n E
theorem KSc.chg {A : Nat → Nat → Prop} {E : EnvV} {d : Nat} {h h' : pH} (q : KSc E d h) (g : Chg A h h') (h1 : ¬ A 122 d) (h2 : ¬ A 124 d) (h3 : ∀ k, ¬ A (57 + d) k) : KSc E d h' := by
  obtain ⟨q1, q2, q3⟩ := q
  exact ⟨by rw [g.2.2.1 _ _ h1]; exact q1, by rw [g.2.2.1 _ _ h2]; exact q2, fun hd i hi => by rw [g.2.2.1 _ _ (h3 _)]; exact q3 hd i hi⟩
theorem TSc.chg {A : Nat → Nat → Prop} {E : EnvV} {n d : Nat} {h h' : pH} (q : TSc E n d h) (g : Chg A h h') (h1 : ¬ A 123 d) (h3 : ∀ k, ¬ A (90 + d) k) : TSc E n d h' := by
  obtain ⟨q1, q3⟩ := q
  exact ⟨by rw [g.2.2.1 _ _ h1]; exact q1, fun hd i hi => by rw [g.2.2.1 _ _ (h3 _)]; exact q3 hd i hi⟩
theorem kI_01 (b : Bool) : kI b = 0 ∨ kI b = 1 := by cases b; exact Or.inl rfl; exact Or.inr rfl
/-- what opening, turning, leaving at level d change -/
def lvA (d : Nat) (a k : Nat) : Prop := a = 57 + d ∨ a = 90 + d ∨ a = 55 ∨ ((a = 122 ∨ a = 123 ∨ a = 124) ∧ k = d) ∨ (a = 52 ∧ (k = 2 ∨ k = 5 ∨ k = 11))
theorem CSc.open_ {P : Pgm} {D : List Int32 → Prop} {num : List Int32 → Nat} {E : EnvV} {M N d : Nat} {h : pH} (hs : Sg h) (q : CSc P D num E M h) (h11 : rd h 52 11 = Int32.ofNat d) (hd : d < 32) : ∃ h', fX8_open N 52 h = some h' ∧ CSc P D num E M h' ∧ KSc E d h' ∧ rd h' 52 11 = Int32.ofNat (d + 1) ∧ Chg (lvA d) h h' := by
  obtain ⟨q1, q2, q3, q4, q5, q6, q7⟩ := id q
  obtain ⟨h1, e1, e2, e3⟩ := copy32 (sh_55 hs) (sh_57i hs hd)
  have hs1 : Sg h1 := hs.of e3.1
  have hs2 := hs1.wr 122 d (kI E.2.1)
  have hs3 := hs2.wr 124 d (Int32.ofNat E.1.length)
  have r5 : rd h1 52 5 = kI E.2.1 := by rw [e3.2.2.1 _ _ (by omega)]; exact q6
  have r11 : rd h1 52 11 = Int32.ofNat d := by rw [e3.2.2.1 _ _ (by omega)]; exact h11
  have s11 : rd (wr h1 122 d (kI E.2.1)) 52 11 = Int32.ofNat d := by rw [rd_wr_ne _ _ (by omega)]; exact r11
  have s2 : rd (wr h1 122 d (kI E.2.1)) 52 2 = Int32.ofNat E.1.length := by rw [rd_wr_ne _ _ (by omega), e3.2.2.1 _ _ (by omega)]; exact q1
  have t11 : rd (wr (wr h1 122 d (kI E.2.1)) 124 d (Int32.ofNat E.1.length)) 52 11 = Int32.ofNat d := by rw [rd_wr_ne _ _ (by omega)]; exact s11
  have g : Chg (fun a k => a = 57 + d ∨ ((a = 122 ∨ a = 124) ∧ k = d) ∨ (a = 52 ∧ k = 11)) h (wr (wr (wr h1 122 d (kI E.2.1)) 124 d (Int32.ofNat E.1.length)) 52 11 (Int32.ofNat (d + 1))) := (e3.mono (fun a k z => by omega)).trans ((Chg.wr _ _ _ _ (by omega)).trans ((Chg.wr _ _ _ _ (by omega)).trans (Chg.wr _ _ _ _ (by omega))))
  refine ⟨_, ?_, q.chg g (fun a k z => by omega), ⟨?_, ?_, fun hD i hi => ?_⟩, w_52_11 hs3 _, g.mono (fun a k z => by unfold lvA; omega)⟩
  · unfold fX8_open
    rw [if_pos (o_52 hs), g_52_11 hs, Option.bind_some, h11, show (32 : Int32) = Int32.ofNat 32 from rfl, ifLe (by omega) (by omega), if_neg (by omega), R_52_4 hs, Option.bind_some, R_52_6 hs, Option.bind_some, Option.bind_some, A_56 hs hd, Option.bind_some, show Int32.ofNat 32 = 32 from rfl, e1, Option.bind_some, R_52_8 hs1, Option.bind_some, g_52_11 hs1, Option.bind_some, r11, g_52_5 hs1, Option.bind_some, r5, T_122 hs1 hd (kI_01 _), Option.bind_some, R_52_10 hs2, Option.bind_some, g_52_11 hs2, Option.bind_some, s11, g_52_2 hs2, Option.bind_some, s2, T_124 hs2 hd, Option.bind_some, g_52_11 hs3, Option.bind_some, t11, i_add1, p_52_11 hs3, Option.bind_some]
  · rw [rd_wr_ne _ _ (by omega), rd_wr_ne _ _ (by omega), W_122 hs1]
  · rw [rd_wr_ne _ _ (by omega), W_124 hs2]
  · rw [rd_wr_ne _ _ (by omega), rd_wr_ne _ _ (by omega), rd_wr_ne _ _ (by omega), e2 _ (by omega)]
    exact q7 hD i hi
/-- names and types of the first n are as E0 tells -/
def Pfx (E0 E : EnvV) : Prop := E0.1 = E.1.take E0.1.length
theorem Pfx.get {E0 E : EnvV} (p : Pfx E0 E) {i : Nat} {x : List Int32 × Nat} (h : E0.1[i]? = some x) : E.1[i]? = some x := by
  have hi := (List.getElem?_eq_some_iff.mp h).1
  have p' : E0.1 = E.1.take E0.1.length := p
  rw [p', List.getElem?_take, if_pos hi] at h
  exact h
theorem Pfx.le {E0 E : EnvV} (p : Pfx E0 E) : E0.1.length ≤ E.1.length := by
  have p' : E0.1 = E.1.take E0.1.length := p
  have := congrArg List.length p'
  rw [List.length_take] at this
  omega
theorem CSc.restore {P : Pgm} {D : List Int32 → Prop} {num : List Int32 → Nat} {E E0 : EnvV} {M N d : Nat} {h : pH} (hs : Sg h) (q : CSc P D num E M h) (k : KSc E0 d h) (p : Pfx E0 E) (h11 : rd h 52 11 = Int32.ofNat (d + 1)) (hd : d < 32) : ∃ h', fX8_restore N 52 h = some h' ∧ CSc P D num E0 M h' ∧ KSc E0 d h' ∧ rd h' 52 11 = Int32.ofNat (d + 1) ∧ Chg (fun a k => a = 55 ∨ (a = 52 ∧ (k = 2 ∨ k = 5))) h h' := by
  obtain ⟨q1, q2, q3, q4, q5, q6, q7⟩ := id q
  obtain ⟨k1, k2, k3⟩ := id k
  have hp := p.le
  obtain ⟨h1, e1, e2, e3⟩ := copy32 (sh_57i hs hd) (sh_55 hs)
  have hs1 : Sg h1 := hs.of e3.1
  have hs2 := hs1.wr 52 5 (kI E0.2.1)
  have r11 : rd h1 52 11 = Int32.ofNat (d + 1) := by rw [e3.2.2.1 _ _ (by omega)]; exact h11
  have r122 : rd h1 122 d = kI E0.2.1 := by rw [e3.2.2.1 _ _ (by omega)]; exact k1
  have s11 : rd (wr h1 52 5 (kI E0.2.1)) 52 11 = Int32.ofNat (d + 1) := by rw [rd_wr_ne _ _ (by omega)]; exact r11
  have s124 : rd (wr h1 52 5 (kI E0.2.1)) 124 d = Int32.ofNat E0.1.length := by rw [rd_wr_ne _ _ (by omega), e3.2.2.1 _ _ (by omega)]; exact k2
  have g : Chg (fun a k => a = 55 ∨ (a = 52 ∧ (k = 2 ∨ k = 5))) h (wr (wr h1 52 5 (kI E0.2.1)) 52 2 (Int32.ofNat E0.1.length)) := (e3.mono (fun a k z => by omega)).trans ((Chg.wr _ _ _ _ (by omega)).trans (Chg.wr _ _ _ _ (by omega)))
  refine ⟨_, ?_, ⟨w_52_2 hs2 _, ?_, by omega, q4, fun i x hx => ?_, ?_, fun hD i hi => ?_⟩, k.chg g (by omega) (by omega) (fun j => by omega), by rw [g.2.2.1 _ _ (by omega)]; exact h11, g⟩
  · unfold fX8_restore
    rw [if_pos (o_52 hs), R_52_6 hs, Option.bind_some, g_52_11 hs, Option.bind_some, h11, i_sub1, A_56 hs hd, Option.bind_some, R_52_4 hs, Option.bind_some, e1, Option.bind_some, R_52_8 hs1, Option.bind_some, g_52_11 hs1, Option.bind_some, r11, i_sub1, L_122 hs1 hd, Option.bind_some, r122, z_52_5 hs1 (kI_01 _), Option.bind_some, R_52_10 hs2, Option.bind_some, g_52_11 hs2, Option.bind_some, s11, i_sub1, L_124 hs2 hd, Option.bind_some, s124, p_52_2 hs2, Option.bind_some]
  · rw [g.2.2.1 _ _ (by omega)]; exact q2
  · rw [g.2.2.1 _ _ (by omega), g.2.2.1 _ _ (by omega)]; exact q5 i x (p.get hx)
  · rw [rd_wr_ne _ _ (by omega), w_52_5 hs1]
  · rw [rd_wr_ne _ _ (by omega), rd_wr_ne _ _ (by omega), e2 _ (by omega)]
    exact k3 hD i hi
theorem CSc.leave {P : Pgm} {D : List Int32 → Prop} {num : List Int32 → Nat} {E E0 : EnvV} {M N d : Nat} {h : pH} (hs : Sg h) (q : CSc P D num E M h) (k : KSc E0 d h) (p : Pfx E0 E) (h11 : rd h 52 11 = Int32.ofNat (d + 1)) (hd : d < 32) : ∃ h', fX8_leave N 52 h = some h' ∧ CSc P D num E0 M h' ∧ rd h' 52 11 = Int32.ofNat d ∧ Chg (lvA d) h h' := by
  obtain ⟨h1, e1, e2, e3, e4, e5⟩ := CSc.restore (N := N) hs q k p h11 hd
  have hs1 : Sg h1 := hs.of e5.1
  have g : Chg (fun a k => a = 52 ∧ k = 11) h1 (wr h1 52 11 (Int32.ofNat d)) := Chg.wr _ _ _ _ ⟨rfl, rfl⟩
  refine ⟨_, ?_, e2.chg g (fun a k z => by omega), w_52_11 hs1 _, (e5.mono (fun a k z => by unfold lvA; omega)).trans (g.mono (fun a k z => by unfold lvA; omega))⟩
  unfold fX8_leave
  rw [if_pos (o_52 hs), g_52_11 hs, Option.bind_some, h11, show (0 : Int32) = Int32.ofNat 0 from rfl, ifLe (by omega) (by omega), if_neg (by omega), e1, Option.bind_some, g_52_11 hs1, Option.bind_some, e4, i_sub1, p_52_11 hs1, Option.bind_some]
theorem CSc.turn {P : Pgm} {D : List Int32 → Prop} {num : List Int32 → Nat} {E E0 : EnvV} {M N d : Nat} {h : pH} (hs : Sg h) (q : CSc P D num E M h) (k : KSc E0 d h) (p : Pfx E0 E) (h11 : rd h 52 11 = Int32.ofNat (d + 1)) (hd : d < 32) : ∃ h', fX8_turn N 52 h = some h' ∧ CSc P D num E0 M h' ∧ KSc E0 d h' ∧ TSc E E0.1.length d h' ∧ rd h' 52 11 = Int32.ofNat (d + 1) ∧ Chg (lvA d) h h' := by
  obtain ⟨q1, q2, q3, q4, q5, q6, q7⟩ := id q
  have hp := p.le
  obtain ⟨h1, e1, e2, e3⟩ := copy32 (sh_55 hs) (sh_90i hs hd)
  have hs1 : Sg h1 := hs.of e3.1
  have hs2 := hs1.wr 123 d (kI E.2.1)
  have r11 : rd h1 52 11 = Int32.ofNat (d + 1) := by rw [e3.2.2.1 _ _ (by omega)]; exact h11
  have r5 : rd h1 52 5 = kI E.2.1 := by rw [e3.2.2.1 _ _ (by omega)]; exact q6
  have g : Chg (fun a k => a = 90 + d ∨ (a = 123 ∧ k = d)) h (wr h1 123 d (kI E.2.1)) := (e3.mono (fun a k z => by omega)).trans (Chg.wr _ _ _ _ (by omega))
  have t : TSc E E0.1.length d (wr h1 123 d (kI E.2.1)) := ⟨W_123 hs1 _ _, fun hD i hi => by
    rw [rd_wr_ne _ _ (by omega), e2 _ (by omega)]
    exact q7 hD i (by omega)⟩
  obtain ⟨h2, f1, f2, f3, f4, f5⟩ := CSc.restore (N := N) hs2 (q.chg g (fun a k z => by omega)) (k.chg g (by omega) (by omega) (fun j => by omega)) p (by rw [g.2.2.1 _ _ (by omega)]; exact h11) hd
  refine ⟨h2, ?_, f2, f3, t.chg f5 (by omega) (fun j => by omega), f4, (g.mono (fun a k z => by unfold lvA; omega)).trans (f5.mono (fun a k z => by unfold lvA; omega))⟩
  unfold fX8_turn
  rw [if_pos (o_52 hs), g_52_11 hs, Option.bind_some, h11, show (0 : Int32) = Int32.ofNat 0 from rfl, ifLe (by omega) (by omega), if_neg (by omega), R_52_4 hs, Option.bind_some, R_52_7 hs, Option.bind_some, Option.bind_some, i_sub1, A_89 hs hd, Option.bind_some, show Int32.ofNat 0 = 0 from rfl, e1, Option.bind_some, R_52_9 hs1, Option.bind_some, g_52_11 hs1, Option.bind_some, r11, i_sub1, g_52_5 hs1, Option.bind_some, r5, T_123 hs1 hd (kI_01 _), Option.bind_some, f1, Option.bind_some]
theorem e8_merge88 {N d : Nat} (hd : d < 32) : ∀ (m i k : Nat) (h : pH), i + m = 32 → m < k → Sg h → rd h 52 11 = Int32.ofNat d → ∃ h', fX8_merge_88 N k 52 (Int32.ofNat i) h = some h' ∧ (∀ j, j < 32 → rd h' 55 j = if i ≤ j then rd h 55 j &&& rd h (90 + d) j else rd h 55 j) ∧ Chg (fun a _ => a = 55) h h'
  | 0, i, k, h, hi, hk, hs, h11 => by
    obtain ⟨k, rfl⟩ : ∃ k', k = k' + 1 := ⟨k - 1, by omega⟩
    refine ⟨h, ?_, fun j hj => by rw [if_neg (by omega)], Chg.refl _ _⟩
    rw [fX8_merge_88, show (32 : Int32) = Int32.ofNat 32 from rfl, ifLe (by omega) (by omega), if_pos (by omega)]
  | m + 1, i, k, h, hi, hk, hs, h11 => by
    obtain ⟨k, rfl⟩ : ∃ k', k = k' + 1 := ⟨k - 1, by omega⟩
    have g : Chg (fun a _ => a = 55) h (wr h 55 i (rd h 55 i &&& rd h (90 + d) i)) := Chg.wr _ _ _ _ rfl
    obtain ⟨h', e1, e2, e3⟩ := e8_merge88 (N := N) hd m (i + 1) k _ (by omega) (by omega) (hs.wr 55 i (rd h 55 i &&& rd h (90 + d) i)) (by rw [rd_wr_ne _ _ (by omega)]; exact h11)
    refine ⟨h', ?_, fun j hj => ?_, g.trans e3⟩
    · rw [fX8_merge_88, show (32 : Int32) = Int32.ofNat 32 from rfl, ifLe (by omega) (by omega), if_neg (by omega), R_52_4 hs, Option.bind_some, L_55 hs (by omega), Option.bind_some, R_52_7 hs, Option.bind_some, g_52_11 hs, Option.bind_some, h11, A_89 hs hd, Option.bind_some, ldI_sh (sh_90i hs hd) (by omega) (by decide), Option.bind_some, T_55 hs (by omega), Option.bind_some, i_add1]
      exact e1
    · rw [e2 j hj]
      by_cases z : j = i
      · rw [z, if_neg (by omega), if_pos (Nat.le_refl i), W_55 hs]
      · rw [rd_wr_ne _ _ (by omega), rd_wr_ne _ _ (by omega)]
        by_cases y : i + 1 ≤ j
        · rw [if_pos y, if_pos (by omega)]
        · rw [if_neg y, if_neg (by omega)]
theorem CSc.merge {P : Pgm} {D : List Int32 → Prop} {num : List Int32 → Nat} {E0 E1 E2 : EnvV} {M N d : Nat} {h : pH} (hN : 1100 ≤ N) (hs : Sg h) (q : CSc P D num E2 M h) (k : KSc E0 d h) (t : TSc E1 E0.1.length d h) (p : Pfx E0 E2) (h11 : rd h 52 11 = Int32.ofNat (d + 1)) (hd : d < 32) : ∃ h', fX8_merge N 52 h = some h' ∧ CSc P D num (E0.join E1 E2) M h' ∧ rd h' 52 11 = Int32.ofNat d ∧ Chg (lvA d) h h' := by
  obtain ⟨q1, q2, q3, q4, q5, q6, q7⟩ := id q
  obtain ⟨k1, k2, k3⟩ := id k
  obtain ⟨t1, t2⟩ := id t
  have hp := p.le
  have hs1 := hs.wr 52 11 (Int32.ofNat d)
  have hs2 := hs1.wr 52 2 (Int32.ofNat E0.1.length)
  have g : Chg (fun a k => a = 52 ∧ (k = 2 ∨ k = 11)) h (wr (wr h 52 11 (Int32.ofNat d)) 52 2 (Int32.ofNat E0.1.length)) := (Chg.wr _ _ _ _ (by omega)).trans (Chg.wr _ _ _ _ (by omega))
  have s11 : rd (wr (wr h 52 11 (Int32.ofNat d)) 52 2 (Int32.ofNat E0.1.length)) 52 11 = Int32.ofNat d := by rw [rd_wr_ne _ _ (by omega), w_52_11 hs]
  have s2 := w_52_2 hs1 (Int32.ofNat E0.1.length)
  have r124 : rd (wr h 52 11 (Int32.ofNat d)) 124 d = Int32.ofNat E0.1.length := by rw [rd_wr_ne _ _ (by omega)]; exact k2
  have e0 : fX8_merge N 52 h = _ := rfl
  generalize hh : wr (wr h 52 11 (Int32.ofNat d)) 52 2 (Int32.ofNat E0.1.length) = h2 at hs2 g s11 s2
  have z5 : rd h2 52 5 = kI E2.2.1 := by rw [g.2.2.1 _ _ (by omega)]; exact q6
  have z3 : rd h2 52 3 = Int32.ofNat M := by rw [g.2.2.1 _ _ (by omega)]; exact q2
  have z123 : rd h2 123 d = kI E1.2.1 := by rw [g.2.2.1 _ _ (by omega)]; exact t1
  have b1 : btR h2 (90 + d) E0.1.length E1 := fun hD i hi => by rw [g.2.2.1 _ _ (by omega)]; exact t2 hD i hi
  have b2 : btR h2 55 E0.1.length E2 := fun hD i hi => by rw [g.2.2.1 _ _ (by omega)]; exact q7 hD i (by omega)
  have e1 : fX8_merge N 52 h = if E2.2.1 = true then (copyA h2 (90 + d) 0 55 0 32).bind (fun h27 => (getR h27 52 8 9).bind fun t28 => (getI h27 52 8 11).bind fun t29 => (ldZ h27 t28 t29).bind fun t30 => (putZ h27 52 8 5 t30).bind fun h31 => some h31) else if E1.2.1 = true then some h2 else fX8_merge_88 N N 52 0 h2 := by
    unfold fX8_merge
    rw [if_pos (o_52 hs), g_52_11 hs, Option.bind_some, h11, if_neg (show ¬ Int32.ofNat (d + 1) = 0 from i_ne (b := 0) (by omega) (by omega) (by omega)), Option.bind_some, i_sub1, p_52_11 hs, Option.bind_some, R_52_10 hs1, Option.bind_some, g_52_11 hs1, Option.bind_some, w_52_11 hs, L_124 hs1 hd, Option.bind_some, r124, p_52_2 hs1, Option.bind_some, hh, g_52_5 hs2, Option.bind_some, z5, kI_if, R_52_9 hs2, Option.bind_some, g_52_11 hs2, Option.bind_some, s11, L_123 hs2 hd, Option.bind_some, z123, kI_if, R_52_7 hs2, Option.bind_some, Option.bind_some, A_89 hs2 hd, Option.bind_some, R_52_4 hs2, Option.bind_some]
  have fin : ∀ h', (fX8_merge N 52 h = some h') → Chg (fun a k => a = 55 ∨ (a = 52 ∧ k = 5)) h2 h' → rd h' 52 5 = kI (E1.2.1 && E2.2.1) → ((E1.2.1 && E2.2.1) = false → ∀ i, i < E0.1.length → bt (rd h' 55 (i / 32)) (i % 32) = (E1.isS i && E2.isS i)) → ∃ h', fX8_merge N 52 h = some h' ∧ CSc P D num (E0.join E1 E2) M h' ∧ rd h' 52 11 = Int32.ofNat d ∧ Chg (lvA d) h h' := fun h' f1 f2 f3 f4 => by
    refine ⟨h', f1, ⟨?_, ?_, by show E0.1.length ≤ M; omega, q4, fun i x hx => ?_, f3, f4⟩, ?_, (g.mono (fun a k z => by unfold lvA; omega)).trans (f2.mono (fun a k z => by unfold lvA; omega))⟩
    · rw [f2.2.2.1 _ _ (by omega)]; exact s2
    · rw [f2.2.2.1 _ _ (by omega)]; exact z3
    · rw [f2.2.2.1 _ _ (by omega), f2.2.2.1 _ _ (by omega), g.2.2.1 _ _ (by omega), g.2.2.1 _ _ (by omega)]
      exact q5 i x (p.get hx)
    · rw [f2.2.2.1 _ _ (by omega)]; exact s11
  cases hD2 : E2.2.1 with
  | true =>
    rw [hD2, if_pos rfl] at e1
    obtain ⟨h3, c1, c2, c3⟩ := copy32 (sh_90i hs2 hd) (sh_55 hs2)
    have hs3 : Sg h3 := hs2.of c3.1
    have y11 : rd h3 52 11 = Int32.ofNat d := by rw [c3.2.2.1 _ _ (by omega)]; exact s11
    have y123 : rd h3 123 d = kI E1.2.1 := by rw [c3.2.2.1 _ _ (by omega)]; exact z123
    rw [c1, Option.bind_some, R_52_9 hs3, Option.bind_some, g_52_11 hs3, Option.bind_some, y11, L_123 hs3 hd, Option.bind_some, y123, z_52_5 hs3 (kI_01 _), Option.bind_some] at e1
    refine fin _ e1 ((c3.mono (fun a k z => by omega)).trans (Chg.wr _ _ _ _ (by omega))) (by rw [w_52_5 hs3, hD2, Bool.and_true]) (fun hD i hi => ?_)
    rw [hD2, Bool.and_true] at hD
    rw [rd_wr_ne _ _ (by omega), c2 _ (by omega), b1 hD i hi]
    unfold EnvV.isS
    rw [hD, hD2, Bool.false_or, Bool.true_or, Bool.and_true]
  | false =>
    rw [hD2, if_neg Bool.false_ne_true] at e1
    cases hD1 : E1.2.1 with
    | true =>
      rw [hD1, if_pos rfl] at e1
      refine fin _ e1 (Chg.refl _ _) (by rw [z5, hD1, hD2]; rfl) (fun _ i hi => ?_)
      rw [b2 hD2 i hi]
      unfold EnvV.isS
      rw [hD1, hD2, Bool.true_or, Bool.true_and, Bool.false_or]
    | false =>
      rw [hD1, if_neg Bool.false_ne_true] at e1
      obtain ⟨h3, c1, c2, c3⟩ := e8_merge88 (N := N) hd 32 0 N h2 (by omega) (by omega) hs2 s11
      rw [show Int32.ofNat 0 = 0 from rfl] at c1
      rw [c1] at e1
      refine fin _ e1 (c3.mono (fun a k z => by omega)) (by rw [c3.2.2.1 _ _ (by omega), z5, hD1, hD2]; rfl) (fun _ i hi => ?_)
      rw [c2 _ (by omega), if_pos (Nat.zero_le _), bt_and, b1 hD1 i hi, b2 hD2 i hi, Bool.and_comm]
      unfold EnvV.isS
      rw [hD1, hD2, Bool.false_or, Bool.false_or]
