/-! ===== THE CLASS' WORDS AS THE READER WANTS THEM ===== -/
/-- the number of a name -/
def nmb (r : List (List Int32)) (w : List Int32) : Nat := (fxW ++ r).idxOf w
/-- the context of a text that was split -/
noncomputable def cxT (T : Txt) (r : List (List Int32)) (n : Nat) : Cx := (tkS T, fun i => Int32.ofNat (nmb r (tkW T i)), n)
theorem idxOf_get {l : List (List Int32)} {k : Nat} {w : List Int32} (hd : l.Nodup) (h : l[k]? = some w) : l.idxOf w = k := by
  obtain ⟨hk, e⟩ := List.getElem?_eq_some_iff.mp h
  rw [← e]
  exact List.Nodup.idxOf_getElem hd k hk
theorem WS.name {T : Txt} {r : List (List Int32)} {n i : Nat} {h : pH} (q : WS T r n h) (hi : i ≤ n) (hk : tkK T i = 22) : rd h 10 i = Int32.ofNat (nmb r (tkW T i)) ∧ tkW T i ∈ fxW ++ r ∧ nmb r (tkW T i) < 4000 := by
  obtain ⟨q1, q2, q3, q4, q5, q6, q7, q8⟩ := q
  obtain ⟨k, k1, k2, k3⟩ := (q7 i hi).2.2.1 hk
  have e := idxOf_get q4 k3
  have hlt := (List.getElem?_eq_some_iff.mp k3).1
  have hfx : fxW.length = 29 := rfl
  rw [List.length_append, hfx] at hlt
  unfold nmb
  rw [e]
  exact ⟨k2, List.mem_of_getElem? k3, by omega⟩
theorem WS.wtb {T : Txt} {r : List (List Int32)} {n : Nat} {h : pH} (q : WS T r n h) : WTb (cxT T r n) h := by
  obtain ⟨q1, q2, q3, q4, q5, q6, q7, q8⟩ := id q
  refine ⟨q1, by show n ≤ 3000; omega, fun i => by show tkP T i ≤ 3000; have := (tkP_le T i).1; omega, q6, ?_, fun i hi => ?_, ?_⟩
  · rcases q8 with z | z
    · exact Or.inl z.1
    · exact Or.inr z.1
  · obtain ⟨a1, a2, a3, a4⟩ := q7 i hi
    refine ⟨a1, a2, fun z => (q.name hi z).1, fun z => ?_⟩
    rw [a4 z]
    exact (n2i _).symm
  · rcases q8 with ⟨z1, z2⟩ | ⟨z1, z2, z3⟩
    · exact ⟨n + 1, z2, by show n < n + 1; omega, by omega, fun _ => rfl⟩
    · refine ⟨n + 2, z2, by show n < n + 2; omega, by omega, fun z => ?_⟩
      have z : tkK T n = 0 := z
      rw [z1] at z
      exact absurd z (by decide)
theorem WS.nmC {T : Txt} {r : List (List Int32)} {n : Nat} {h : pH} (q : WS T r n h) : NmC (cxT T r n) := fun i hi hk => ⟨_, (q.name hi hk).2.2, rfl⟩
theorem wl_length (s : Nat → Int32) (P n : Nat) : (wl s P n).length = n := by
  unfold wl
  simp
theorem cxT_kl (T : Txt) (r : List (List Int32)) (n : Nat) : KlC (cxT T r n) := fun i hi => by
  have hn := Tk_class (tk_is T i) hi
  have h2 := tkE_eq T i
  have h4 := tkE_le_P T i
  show tkP T i + 5 ≤ tkP T (i + 1)
  omega
/-- the class' machine forgets -/
def fgH (h : pH) : pH := wr (wr (wr (wr (wr (wr (wr (wr (wr h 128 13 (-1)) 128 14 0) 128 15 0) 128 16 0) 128 17 0) 128 19 0) 128 11 0) 128 6 0) 128 12 0
theorem e5_forget {N : Nat} {h : pH} (hs : Sg h) : fX5_forget N 128 h = some (fgH h) := by
  unfold fX5_forget fgH
  simp only [o_128, R_128_0, R_128_1, R_128_2, R_128_3, R_128_4, g_128_6, p_128_6, R_128_7, R_128_8, R_128_9, R_128_10, g_128_11, p_128_11, g_128_12, p_128_12, g_128_13, p_128_13, g_128_14, p_128_14, g_128_15, p_128_15, g_128_16, p_128_16, g_128_17, p_128_17, R_128_18, g_128_19, p_128_19, R_128_5, hs, Sg_wr, Sg_wrJ, rd_wr_ne, rd_wrJ, rdJ_wr, Option.bind_some, if_true, if_false, i_add1, i_sub1, false_and, and_false, not_false_eq_true, Nat.reduceEqDiff, ne_eq, reduceIte]
def fgA : Nat → Nat → Prop := fun a k => a = 128 ∧ 6 ≤ k
theorem fgH_chg (h : pH) : Chg fgA h (fgH h) := by
  unfold fgH
  refine (((((((Chg.trans (Chg.wr _ _ _ _ ?_) (Chg.wr _ _ _ _ ?_)).trans (Chg.wr _ _ _ _ ?_)).trans (Chg.wr _ _ _ _ ?_)).trans (Chg.wr _ _ _ _ ?_)).trans (Chg.wr _ _ _ _ ?_)).trans (Chg.wr _ _ _ _ ?_)).trans (Chg.wr _ _ _ _ ?_)).trans (Chg.wr _ _ _ _ ?_) <;> unfold fgA <;> omega
theorem fgH_rd {h : pH} (hs : Sg h) : rd (fgH h) 128 13 = -1 ∧ rd (fgH h) 128 14 = 0 ∧ rd (fgH h) 128 15 = 0 ∧ rd (fgH h) 128 16 = 0 ∧ rd (fgH h) 128 17 = 0 ∧ rd (fgH h) 128 19 = 0 ∧ rd (fgH h) 128 11 = 0 := by
  unfold fgH
  simp only [w_128_6, w_128_11, w_128_12, w_128_13, w_128_14, w_128_15, w_128_16, w_128_17, w_128_19, hs, Sg_wr, Sg_wrJ, rd_wr_ne, rd_wrJ, rdJ_wr, Option.bind_some, if_true, if_false, i_add1, i_sub1, false_and, and_false, not_false_eq_true, Nat.reduceEqDiff, ne_eq, reduceIte, and_self]
/-- program() of the class, up to what it has read -/
def pgA : Nat → Nat → Prop := fun a k => (a = 6 ∧ (k = 8 ∨ k = 10)) ∨ fgA a k ∨ wdA a k ∨ eM a k
theorem e11_parse {N L : Nat} {T : Txt} {h : pH} (hN : 3400 ≤ N) (hs : Sg h) (ht : TapeIs T h) (hL : T.2 = L) (e8 : rd h 6 8 = Int32.ofNat L) : ∃ r n, (∀ cs t', (tkS T).prog = ok cs t' → ∃ h', fX11_program N 6 h = ((fX0_check N 50 (Int32.ofNat L) h').bind fun q17 => if 0 ≤ q17.1 then fX11_program_71 N 6 q17.1 q17.2 else (getR q17.2 6 11 5).bind fun t19 => (fX9_check N t19 q17.2).bind fun q20 => fX11_program_71 N 6 q20.1 q20.2) ∧ CPar (cxT T r n) cs h' ∧ WS T r n h' ∧ rd h' 6 8 = 0 ∧ rd h' 6 10 = 0 ∧ (∀ k, rd h' 128 k = rd (fgH h) 128 k) ∧ Chg pgA h h') ∧ (∀ w, (tkS T).prog = no w → ∃ h', fX11_program N 6 h = some (-1 - Int32.ofNat w, h') ∧ w ≤ 3000 ∧ rd h' 6 8 = 0 ∧ rd h' 6 10 = 0 ∧ (∀ k, rd h' 128 k = rd (fgH h) 128 k) ∧ Chg pgA h h') := by
  have s1 := hs.wr 6 8 0
  have s2 := s1.wr 6 10 0
  have c1 : Chg (fun a k => a = 6 ∧ (k = 8 ∨ k = 10)) h (wr (wr h 6 8 0) 6 10 0) := (Chg.wr _ _ _ _ ⟨rfl, Or.inl rfl⟩).trans (Chg.wr _ _ _ _ ⟨rfl, Or.inr rfl⟩)
  have c2 := fgH_chg (wr (wr h 6 8 0) 6 10 0)
  have s3 := c2.sg s2
  have t3 : TapeIs T (fgH (wr (wr h 6 8 0) 6 10 0)) := (ht.chg c1 (fun i => by omega)).chg c2 (fun i => by unfold fgA; omega)
  obtain ⟨h4, r, n, e4, w4, c4⟩ := e10_split (N := N) (by omega) s3 t3
  have s4 := w4.1
  obtain ⟨p1, p2⟩ := e7_read (N := N) w4.nmC (cxT_kl T r n) (by omega) w4.wtb
  have f128 : ∀ {h' : pH}, Chg eM h4 h' → ∀ k, rd h' 128 k = rd (fgH h) 128 k := by
    intro h' c5 k
    rw [c5.2.2.1 _ _ (by unfold eM eA; omega), c4.2.2.1 _ _ (by unfold wdA; omega)]
    unfold fgH
    by_cases hk : k = 6 ∨ k = 11 ∨ k = 12 ∨ k = 13 ∨ k = 14 ∨ k = 15 ∨ k = 16 ∨ k = 17 ∨ k = 19
    · rcases hk with rfl | rfl | rfl | rfl | rfl | rfl | rfl | rfl | rfl <;> simp only [w_128_6, w_128_11, w_128_12, w_128_13, w_128_14, w_128_15, w_128_16, w_128_17, w_128_19, hs, Sg_wr, Sg_wrJ, rd_wr_ne, rd_wrJ, rdJ_wr, Option.bind_some, if_true, if_false, i_add1, i_sub1, false_and, and_false, not_false_eq_true, Nat.reduceEqDiff, ne_eq, reduceIte]
    · have nk : ∀ j x (y : pH), (j = 6 ∨ j = 11 ∨ j = 12 ∨ j = 13 ∨ j = 14 ∨ j = 15 ∨ j = 16 ∨ j = 17 ∨ j = 19) → rd (wr y 128 j x) 128 k = rd y 128 k := fun j x y hj => rd_wr_ne _ _ (by omega)
      simp only [nk, true_or, or_true, Sg_wr, Sg_wrJ, rd_wr_ne, rd_wrJ, rdJ_wr, Option.bind_some, if_true, if_false, i_add1, i_sub1, false_and, and_false, not_false_eq_true, Nat.reduceEqDiff, ne_eq, reduceIte]
  have f6 : ∀ {h' : pH}, Chg eM h4 h' → rd h' 6 8 = 0 ∧ rd h' 6 10 = 0 := by
    intro h' c5
    rw [c5.2.2.1 _ _ (by unfold eM eA; omega), c4.2.2.1 _ _ (by unfold wdA; omega), c2.2.2.1 _ _ (by unfold fgA; omega), c5.2.2.1 _ _ (by unfold eM eA; omega), c4.2.2.1 _ _ (by unfold wdA; omega), c2.2.2.1 _ _ (by unfold fgA; omega), w_6_10 s1, rd_wr_ne _ _ (by omega), w_6_8 hs]
    exact ⟨rfl, rfl⟩
  have cc : ∀ {h' : pH}, Chg eM h4 h' → Chg pgA h h' := fun c5 => (((c1.mono (fun a k z => Or.inl z)).trans (c2.mono (fun a k z => Or.inr (Or.inl z)))).trans (c4.mono (fun a k z => Or.inr (Or.inr (Or.inl z))))).trans (c5.mono (fun a k z => Or.inr (Or.inr (Or.inr z))))
  have start : fX11_program N 6 h = (fX7_read N 46 h4).bind fun q14 => if q14.1 < 0 then (getR q14.2 6 11 4).bind fun t16 => (fX0_check N t16 (Int32.ofNat L) q14.2).bind fun q17 => if 0 ≤ q17.1 then fX11_program_71 N 6 q17.1 q17.2 else (getR q17.2 6 11 5).bind fun t19 => (fX9_check N t19 q17.2).bind fun q20 => fX11_program_71 N 6 q20.1 q20.2 else some (-1 - q14.1, q14.2) := by
    unfold fX11_program
    rw [if_pos (o_6 hs), g_6_8 hs, Option.bind_some, p_6_8 hs, Option.bind_some, z_6_10 s1 (Or.inl rfl), Option.bind_some, R_6_7 s2, Option.bind_some, e5_forget s2, Option.bind_some, R_6_1 s3, Option.bind_some, R_6_0 s3, Option.bind_some, e8, ← hL, e4, Option.bind_some, R_6_3 s4, Option.bind_some]
  refine ⟨r, n, fun cs t' z => ?_, fun w z => ?_⟩
  · obtain ⟨h5, e5, q5, c5⟩ := p1 cs t' z
    refine ⟨h5, ?_, q5, w4.chg c5 (fun a k a1 a2 => by unfold eM eA; omega) (by unfold eM eA; omega), (f6 c5).1, (f6 c5).2, f128 c5, cc c5⟩
    rw [start, e5, Option.bind_some]
    dsimp only
    rw [if_pos (by decide), R_6_4 (c5.sg s4), Option.bind_some]
  · obtain ⟨h5, e5, hw, c5⟩ := p2 w z
    refine ⟨h5, ?_, hw, (f6 c5).1, (f6 c5).2, f128 c5, cc c5⟩
    rw [start, e5, Option.bind_some]
    dsimp only
    rw [if_neg]
    rw [show (0 : Int32) = Int32.ofNat 0 from rfl, iLt (by omega) (by decide)]
    omega
