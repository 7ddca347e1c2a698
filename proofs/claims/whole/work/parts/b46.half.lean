/-! ===== THE REFERENCE'S STEPS: input, right sides ===== -/
theorem nI_28 {N n : Nat} {v1 : Int32} {l : List Int32} (hl : l.length = n + 1) (hn : n < 300) : ∀ (d j : Nat) (h : pH), Sg h → rd h 138 80 = Int32.ofNat n → (∀ k x, k < j → l[k + 1]? = some x → rd h 184 k = x) → (∀ k x, j ≤ k → l[k]? = some x → rd h 184 k = x) → j ≤ n → n - j < d → ∃ h', fX12_nextInput_28 N d 138 v1 (Int32.ofNat j) h = some (v1, h') ∧ Chg (fun a _ => a = 184) h h' ∧ ∀ k x, l[k + 1]? = some x → rd h' 184 k = x
  | 0, j, h, sg, h80, h1, h2, hj, hd => by omega
  | d + 1, j, h, sg, h80, h1, h2, hj, hd => by
    by_cases hjn : n ≤ j
    · refine ⟨h, ?_, Chg.refl _ _, fun k x hk => h1 k x ?_ hk⟩
      · rw [fX12_nextInput_28, g_138_80 sg, Option.bind_some, h80, if_pos (by rw [iLe (by omega) (by omega)]; exact hjn)]
      · have := (List.getElem?_eq_some_iff.mp hk).1
        omega
    · have hx : l[j + 1]? = some (l[j + 1]'(by omega)) := List.getElem?_eq_getElem _
      have s1 := sg.wr 184 j (l[j + 1]'(by omega))
      have c1 : Chg (fun a _ => a = 184) h (wr h 184 j (l[j + 1]'(by omega))) := Chg.wr h 184 j _ rfl
      obtain ⟨h', r1, r2, r3⟩ := nI_28 (v1 := v1) (N := N) hl hn d (j + 1) (wr h 184 j (l[j + 1]'(by omega))) s1 (by rw [rd_wr_ne _ _ (by omega)]; exact h80) (fun k x hk hkx => by
        by_cases hkj : k = j
        · subst hkj
          rw [W_184 sg]
          rw [hx] at hkx
          exact Option.some.inj hkx
        · rw [rd_wr_ne _ _ (by omega)]
          exact h1 k x (by omega) hkx) (fun k x hk hkx => by
        rw [rd_wr_ne _ _ (by omega)]
        exact h2 k x (by omega) hkx) (by omega) (by omega)
      refine ⟨h', ?_, c1.trans r2, r3⟩
      rw [fX12_nextInput_28, g_138_80 sg, Option.bind_some, h80, if_neg (by rw [iLe (by omega) (by omega)]; exact hjn), R_138_81 sg]
      simp only [Option.bind_some]
      rw [i_add1, L_184 sg (by omega), Option.bind_some, h2 (j + 1) _ (by omega) hx, T_184 sg (by omega), Option.bind_some]
      exact r1
def inA (a k : Nat) : Prop := a = 184 ∨ (a = 138 ∧ k = 80)
theorem r_next {N : Nat} {G : Gs} {h : pH} (hN : 1000 ≤ N) (sg : Sg h) (q : CnR G h) : ∃ h', fX12_nextInput N 138 h = some (G.2.1.headD 0, h') ∧ CnR (G.1, G.2.1.tail, G.2.2) h' ∧ Chg inA h h' := by
  obtain ⟨q1, q2, q3, q4, q5, q6, q7, q8⟩ := q
  unfold fX12_nextInput
  rw [if_pos (o_138 sg), g_138_80 sg, Option.bind_some, q6]
  rcases hl : G.2.1 with _ | ⟨x, l⟩
  · rw [hl] at q6
    rw [if_pos (by rfl)]
    refine ⟨h, rfl, ⟨q1, q2, q3, q4, q5, q6, Nat.zero_le _, fun j x hj => by cases hj⟩, Chg.refl _ _⟩
  · rw [hl] at q6 q7 q8
    rw [List.length_cons] at q7
    have h0 := q8 0 x rfl
    have s1 := sg.wr 138 80 (Int32.ofNat l.length)
    have c1 : Chg inA h (wr h 138 80 (Int32.ofNat l.length)) := Chg.wr h 138 80 _ (Or.inr ⟨rfl, rfl⟩)
    obtain ⟨h', r1, r2, r3⟩ := nI_28 (N := N) (v1 := x) (l := x :: l) (n := l.length) (by rw [List.length_cons]) (by omega) N 0 (wr h 138 80 (Int32.ofNat l.length)) s1 (w_138_80 sg _) (fun k y hk _ => by omega) (fun k y _ hy => by rw [rd_wr_ne _ _ (by omega)]; exact q8 k y hy) (Nat.zero_le _) (by omega)
    have c : Chg inA h h' := c1.trans (r2.mono (fun a k z => Or.inl z))
    refine ⟨h', ?_, ⟨(c.2.2.1 _ _ (by unfold inA; omega)).trans q1, (c.2.2.1 _ _ (by unfold inA; omega)).trans q2, (c.2.2.1 _ _ (by unfold inA; omega)).trans q3, (c.2.2.1 _ _ (by unfold inA; omega)).trans q4, fun j y hj hy => (c.2.2.1 _ _ (by unfold inA; omega)).trans (q5 j y hj hy), ?_, ?_, fun j y hy => ?_⟩, c⟩
    · rw [List.length_cons, if_neg (show ¬ Int32.ofNat (l.length + 1) = 0 from i_ne (b := 0) (by omega) (by omega) (by omega)), R_138_81 sg, Option.bind_some, show (0 : Int32) = Int32.ofNat 0 from rfl, L_184 sg (by omega), Option.bind_some, h0]
      simp only [Option.bind_some]
      rw [i_sub1, p_138_80 sg, Option.bind_some, r1]
      rfl
    · show rd h' 138 80 = Int32.ofNat l.length
      rw [r2.2.2.1 _ _ (by omega)]
      exact w_138_80 sg _
    · show l.length ≤ 300
      omega
    · exact r3 j y hy
section HF
variable {P : Pgm} {S : Tks} {num : List Int32 → Nat} {N : Nat} {g h : pH} {G : Gs} {i : Nat × Nat × Nat} {lo : List Vl} {ops : List (Bool × Vl)} {E : EnvV} {xs : List Xi} {ks : List Si} {fs : List Fm} {t1 t2 t3 : List It} {B O : Nat → Nat} {L : List Nat} {lb pb : Nat} {tr' : List (Nat × Nat)}
theorem leaf_5 {j v w : Nat} (hN : 1000 ≤ N) (q : ROp P S num g h G i lo ops E xs ks fs t1 t2 t3 B O L lb pb tr') (hj : j < 3200) (e144 : rd g 144 j = 3) (hl : ops.length + 1 ≤ 1999) (hfs : fs.length + 1 ≤ 100) : ∃ h2, fX12_leaf N 138 (Int32.ofNat j) h = some h2 ∧ RRs P S num g h2 (P.actX G i lo ops E 5 v w [] xs ks fs) ∧ Chg (fun a k => fmA a k ∨ inA a k) h h2 := by
  have st := q.st
  have sg := st.1
  obtain ⟨h1, r1, r2, r3⟩ := r_next hN sg q.1.2.2.2.1
  have q' : ROp P S num g h1 (G.1, G.2.1.tail, G.2.2) i lo ops E xs ks fs t1 t2 t3 B O L lb pb tr' := by
    obtain ⟨⟨q1, q2, q3⟩, q4, q5, q6, q7, q8, q9, q10, q11, q12, q13⟩ := q
    exact ⟨⟨(r3.2.2.1 _ _ (by unfold inA; omega)).trans q1, (r3.2.2.1 _ _ (by unfold inA; omega)).trans q2, q3.1.chg r3 (fun a k z => by unfold inA; omega), r2, (r3.2.2.1 _ _ (by unfold inA; omega)).trans q3.2.2.1, q3.2.2.2.chg r3 (fun a k z => by unfold inA; omega)⟩, q4.chg r3 (fun a _ _ => by unfold inA; omega) (fun a k _ _ _ => by unfold inA; omega) (fun a k _ _ _ => by unfold inA; omega), q5.chg r3 (fun a n _ _ _ => by unfold inA; omega) (fun a k _ _ => by unfold inA; omega) (fun a k _ _ => by unfold inA; omega), (r3.2.2.1 _ _ (by unfold inA; omega)).trans q6, (r3.2.2.1 _ _ (by unfold inA; omega)).trans q7, q8.chg r3 (by unfold inA; omega) (fun a k z _ => by unfold inA; omega), q9.chg r3 (by unfold inA; omega) (fun a k z _ => by unfold inA; omega), q10, q11, q12, q13⟩
  obtain ⟨h2, p1, p2, p3⟩ := q'.one (N := N) (x := G.2.1.headD 0) (f := 0) (v := .inl (G.2.1.headD 0)) ⟨rfl, rfl⟩ hl hfs
  refine ⟨h2, ?_, p2, (r3.mono (fun a k z => Or.inr z)).trans (p3.mono (fun a k z => Or.inl z))⟩
  unfold fX12_leaf
  rw [if_pos (o_138 sg), g_138_93 sg, Option.bind_some, R_138_16 sg, Option.bind_some, L_144 sg hj, Option.bind_some, st.2.1 144 j (by omega) (by omega), e144, if_neg (by decide), if_neg (by decide), if_neg (by decide), if_pos rfl, r1, Option.bind_some]
  dsimp only
  rw [p1, Option.bind_some]
/-- parts are taken -/
theorem ROp.cut {h1 : pH} {j : Nat} {xs' : List Xi} (q : ROp P S num g h G i lo ops E xs' ks fs t1 t2 t3 B O L lb pb tr') (c : Chg (fun a k => a = 138 ∧ k = 100) h h1) (h100 : rd h1 138 100 = Int32.ofNat (pb + (um (ops.drop j)).length)) (hx : TdX P S num i.1 E g t1 (nx xs)) : ROp P S num g h1 G i lo (ops.drop j) E xs ks fs t1 t2 t3 B O L lb pb tr' := by
  obtain ⟨⟨q1, q2, q3⟩, q4, q5, q6, q7, q8, q9, q10, q11, q12, q13⟩ := q
  have hfm : ∀ a k, (fun a k => a = 138 ∧ k = 100) a k → fmA a k := fun a k z => by
    have z : a = 138 ∧ k = 100 := z
    unfold fmA
    omega
  refine ⟨⟨(c.2.2.1 _ _ (by omega)).trans q1, (c.2.2.1 _ _ (by omega)).trans q2, q3.chg c hfm⟩, ?_, q5.chg c (fun a n _ _ _ => by omega) (fun a k _ _ => by omega) (fun a k _ _ => by omega), h100, (c.2.2.1 _ _ (by omega)).trans q7, q8.chg c (by omega) (fun a k z _ => by omega), q9.chg c (by omega) (fun a k z _ => by omega), hx, q11, q12, q13⟩
  obtain ⟨k1, k2, k3, k4, k5, k6, k7, k8, k9, k10, k11, k12, k13, k14⟩ := q4
  obtain ⟨p, hp⟩ := um_drop ops j
  refine ⟨(c.2.2.1 _ _ (by omega)).trans k1, k2, (c.2.2.1 _ _ (by omega)).trans k3, (c.2.2.1 _ _ (by omega)).trans k4, (c.2.2.1 _ _ (by omega)).trans k5, k6, k7, k8, ?_, k10, k11, fun j' v' hj => ?_, fun j' v' hj => ?_, fun v' hv' => k14 v' (List.mem_of_mem_drop hv')⟩
  · show (ops.drop j).length ≤ 1999
    have k9 : ops.length ≤ 1999 := k9
    rw [List.length_drop]
    omega
  · rw [c.2.2.1 _ _ (by omega), c.2.2.1 _ _ (by omega)]
    exact k12 j' v' hj
  · have hj : (um (ops.drop j))[j']? = some v' := hj
    have hjl := (List.getElem?_eq_some_iff.mp hj).1
    have hj2 : (um ops)[p.length + j']? = some v' := by
      rw [hp, List.getElem?_append_right (by omega), show p.length + j' - p.length = j' by omega]
      exact hj
    have := k13 _ v' hj2
    dsimp only at this
    rw [hp, List.length_append, show pb + (p.length + (um (ops.drop j)).length) - 1 - (p.length + j') = pb + (um (ops.drop j)).length - 1 - j' by omega] at this
    rw [c.2.2.1 _ _ (by omega), c.2.2.1 _ _ (by omega)]
    exact this
/-- a thing is put on what is to be done -/
theorem ROp.todo {k : Nat} {y : Int32} (q : ROp P S num g h G i lo ops E xs ks fs t1 t2 t3 B O L lb pb tr') (hT : (t1 ++ (t2 ++ (8, Int32.ofNat i.2.1) :: t3)).length < 400000) : ∃ h', fX12_todo N 138 (Int32.ofNat k) y h = some h' ∧ TdH ((k, y) :: (t1 ++ (t2 ++ (8, Int32.ofNat i.2.1) :: t3))) h' ∧ Chg (tdB (t1 ++ (t2 ++ (8, Int32.ofNat i.2.1) :: t3)).length) h h' := by
  obtain ⟨h', r1, r2, r3⟩ := r_todo (N := N) (k := k) (y := y) q.st.1 q.2.2.2.2.2.1 hT
  exact ⟨h', r1, r2, r3.mono (fun a k z => z.b (Nat.le_refl _))⟩
/-- with other things to do -/
theorem ROp.td {h1 : pH} {T : Nat} {E' : EnvV} {xs' : List Xi} {ks' : List Si} {t1' t2' : List It} (q : ROp P S num g h G i lo ops E xs ks fs t1 t2 t3 B O L lb pb tr') (c : Chg (tdB T) h h1) (ht : TdH (t1' ++ (t2' ++ (8, Int32.ofNat i.2.1) :: t3)) h1) (hx : TdX P S num i.1 E' g t1' (nx xs')) (hl : t1'.length ≤ 3000) (hk : TdK P num i.1 (P.mty i.2.1) g ks' t2') (hy : tyE pb ks' = tyE pb ks) (h1k : ks'.length ≤ 104) : ROp P S num g h1 G i lo ops E' xs' ks' fs t1' t2' t3 B O L lb pb tr' := by
  obtain ⟨⟨q1, q2, q3⟩, q4, q5, q6, q7, q8, q9, q10, q11, q12, q13⟩ := q
  have h2k : cty ks' ≤ 51 := by
    rw [← tyE_len pb, hy, tyE_len]
    exact q4.2.2.2.2.2.2.2.2.2.2.1
  refine ⟨⟨(c.2.2.1 _ _ (by unfold tdB; omega)).trans q1, (c.2.2.1 _ _ (by unfold tdB; omega)).trans q2, q3.chg c (fun a k z => by unfold tdB at z; unfold fmA; omega)⟩, (q4.re h1k h2k).chg c (fun a _ _ => by unfold tdB; omega) (fun a k _ _ _ => by unfold tdB; omega) (fun a k _ _ _ => by unfold tdB; omega), q5.chg c (fun a n _ _ _ => by unfold tdB; omega) (fun a k _ _ => by unfold tdB; omega) (fun a k _ _ => by unfold tdB; omega), (c.2.2.1 _ _ (by unfold tdB; omega)).trans q6, (c.2.2.1 _ _ (by unfold tdB; omega)).trans q7, ht, ?_, hx, hl, hk, q13⟩
  rw [hy]
  exact q9.chg c (by unfold tdB; omega) (fun a k z _ => by unfold tdB; omega)
theorem half_v {k j n l : Nat} {b : Tr} {o : Bool × Vl} {ops' : List (Bool × Vl)} {xs0 : List Xi} (q : ROp P S num g h G i lo ops E xs0 ks fs t1 t2 t3 B O L lb pb tr') (hT : (t1 ++ (t2 ++ (8, Int32.ofNat i.2.1) :: t3)).length < 400000) (hx : TdX P S num i.1 E g t1 (nx xs)) (hk : k = 28 ∨ k = 29) (hj : j < 3200) (e144 : rd g 144 j = if k = 28 then 16 else 17) (hb : Ox S b) (hte : P.te i.1 E b = some [1]) (hr : RXn P num i.1 E g b n l) (e146 : rd g 146 j = Int32.ofNat (n + sz b - 1)) (h1 : n + sz b ≤ 3200) (h2 : l + ls b ≤ 3200) (hops : ops = o :: ops') (ho : o.1 = false) (hv : o.2 = .inl 0 ∨ o.2 = .inl 1) (hw : t1.length + 1 ≤ 3000) (hfs : fs.length + 1 ≤ 100) : ∃ h2, fX12_half N 138 (Int32.ofNat j) h = some h2 ∧ RRs P S num g h2 (P.actH G i lo ops E k b xs ks fs) ∧ Chg fmA h h2 := by
  have st := q.st
  have sg := st.1
  obtain ⟨o1, o2⟩ := o
  have ho : o1 = false := ho
  subst ho
  subst hops
  have h100 := q.2.2.2.1
  have hpb : pb ≤ 1999 * fs.length := q.2.1.2.2.2.2.2.2.1
  have hol : ops'.length + 1 ≤ 1999 := q.2.1.2.2.2.2.2.2.2.2.1
  have hul := um_le ops'
  have eu : (um ((false, o2) :: ops')).length = (um ops').length + 1 := rfl
  rw [eu] at h100
  have tp := q.top (j := 0) (v := o2) rfl
  rw [eu, show pb + ((um ops').length + 1) - 1 - 0 = pb + (um ops').length by omega] at tp
  have hov : opV ((false, o2) :: ops') 0 = o2 := rfl
  have hv : o2 = .inl 0 ∨ o2 = .inl 1 := hv
  have e51 : nx (.inl (51, 0, 0, false, []) :: xs) = nx xs := rfl
  have skip : RRs P S num g h (G, .inl ((i, lo, (false, o2) :: ops', E, .inl (51, 0, 0, false, []) :: xs, ks) :: fs)) := by
    have q' := q
    obtain ⟨q1, q4, q5, q6, q7, q8, q9, q10, q11, q12, q13⟩ := q'
    exact ROp.rrs (t1 := t1) (t2 := t2) (t3 := t3) ⟨q1, q4.re q4.2.2.2.2.2.2.2.2.2.1 q4.2.2.2.2.2.2.2.2.2.2.1, q5, q6, q7, q8, q9, hx, q11, q12, q13⟩
  have c1 : Chg (fun a k => a = 138 ∧ k = 100) h (wr h 138 100 (Int32.ofNat (pb + (um ops').length))) := Chg.wr h 138 100 _ ⟨rfl, rfl⟩
  have s1 := sg.wr 138 100 (Int32.ofNat (pb + (um ops').length))
  have q2 : ROp P S num g (wr h 138 100 (Int32.ofNat (pb + (um ops').length))) G i lo ops' E xs ks fs t1 t2 t3 B O L lb pb tr' := q.cut (j := 1) c1 (w_138_100 sg _) hx
  have st2 := q2.st
  obtain ⟨h3, r1, r2, r3⟩ := q2.todo (N := N) (k := 0) (y := Int32.ofNat (n + sz b - 1)) hT
  have r1 : fX12_todo N 138 0 (Int32.ofNat (n + sz b - 1)) (wr h 138 100 (Int32.ofNat (pb + (um ops').length))) = some h3 := r1
  have q3 : ROp P S num g h3 G i lo ops' E (P.flX i.1 E b ++ .inl (51, 0, 0, false, []) :: xs) ks fs ((0, Int32.ofNat (n + sz b - 1)) :: t1) t2 t3 B O L lb pb tr' := q2.td r3 r2 (by
    rw [nx_app, e51]
    exact (TdX.one (It0 hb hte hr h1 h2)).app (a := [_]) hx) hw q2.2.2.2.2.2.2.2.2.2.1 rfl q2.2.1.2.2.2.2.2.2.2.2.2.1
  have go : fX12_half_53 N 138 (Int32.ofNat j) 0 h = some h3 := by
    unfold fX12_half_53
    rw [if_pos rfl, g_138_100 sg, Option.bind_some, h100, ← Nat.add_assoc, i_sub1, p_138_100 sg, Option.bind_some, R_138_18 s1, Option.bind_some, L_146 s1 hj, Option.bind_some, st2.2.1 146 j (by omega) (by omega), e146, r1, Option.bind_some]
  have no : fX12_half_53 N 138 (Int32.ofNat j) 1 h = some h := by
    unfold fX12_half_53
    rw [if_neg (by decide)]
  have cf : Chg fmA h h3 := (c1.mono (fun a k z => by unfold fmA; omega)).trans (r3.mono (fun a k z => by unfold tdB at z; unfold fmA; omega))
  unfold fX12_half Pgm.actH
  rw [if_pos (o_138 sg), R_138_16 sg, Option.bind_some, L_144 sg hj, Option.bind_some, st.2.1 144 j (by omega) (by omega), e144, R_138_101 sg, Option.bind_some, g_138_100 sg, Option.bind_some, h100, ← Nat.add_assoc, i_sub1, L_199 sg (by omega), Option.bind_some, hov]
  rcases hk with rfl | rfl
  · rw [if_pos rfl, if_pos rfl]
    rcases hv with rfl | rfl
    · rw [tp.1, if_pos rfl, no, if_pos (Or.inl ⟨rfl, rfl⟩)]
      exact ⟨h, rfl, skip, Chg.refl _ _⟩
    · rw [tp.1, if_neg (by decide), go, if_neg (show ¬ ((28 = 28 ∧ vI (.inl 1) = 0) ∨ (28 ≠ 28 ∧ vI (.inl 1) ≠ 0)) by decide)]
      exact ⟨h3, rfl, q3.rrs, cf⟩
  · rw [if_neg (show ¬ 29 = 28 by omega), if_neg (show ¬ (17 : Int32) = 16 by decide)]
    simp only [Option.bind_some]
    rw [i_sub1, L_199 sg (by omega), Option.bind_some]
    rcases hv with rfl | rfl
    · rw [tp.1, if_neg (by decide), go, if_neg (show ¬ ((29 = 28 ∧ vI (.inl 0) = 0) ∨ (29 ≠ 28 ∧ vI (.inl 0) ≠ 0)) by decide)]
      exact ⟨h3, rfl, q3.rrs, cf⟩
    · rw [tp.1, if_pos rfl, no, if_pos (show ((29 = 28 ∧ vI (.inl 1) = 0) ∨ (29 ≠ 28 ∧ vI (.inl 1) ≠ 0)) by decide)]
      exact ⟨h, rfl, skip, Chg.refl _ _⟩
end HF
