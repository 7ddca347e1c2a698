/-! ===== THE REFERENCE'S STEPS: choices, rounds, printing ===== -/
section DN
variable {P : Pgm} {S : Tks} {D : List Int32 → Prop} {num : List Int32 → Nat} {N : Nat} {g h : pH} {G : Gs} {i : Nat × Nat × Nat} {lo : List Vl} {ops : List (Bool × Vl)} {E : EnvV} {xs : List Xi} {ks : List Si} {fs : List Fm} {t1 t2 t3 : List It} {B O : Nat → Nat} {L : List Nat} {lb pb : Nat} {tr' : List (Nat × Nat)}
/-- how a statement's step begins -/
theorem done_pre {s : Nat} {K : Int32} (st : StV g h) (hs : s < 1600) (e151 : rd g 151 s = K) {n p : Nat} (h93 : rd h 138 93 = Int32.ofNat (n + 1)) (h100 : rd h 138 100 = Int32.ofNat (p + 1)) : (K = 1 → fX12_done N 138 (Int32.ofNat s) h = ((getI h 138 12 100).bind fun t31 =>
  (putI h 138 12 100 (t31 - (1 : Int32))).bind fun h32 =>
  (getR h32 138 12 96).bind fun t33 =>
  (ldI h32 t33 (Int32.ofNat n)).bind fun t34 =>
  (fX12_todo N 138 (5 : Int32) t34 h32).bind fun h35 =>
  (getR h35 138 12 101).bind fun t36 =>
  (ldI h35 t36 (Int32.ofNat p)).bind fun t37 =>
  if t37 = (1 : Int32) then (
  (getR h35 138 12 34).bind fun t41 =>
  (ldI h35 t41 (Int32.ofNat s)).bind fun t42 =>
  fX12_done_162 N 138 (3 : Int32) t42 h35) else (
  (getR h35 138 12 35).bind fun t39 =>
  (ldI h35 t39 (Int32.ofNat s)).bind fun t40 =>
  fX12_done_162 N 138 (3 : Int32) t40 h35))) ∧ (K = 2 → fX12_done N 138 (Int32.ofNat s) h = ((getI h 138 12 100).bind fun t43 =>
  (putI h 138 12 100 (t43 - (1 : Int32))).bind fun h44 =>
  (getR h44 138 12 101).bind fun t45 =>
  (ldI h44 t45 (Int32.ofNat p)).bind fun t46 =>
  if t46 = 0 then (
  some h44) else (
  (fX12_todo N 138 (4 : Int32) (Int32.ofNat s) h44).bind fun h48 =>
  (getR h48 138 12 29).bind fun t49 =>
  (ldI h48 t49 (Int32.ofNat s)).bind fun t50 =>
  (fX12_todo N 138 (0 : Int32) t50 h48).bind fun h51 =>
  (getR h51 138 12 96).bind fun t52 =>
  (ldI h51 t52 (Int32.ofNat n)).bind fun t53 =>
  (fX12_todo N 138 (5 : Int32) t53 h51).bind fun h54 =>
  (getR h54 138 12 34).bind fun t55 =>
  (ldI h54 t55 (Int32.ofNat s)).bind fun t56 =>
  (fX12_todo N 138 (3 : Int32) t56 h54).bind fun h57 =>
  some h57))) := by
  have sg := st.1
  refine ⟨fun hK => ?_, fun hK => ?_⟩
  · subst hK
    unfold fX12_done
    rw [if_pos (o_138 sg), g_138_93 sg, Option.bind_some, h93, i_sub1, g_138_100 sg, Option.bind_some, h100, i_sub1, R_138_26 sg, Option.bind_some, L_151 sg hs, Option.bind_some, st.2.1 151 s (by omega) (by omega), e151, if_neg (by decide), if_pos rfl]
  · subst hK
    unfold fX12_done
    rw [if_pos (o_138 sg), g_138_93 sg, Option.bind_some, h93, i_sub1, g_138_100 sg, Option.bind_some, h100, i_sub1, R_138_26 sg, Option.bind_some, L_151 sg hs, Option.bind_some, st.2.1 151 s (by omega) (by omega), e151, if_neg (by decide), if_neg (by decide), if_pos rfl]
theorem done_ite {s f p n l : Nat} {e a b r : Tr} {o : Option Nat} {v : Vl} {E2 : EnvV} (q : ROp P S num g h G i lo [(false, v)] E [] ks fs [] t2 t3 B O L lb pb tr') (hlo : lo.length = E.1.length) (hv : v = .inl 0 ∨ v = .inl 1) (hr : RTb P num i.1 (P.mty i.2.1) g (bIte p e a f b r) E o s n l) (hck : P.chk i.1 (P.mty i.2.1) (bIte p e a f b r) E = .inr E2) (hkl : ks.length ≤ 102) (hT : t2.length + t3.length + 20 < 400000) (hfs : fs.length + 1 ≤ 100) : ∃ h2, fX12_done N 138 (Int32.ofNat s) h = some h2 ∧ RRs P S num g h2 (P.actS G i lo [(false, v)] fs (bIte p e a f b r) E ks) ∧ Chg thA h h2 := by
  have st := q.st
  have sg := st.1
  obtain ⟨h100, tp, hb, hol⟩ := q.tp hfs
  have h100 : rd h 138 100 = Int32.ofNat (pb + 1) := h100
  have tp : RV B L (rd h 199 pb) (rd h 200 pb) v := tp
  obtain ⟨hr1, b1, b2, b3⟩ := hr
  obtain ⟨z1, z2, z3⟩ := sz_ite p e a f b r
  rw [z1] at b1; rw [z2] at b2; rw [z3] at b3
  rw [RTc_ite] at hr1
  obtain ⟨-, ⟨r1, -⟩, -, r4, r5, r6, r7, -⟩ := hr1
  have hs : s < 1600 := by omega
  have h93 := q.2.2.2.2.1
  have h195 : rd h 195 fs.length = Int32.ofNat lo.length := q.2.1.2.2.2.1
  have s1 := sg.wr 138 100 (Int32.ofNat pb)
  have q2 : ROp P S num g (wr h 138 100 (Int32.ofNat pb)) G i lo [] E [] ks fs [] t2 t3 B O L lb pb tr' := q.cut (j := 1) (Chg.wr h 138 100 _ ⟨rfl, rfl⟩) (w_138_100 sg _) rfl
  have st2 := q2.st
  have hTl : ([] ++ (t2 ++ (8, Int32.ofNat i.2.1) :: t3)).length < 400000 := by
    rw [List.nil_append, List.length_append, List.length_cons]; omega
  obtain ⟨h3, a1, a2, a3⟩ := q2.todo (N := N) (k := 5) (y := Int32.ofNat lo.length) hTl
  have a1 : fX12_todo N 138 5 (Int32.ofNat lo.length) (wr h 138 100 (Int32.ofNat pb)) = some h3 := a1
  have st3 : StV g h3 := st2.chg a3 (fun a k z => by unfold tdB; omega)
  have e199 : rd h3 199 pb = rd h 199 pb := by
    rw [a3.2.2.1 _ _ (by unfold tdB; omega), rd_wr_ne _ _ (by omega)]
  have hnx : (P.nxE i.1 (P.mty i.2.1) (bIte p e a f b r) E).1.length = E.1.length := by
    obtain ⟨-, E3, -, i3, i4, -⟩ := inv_ite hck
    by_cases hf1 : f = 1
    · obtain ⟨E4, -, j2⟩ := i3 hf1
      rw [j2]; rfl
    · rw [i4 hf1]
  have fin : ∀ (c : Tr) (y : Int32), KtI P num i.1 (P.mty i.2.1) g (0, E, c, false) [(3, y)] → ∃ h4, fX12_done_162 N 138 3 y h3 = some h4 ∧ RRs P S num g h4 (G, .inl ((i, lo, [], E, [], (0, E, c, false) :: (2, P.nxE i.1 (P.mty i.2.1) (bIte p e a f b r) E, nl, false) :: ks) :: fs)) ∧ Chg thA h h4 := fun c y hc => by
    obtain ⟨h4, c1, c2, c3⟩ := r_todo (N := N) (k := 3) (y := y) st3.1 a2 (by rw [List.length_cons, List.nil_append, List.length_append, List.length_cons]; omega)
    have c1 : fX12_todo N 138 3 y h3 = some h4 := c1
    have cc : Chg (tdB ([] ++ (t2 ++ (8, Int32.ofNat i.2.1) :: t3)).length) (wr h 138 100 (Int32.ofNat pb)) h4 := a3.trans (c3.mono (fun a k z => z.b (by rw [List.length_cons]; omega)))
    have q3 : ROp P S num g h4 G i lo [] E [] ((0, E, c, false) :: (2, P.nxE i.1 (P.mty i.2.1) (bIte p e a f b r) E, nl, false) :: ks) fs [] ([(3, y)] ++ ([(5, Int32.ofNat lo.length)] ++ t2)) t3 B O L lb pb tr' := q2.td cc c2 rfl (Nat.zero_le _) ⟨_, _, rfl, hc, _, _, rfl, by rw [KtI_eq, if_neg (by omega), if_neg (by omega), if_pos rfl, hnx, hlo], q2.2.2.2.2.2.2.2.2.2.1⟩ rfl (by show ks.length + 1 + 1 ≤ 104; omega)
    refine ⟨h4, ?_, q3.rrs, ?_⟩
    · unfold fX12_done_162
      rw [c1, Option.bind_some]
    · exact (Chg.wr h 138 100 _ (Or.inl (by unfold fmA; omega))).trans (cc.mono (fun a k z => Or.inl (by unfold tdB at z; unfold fmA; omega)))
  rw [(done_pre (N := N) st hs r1 h93 h100).1 rfl, g_138_100 sg, Option.bind_some, h100, i_sub1, p_138_100 sg, Option.bind_some, R_138_96 s1, Option.bind_some, L_195 s1 (by omega), Option.bind_some, rd_wr_ne _ _ (by omega), h195, a1, Option.bind_some, R_138_101 st3.1, Option.bind_some, L_199 st3.1 (by omega), Option.bind_some, e199]
  have ka : KtI P num i.1 (P.mty i.2.1) g (0, E, a, false) [(3, rd g 159 s)] := by
    rw [KtI_eq, if_pos rfl]
    exact ⟨none, s + 1, n + sz e, l + ls e, ⟨r5, by omega, by omega, by omega⟩, by rw [r4]⟩
  have kb : KtI P num i.1 (P.mty i.2.1) g (0, E, b, false) [(3, rd g 160 s)] := by
    rw [KtI_eq, if_pos rfl]
    exact ⟨none, s + 1 + stB a, n + sz e + szB a, l + ls e + lsB a, ⟨r7, by omega, by omega, by omega⟩, by rw [r6]⟩
  rcases hv with rfl | rfl
  · rw [tp.1, if_neg (by decide), R_138_35 st3.1, Option.bind_some, L_160 st3.1 hs, Option.bind_some, st3.2.1 160 s (by omega) (by omega)]
    exact fin b _ kb
  · rw [tp.1, if_pos rfl, R_138_34 st3.1, Option.bind_some, L_159 st3.1 hs, Option.bind_some, st3.2.1 159 s (by omega) (by omega)]
    exact fin a _ ka
end DN
