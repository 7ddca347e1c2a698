/-! ===== THE REFERENCE'S STEPS: a method returns ===== -/
section RT2
variable {P : Pgm} {S : Tks} {D : List Int32 → Prop} {num : List Int32 → Nat} {N : Nat} {g h : pH} {G : Gs} {i : Nat × Nat × Nat} {lo : List Vl} {ops : List (Bool × Vl)} {E : EnvV} {xs : List Xi} {ks : List Si} {fs : List Fm} {t1 t2 t3 : List It} {B O : Nat → Nat} {L : List Nat} {lb pb : Nat} {tr' : List (Nat × Nat)}
theorem rr_ret {z : Bool} {v : Vl} {x f : Int32} (hN : 400000 ≤ N) (q : ROp P S num g h G i lo ops E [] ks fs [] t2 t3 B O L lb pb tr') (hz : z = true → v = .inl 0) (hv : RV B L x f v) (hm : fs = [] → ∃ n, v = .inl n) (hcap : ∀ f2 fs2, fs = f2 :: fs2 → f2.2.2.1.length + 1 ≤ 1999) (hfs : fs.length + 1 ≤ 100) : ∃ h', fX12_returns_60 N N 138 (if z = true then 0 else 1) x f h = some h' ∧ RRs P S num g h' (retM G z v fs) ∧ Chg fmA h h' := by
  obtain ⟨⟨q1, q2, q3⟩, q4, q5, q6, q7, q8, q9, q10, q11, q12, q13⟩ := q
  have st := q3.1
  have hl2 := q12.len
  have hkl : ks.length ≤ 104 := q4.2.2.2.2.2.2.2.2.2.1
  have hl3 := q13.len q5
  have q8 : TdH (t2 ++ (8, Int32.ofNat i.2.1) :: t3) h := q8
  obtain ⟨h1, r1, r2, r3, r4⟩ := ret_ks (N := N) (v2 := if z = true then 0 else 1) (v3 := x) (v4 := f) (pb := pb) (tr' := tr') ks t2 h q12 st q8 (by rw [List.length_cons]; omega) q9
  have st1 : StV g h1 := st.chg r4 (fun a k z => by unfold puT; omega)
  have sg1 := st1.1
  obtain ⟨N', hN'⟩ : ∃ N', N = N' + 1 + t2.length := ⟨N - 1 - t2.length, by omega⟩
  have c1 : Chg fmA h h1 := r4.mono (fun a k z => by unfold puT at z; unfold fmA; omega)
  have e93 : rd h1 138 93 = Int32.ofNat (fs.length + 1) := (r4.2.2.1 _ _ (by unfold puT; omega)).trans q7
  have s2 := sg1.wr 138 103 (Int32.ofNat t3.length)
  have s3 := s2.wr 138 93 (Int32.ofNat fs.length)
  have c3 : Chg (fun a k => a = 138 ∧ (k = 103 ∨ k = 93)) h1 (wr (wr h1 138 103 (Int32.ofNat t3.length)) 138 93 (Int32.ofNat fs.length)) := (Chg.wr h1 138 103 _ (by omega)).trans (Chg.wr _ 138 93 _ (by omega))
  have c13 : Chg (fun a k => a = 138 ∧ (k = 103 ∨ k = 93 ∨ k = 106)) h (wr (wr h1 138 103 (Int32.ofNat t3.length)) 138 93 (Int32.ofNat fs.length)) := (r4.mono (fun a k z => by unfold puT at z; omega)).trans (c3.mono (fun a k z => by omega))
  obtain ⟨p1, p2, p3, p4⟩ := r2.pop sg1
  have p2 : rd h1 201 t3.length = 8 := p2
  have pre : fX12_returns_60 N N 138 (if z = true then 0 else 1) x f h = (if Int32.ofNat fs.length = 0 then ((putI (wr (wr h1 138 103 (Int32.ofNat t3.length)) 138 93 (Int32.ofNat fs.length)) 138 12 77 x).bind fun h17 => (fX12_ends N 138 (1 : Int32) h17).bind fun h18 => some h18) else ((getR (wr (wr h1 138 103 (Int32.ofNat t3.length)) 138 93 (Int32.ofNat fs.length)) 138 12 97).bind fun t11 => (getI (wr (wr h1 138 103 (Int32.ofNat t3.length)) 138 93 (Int32.ofNat fs.length)) 138 12 93).bind fun t12 => (ldI (wr (wr h1 138 103 (Int32.ofNat t3.length)) 138 93 (Int32.ofNat fs.length)) t11 t12).bind fun t13 => (putI (wr (wr h1 138 103 (Int32.ofNat t3.length)) 138 93 (Int32.ofNat fs.length)) 138 12 100 t13).bind fun h14 => if (if z = true then (0 : Int32) else 1) = 0 then some h14 else ((fX12_push N 138 x f h14).bind fun h16 => some h16))) := by
    have e := r1 (N' + 1)
    rw [← hN'] at e
    rw [e, fX12_returns_60, R_138_104 sg1, Option.bind_some, g_138_103 sg1, Option.bind_some, p4, i_sub1, L_201 sg1 (by omega), Option.bind_some, p2, if_pos rfl]
    simp only [Option.bind_some]
    rw [i_sub1, p_138_103 sg1, Option.bind_some, g_138_93 s2, Option.bind_some, rd_wr_ne _ _ (by omega), e93, i_sub1, p_138_93 s2, Option.bind_some, g_138_93 s3, Option.bind_some, w_138_93 s2]
  rw [pre]
  match fs, q4, q5, q7, q13, hm, hcap, hfs, e93, s3, c3, c13, hl3 with
  | [], q4, q5, q7, q13, hm, hcap, hfs, e93, s3, c3, c13, hl3 =>
    rw [if_pos (by rfl), p_138_77 s3, Option.bind_some]
    have s4 := s3.wr 138 77 x
    obtain ⟨h', d1, d2, d3, d4, d5, d6⟩ := r_ends (N := N) (k := 1) s4
    have d1 : fX12_ends N 138 1 (wr (wr (wr h1 138 103 (Int32.ofNat t3.length)) 138 93 (Int32.ofNat ([] : List Fm).length)) 138 77 x) = some h' := d1
    obtain ⟨n, rfl⟩ := hm rfl
    have hx : x = n := hv.1
    subst hx
    have c5 : Chg fmA h h' := (c13.mono (fun a k z => by unfold fmA; omega)).trans ((Chg.wr _ 138 77 _ (by unfold fmA; omega)).trans d2)
    rw [d1, Option.bind_some]
    exact ⟨h', rfl, ⟨st.chg c5 (fun a k z => by unfold fmA; omega), q3.2.1.chg c5 (fun a k z => by unfold fmA; omega), (c5.2.2.1 _ _ (by unfold fmA; omega)).trans q3.2.2.1, d3, by rw [d6]; exact w_138_77 s3 _, d4, d5, by omega, by omega⟩, c5⟩
  | (i2, lo2, ops2, E2, xs2, ks2) :: fs2, q4, q5, q7, q13, hm, hcap, hfs, e93, s3, c3, c13, hl3 =>
    have hc := hcap _ _ rfl
    dsimp only at hc
    rw [List.length_cons] at hfs
    have e196 : rd (wr (wr h1 138 103 (Int32.ofNat t3.length)) 138 93 (Int32.ofNat (fs2.length + 1))) 196 (fs2.length + 1) = Int32.ofNat pb := (c13.2.2.1 _ _ (by omega)).trans q4.2.2.2.2.1
    have s3 : Sg (wr (wr h1 138 103 (Int32.ofNat t3.length)) 138 93 (Int32.ofNat (fs2.length + 1))) := s3
    have c4 : Chg (fun a k => a = 138 ∧ (k = 103 ∨ k = 93 ∨ k = 106 ∨ k = 100)) h (wr (wr (wr h1 138 103 (Int32.ofNat t3.length)) 138 93 (Int32.ofNat (fs2.length + 1))) 138 100 (Int32.ofNat pb)) := (c13.mono (fun a k z => by omega)).trans (Chg.wr _ 138 100 _ (by omega))
    have hfm : ∀ a k, (fun a k => a = 138 ∧ (k = 103 ∨ k = 93 ∨ k = 106 ∨ k = 100)) a k → fmA a k := fun a k z => by
      have z : a = 138 ∧ (k = 103 ∨ k = 93 ∨ k = 106 ∨ k = 100) := z
      unfold fmA
      omega
    obtain ⟨lb2, pb2, tr2, w1, w2, w3, w4, w5⟩ := q5
    obtain ⟨u1, u2, u3, rfl, x1, x2, x3, x4⟩ := q13
    subst w4
    have w3 : pb = pb2 + (um ops2).length := w3
    have c34 : Chg (fun a k => a = 138 ∧ (k = 93 ∨ k = 100)) (wr h1 138 103 (Int32.ofNat (u1 ++ (u2 ++ (8, Int32.ofNat i2.2.1) :: u3)).length)) (wr (wr (wr h1 138 103 (Int32.ofNat (u1 ++ (u2 ++ (8, Int32.ofNat i2.2.1) :: u3)).length)) 138 93 (Int32.ofNat (fs2.length + 1))) 138 100 (Int32.ofNat pb)) := (Chg.wr _ 138 93 _ (by omega)).trans (Chg.wr _ 138 100 _ (by omega))
    have c14 : Chg (fun a k => a = 138 ∧ (k = 103 ∨ k = 93 ∨ k = 100)) h1 (wr (wr (wr h1 138 103 (Int32.ofNat (u1 ++ (u2 ++ (8, Int32.ofNat i2.2.1) :: u3)).length)) 138 93 (Int32.ofNat (fs2.length + 1))) 138 100 (Int32.ofNat pb)) := (Chg.wr h1 138 103 _ (by omega)).trans (c34.mono (fun a k z => by omega))
    have q' : ROp P S num g (wr (wr (wr h1 138 103 (Int32.ofNat (u1 ++ (u2 ++ (8, Int32.ofNat i2.2.1) :: u3)).length)) 138 93 (Int32.ofNat (fs2.length + 1))) 138 100 (Int32.ofNat pb)) G i2 lo2 ops2 E2 xs2 ks2 fs2 u1 u2 u3 B O L lb2 pb2 tr2 := ⟨⟨(c4.2.2.1 _ _ (by omega)).trans q1, (c4.2.2.1 _ _ (by omega)).trans q2, q3.chg c4 hfm⟩, w1.chg c4 (fun a _ _ => by omega) (fun a k _ _ _ => by omega) (fun a k _ _ _ => by omega), w5.chg c4 (fun a n _ _ _ => by omega) (fun a k _ _ => by omega) (fun a k _ _ => by omega), by rw [w_138_100 s3, w3], by rw [rd_wr_ne _ _ (by omega)]; exact w_138_93 s2 _, p1.chg c34 (by omega) (fun a k z _ => by omega), r3.chg c14 (by omega) (fun a k z _ => by omega), x1, x2, x3, x4⟩
    rw [List.length_cons, if_neg (show ¬ Int32.ofNat (fs2.length + 1) = 0 from i_ne (b := 0) (by omega) (by omega) (by omega)), R_138_97 s3, Option.bind_some, g_138_93 s3, Option.bind_some, w_138_93 s2, L_196 s3 (by omega), Option.bind_some, e196, p_138_100 s3, Option.bind_some]
    cases z with
    | true =>
      rw [if_pos rfl, if_pos rfl]
      have hv0 := hz rfl
      subst hv0
      refine ⟨_, rfl, ?_, c4.mono hfm⟩
      obtain ⟨g1, g2, g3⟩ := q'
      exact ROp.rrs (B := B) (O := O) (L := L) (t1 := u1) (t2 := u2) (t3 := u3) (lb := lb2) (pb := pb2) (tr' := tr2) ⟨g1, g2.mk hc (Or.inl rfl), g3⟩
    | false =>
      rw [if_neg (by decide)]
      obtain ⟨h5, k1, k2, k3⟩ := q'.one (N := N) hv hc (by omega)
      rw [k1, Option.bind_some]
      exact ⟨h5, rfl, k2, (c4.mono hfm).trans k3⟩
end RT2
