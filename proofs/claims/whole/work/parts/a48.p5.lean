/-! ===== what the members' check gives; a step of the typer ===== -/
theorem Pgm.badBF_none {P : Pgm} : ∀ {d c : Nat}, P.badBF d c = none → ∀ e, c ≤ e → e < c + d → ∀ m, P.mf e ≤ m → m < P.mf (e + 1) → P.mbad e m = false
  | 0, c, h, e, h1, h2, m, _, _ => by omega
  | d + 1, c, h, e, h1, h2, m, h3, h4 => by
    rw [show P.badBF (d + 1) c = match fstN (P.mbad c) (P.mf (c + 1) - P.mf c) (P.mf c) with
      | some m => some (P.mpl m)
      | none => P.badBF d (c + 1) from rfl] at h
    rcases hf : fstN (P.mbad c) (P.mf (c + 1) - P.mf c) (P.mf c) with _ | m'
    · rw [hf] at h
      by_cases z : e = c
      · subst z
        exact fstN_none hf m h3 (by omega)
      · exact Pgm.badBF_none (d := d) (c := c + 1) h e (by omega) (by omega) m h3 h4
    · rw [hf] at h
      cases h
theorem Pgm.p5 {P : Pgm} (hB : P.badB = none) (hF : ∀ (m : Nat) (b : Mb), P.ms[m]? = some b → b.1 = false → mbP b = 0) : P.P5 := by
  intro m b j hb hj
  have hm := (List.getElem?_eq_some_iff.mp hb).1
  obtain ⟨o1, o2, o3⟩ := Pgm.ow_at hm
  have hc5 : 5 ≤ P.ow m := by
    rcases Nat.lt_or_ge (P.ow m) 5 with z | z
    · have := Pgm.mf_5 (P := P) (c := P.ow m + 1) (by omega)
      omega
    · exact z
  have hmb := Pgm.badBF_none hB (P.ow m) hc5 (by have : P.n = 5 + P.2.length := rfl; omega) m o2 o3
  unfold Pgm.mbad at hmb
  rw [hb] at hmb
  cases hb1 : b.1 with
  | false => have := hF m b hb hb1; omega
  | true =>
    have hmf : P.mfine (P.ow m) m b = true := by
      have h1 : (!(if b.1 = true then P.mfine (P.ow m) m b else P.ffine (P.ow m) m b)) = false := hmb
      rw [hb1, if_pos rfl] at h1
      cases z : P.mfine (P.ow m) m b with
      | true => rfl
      | false => rw [z] at h1; cases h1
    unfold Pgm.mfine at hmf
    have hpf : P.pfine b = true := by
      cases z : P.pfine b with
      | true => rfl
      | false => rw [z, Bool.false_and, Bool.and_false] at hmf; cases hmf
    unfold Pgm.pfine at hpf
    rcases hn : fstN (P.pbad b) (mbP b) 0 with _ | x
    · have := fstN_none hn j (Nat.zero_le _) (by omega)
      unfold Pgm.pbad at this
      intro z
      rw [decide_eq_true z, Bool.true_or] at this
      cases this
    · rw [hn] at hpf
      cases hpf
theorem chk_step {N n i e : Nat} {v1 v2 : Int32} {k2 : Nat → Int32 → pH → Option (Int32 × pH)} {k23 : Nat → Int32 → Int32 → pH → Option (Int32 × pH)} {h : pH} (hs : Sg h) (hi : i ≤ e) (he : e < 3100) : fX9_check_79 N k2 k23 (n + 1) 51 v1 v2 (Int32.ofNat e) (Int32.ofNat i) h = (fX9_isFine N 51 (Int32.ofNat i) (rd h 39 i) (wr h 44 i (rd h 52 2))).bind fun q19 => if q19.1 = 0 then ((getR q19.2 51 9 2).bind fun t21 => (getR q19.2 t21 2 4).bind fun t22 => (ldI q19.2 t22 (Int32.ofNat i)).bind fun t23 => some (t23, q19.2)) else fX9_check_79 N k2 k23 n 51 v1 v2 (Int32.ofNat e) (Int32.ofNat (i + 1)) q19.2 := by
  have hs1 := hs.wr 44 i (rd h 52 2)
  rw [fX9_check_79, ifLt (by omega) (by omega), if_neg (by omega), R_51_2 hs, Option.bind_some, R_38_5 hs, Option.bind_some, R_51_3 hs, Option.bind_some, g_52_2 hs, Option.bind_some, T_44 hs (by omega), Option.bind_some, R_51_2 hs1, Option.bind_some, R_38_0 hs1, Option.bind_some, L_39 hs1 (by omega), Option.bind_some, rd_wr_ne _ _ (by omega), i_add1]
