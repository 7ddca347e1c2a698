/-! ===== THE REFERENCE starts ===== -/
theorem i_ex (x : Int32) : ∃ U, x = Int32.ofNat U := ⟨x.toBitVec.toNat, by
  obtain ⟨⟨b⟩⟩ := x
  show _ = (⟨⟨BitVec.ofNat 32 b.toNat⟩⟩ : Int32)
  rw [BitVec.ofNat_toNat, BitVec.setWidth_eq]⟩
def srA (a k : Nat) : Prop := (a = 138 ∧ 69 ≤ k ∧ k ≠ 71) ∨ (183 ≤ a ∧ a ≤ 204)
theorem rnA.sr (a k : Nat) (h : rnA a k) : srA a k := by
  unfold rnA at h
  unfold srA
  omega
def InR (inp : List Int32) (h : pH) : Prop := rd h 138 80 = Int32.ofNat inp.length ∧ inp.length ≤ 300 ∧ ∀ (j : Nat) (x : Int32), inp[j]? = some x → rd h 184 j = x
def s5A (a k : Nat) : Prop := (185 ≤ a ∧ a ≤ 187) ∨ (a = 138 ∧ (k = 73 ∨ k = 74 ∨ k = 82 ∨ k = 90))
section ST
variable {P : Pgm} {S : Tks} {D : List Int32 → Prop} {num : List Int32 → Nat} {N : Nat} {g : pH}
theorem st_5 (hN : 20000 ≤ N) (hst : Stw P S D num g) : ∀ (r k d : Nat) (h : pH), k + r = 5 → StV g h → rd h 138 82 = Int32.ofNat k → rd h 138 90 = Int32.ofNat 0 → (∀ j, j < k → rd h 185 j = Int32.ofNat j ∧ rd h 186 j = Int32.ofNat 0 ∧ rd h 187 j = Int32.ofNat 0) → ∃ h', fX12_start_93 N (d + r) 138 (Int32.ofNat k) h = fX12_start_93 N d 138 (Int32.ofNat 5) h' ∧ StV g h' ∧ Chg s5A h h' ∧ rd h' 138 82 = Int32.ofNat 5 ∧ rd h' 138 90 = Int32.ofNat 0 ∧ ∀ j, j < 5 → rd h' 185 j = Int32.ofNat j ∧ rd h' 186 j = Int32.ofNat 0 ∧ rd h' 187 j = Int32.ofNat 0
  | 0, k, d, h, hk, st, h82, h90, hz => by
    obtain rfl : k = 5 := by omega
    exact ⟨h, rfl, st, Chg.refl _ _, h82, h90, hz⟩
  | r + 1, k, d, h, hk, st, h82, h90, hz => by
    have ha := hst.1.1.1
    obtain ⟨U, hU⟩ := i_ex (rd h 138 73)
    obtain ⟨M, hM⟩ := i_ex (rd h 138 74)
    obtain ⟨h1, a1, a2, a3, a4, a5, a6, a7, a8, -, -, -, -⟩ := r_object (N := N) (oc := some k) (k := k) (n := 0) (T := 0) hN hst st (by omega) h82 h90 (by omega) hU hM (fun c z => by injection z with z; subst z; exact ⟨by have := n_5 P; omega, (nf_0 ha (by omega)).symm⟩)
    have a1 : fX12_object N 138 (Int32.ofNat k) 0 h = some (Int32.ofNat k, h1) := a1
    have a4 : rd h1 185 k = Int32.ofNat k := a4
    obtain ⟨h', b1, b2, b3, b4, b5, b6⟩ := st_5 hN hst r (k + 1) d h1 (by omega) a2 a7 a8 (fun j hj => by
      by_cases z : j = k
      · subst z
        exact ⟨a4, a5, a6⟩
      · rw [a3.2.2.1 _ _ (by unfold onA; omega), a3.2.2.1 _ _ (by unfold onA; omega), a3.2.2.1 _ _ (by unfold onA; omega)]
        exact hz j (by omega))
    refine ⟨h', ?_, b2, (a3.mono (fun a j z => by unfold onA at z; unfold s5A; omega)).trans b3, b4, b5, b6⟩
    rw [← b1]
    show fX12_start_93 N (d + r + 1) 138 (Int32.ofNat k) h = _
    rw [fX12_start_93, if_neg (show ¬ (5 : Int32) ≤ Int32.ofNat k by rw [show (5 : Int32) = Int32.ofNat 5 from rfl, iLe (by omega) (by omega)]; omega), a1, Option.bind_some, i_add1]
theorem start_ref {inp : List Int32} {H : Nat} {h : pH} (hN : 100000000000 ≤ N) (hst : Stw P S D num g) (hm : P.hm = true) (hms : csM P.2 ≤ 1000) (hH : H ≤ 10000) (st : StV g h) (h56 : rd g 138 56 = 1) (h59 : rd g 138 59 = Int32.ofNat P.mnC) (h71 : rd h 138 71 = Int32.ofNat H) (hin : InR inp h) : ∃ h' n τ, fX12_start N 138 h = some (1, h') ∧ P.Sls n (P.ini inp H) τ ∧ RRt P S num g h' τ ∧ GdM P S τ ∧ Chg srA h h' := by
  have hP := hst.1.1
  obtain ⟨ha, hB, p5, p3, hrest⟩ := id hP
  obtain ⟨m1, m2, m3, b, m4, m5, m6, m7, m8⟩ := hm_get ha hm
  have hnf := nf_ms ha m2
  have hPn := hst.1.2.1.2.2.2.2.2.1
  have hgood := ini_good hP hm hms (inp := inp) hH
  have hfl := Pgm.fts_len ha _ _ rfl m2
  have h166 := (hst.2.1.1.2.2.2.2 _ m2).1
  have sg := st.1
  have e56 : rd h 138 56 = 1 := by rw [st.2.2 56 (by omega) (by omega)]; exact h56
  have e59 : rd h 138 59 = Int32.ofNat P.mnC := by rw [st.2.2 59 (by omega) (by omega)]; exact h59
  have s1 := sg.wr 138 69 1
  have s2 := s1.wr 138 70 0
  have s3 := s2.wr 138 72 (Int32.ofNat (P.rmH H))
  have s4 := s3.wr 138 75 0
  have s5 := s4.wr 138 76 0
  have s6 := s5.wr 138 77 0
  have s7 := s6.wr 138 78 0
  have s8 := s7.wr 138 93 0
  have s9 := s8.wr 138 100 0
  have s10 := s9.wr 138 103 0
  have s11 := s10.wr 138 106 0
  have s12 := s11.wr 138 90 0
  have s13 := s12.wr 138 82 0
  have c13 : Chg (fun a k => a = 138 ∧ (k = 69 ∨ k = 70 ∨ k = 72 ∨ k = 75 ∨ k = 76 ∨ k = 77 ∨ k = 78 ∨ k = 93 ∨ k = 100 ∨ k = 103 ∨ k = 106 ∨ k = 90 ∨ k = 82)) h (wr (wr (wr (wr (wr (wr (wr (wr (wr (wr (wr (wr (wr h 138 69 1) 138 70 0) 138 72 (Int32.ofNat (P.rmH H))) 138 75 0) 138 76 0) 138 77 0) 138 78 0) 138 93 0) 138 100 0) 138 103 0) 138 106 0) 138 90 0) 138 82 0) := (Chg.wr h 138 69 _ (by omega)).trans ((Chg.wr _ 138 70 _ (by omega)).trans ((Chg.wr _ 138 72 _ (by omega)).trans ((Chg.wr _ 138 75 _ (by omega)).trans ((Chg.wr _ 138 76 _ (by omega)).trans ((Chg.wr _ 138 77 _ (by omega)).trans ((Chg.wr _ 138 78 _ (by omega)).trans ((Chg.wr _ 138 93 _ (by omega)).trans ((Chg.wr _ 138 100 _ (by omega)).trans ((Chg.wr _ 138 103 _ (by omega)).trans ((Chg.wr _ 138 106 _ (by omega)).trans ((Chg.wr _ 138 90 _ (by omega)).trans (Chg.wr _ 138 82 _ (by omega)))))))))))))
  have st13 := st.chg c13 (fun a k z => by omega)
  have v69 : rd (wr (wr (wr (wr (wr (wr (wr (wr (wr (wr (wr (wr (wr h 138 69 1) 138 70 0) 138 72 (Int32.ofNat (P.rmH H))) 138 75 0) 138 76 0) 138 77 0) 138 78 0) 138 93 0) 138 100 0) 138 103 0) 138 106 0) 138 90 0) 138 82 0) 138 69 = 1 := by
    rw [rd_wr_ne _ _ (by omega), rd_wr_ne _ _ (by omega), rd_wr_ne _ _ (by omega), rd_wr_ne _ _ (by omega), rd_wr_ne _ _ (by omega), rd_wr_ne _ _ (by omega), rd_wr_ne _ _ (by omega), rd_wr_ne _ _ (by omega), rd_wr_ne _ _ (by omega), rd_wr_ne _ _ (by omega), rd_wr_ne _ _ (by omega), rd_wr_ne _ _ (by omega), w_138_69 sg]
  have v70 : rd (wr (wr (wr (wr (wr (wr (wr (wr (wr (wr (wr (wr (wr h 138 69 1) 138 70 0) 138 72 (Int32.ofNat (P.rmH H))) 138 75 0) 138 76 0) 138 77 0) 138 78 0) 138 93 0) 138 100 0) 138 103 0) 138 106 0) 138 90 0) 138 82 0) 138 70 = 0 := by
    rw [rd_wr_ne _ _ (by omega), rd_wr_ne _ _ (by omega), rd_wr_ne _ _ (by omega), rd_wr_ne _ _ (by omega), rd_wr_ne _ _ (by omega), rd_wr_ne _ _ (by omega), rd_wr_ne _ _ (by omega), rd_wr_ne _ _ (by omega), rd_wr_ne _ _ (by omega), rd_wr_ne _ _ (by omega), rd_wr_ne _ _ (by omega), w_138_70 s1]
  have v72 : rd (wr (wr (wr (wr (wr (wr (wr (wr (wr (wr (wr (wr (wr h 138 69 1) 138 70 0) 138 72 (Int32.ofNat (P.rmH H))) 138 75 0) 138 76 0) 138 77 0) 138 78 0) 138 93 0) 138 100 0) 138 103 0) 138 106 0) 138 90 0) 138 82 0) 138 72 = Int32.ofNat (P.rmH H) := by
    rw [rd_wr_ne _ _ (by omega), rd_wr_ne _ _ (by omega), rd_wr_ne _ _ (by omega), rd_wr_ne _ _ (by omega), rd_wr_ne _ _ (by omega), rd_wr_ne _ _ (by omega), rd_wr_ne _ _ (by omega), rd_wr_ne _ _ (by omega), rd_wr_ne _ _ (by omega), rd_wr_ne _ _ (by omega), w_138_72 s2]
  have v75 : rd (wr (wr (wr (wr (wr (wr (wr (wr (wr (wr (wr (wr (wr h 138 69 1) 138 70 0) 138 72 (Int32.ofNat (P.rmH H))) 138 75 0) 138 76 0) 138 77 0) 138 78 0) 138 93 0) 138 100 0) 138 103 0) 138 106 0) 138 90 0) 138 82 0) 138 75 = 0 := by
    rw [rd_wr_ne _ _ (by omega), rd_wr_ne _ _ (by omega), rd_wr_ne _ _ (by omega), rd_wr_ne _ _ (by omega), rd_wr_ne _ _ (by omega), rd_wr_ne _ _ (by omega), rd_wr_ne _ _ (by omega), rd_wr_ne _ _ (by omega), rd_wr_ne _ _ (by omega), w_138_75 s3]
  have v76 : rd (wr (wr (wr (wr (wr (wr (wr (wr (wr (wr (wr (wr (wr h 138 69 1) 138 70 0) 138 72 (Int32.ofNat (P.rmH H))) 138 75 0) 138 76 0) 138 77 0) 138 78 0) 138 93 0) 138 100 0) 138 103 0) 138 106 0) 138 90 0) 138 82 0) 138 76 = 0 := by
    rw [rd_wr_ne _ _ (by omega), rd_wr_ne _ _ (by omega), rd_wr_ne _ _ (by omega), rd_wr_ne _ _ (by omega), rd_wr_ne _ _ (by omega), rd_wr_ne _ _ (by omega), rd_wr_ne _ _ (by omega), rd_wr_ne _ _ (by omega), w_138_76 s4]
  have v77 : rd (wr (wr (wr (wr (wr (wr (wr (wr (wr (wr (wr (wr (wr h 138 69 1) 138 70 0) 138 72 (Int32.ofNat (P.rmH H))) 138 75 0) 138 76 0) 138 77 0) 138 78 0) 138 93 0) 138 100 0) 138 103 0) 138 106 0) 138 90 0) 138 82 0) 138 77 = 0 := by
    rw [rd_wr_ne _ _ (by omega), rd_wr_ne _ _ (by omega), rd_wr_ne _ _ (by omega), rd_wr_ne _ _ (by omega), rd_wr_ne _ _ (by omega), rd_wr_ne _ _ (by omega), rd_wr_ne _ _ (by omega), w_138_77 s5]
  have v78 : rd (wr (wr (wr (wr (wr (wr (wr (wr (wr (wr (wr (wr (wr h 138 69 1) 138 70 0) 138 72 (Int32.ofNat (P.rmH H))) 138 75 0) 138 76 0) 138 77 0) 138 78 0) 138 93 0) 138 100 0) 138 103 0) 138 106 0) 138 90 0) 138 82 0) 138 78 = 0 := by
    rw [rd_wr_ne _ _ (by omega), rd_wr_ne _ _ (by omega), rd_wr_ne _ _ (by omega), rd_wr_ne _ _ (by omega), rd_wr_ne _ _ (by omega), rd_wr_ne _ _ (by omega), w_138_78 s6]
  have v93 : rd (wr (wr (wr (wr (wr (wr (wr (wr (wr (wr (wr (wr (wr h 138 69 1) 138 70 0) 138 72 (Int32.ofNat (P.rmH H))) 138 75 0) 138 76 0) 138 77 0) 138 78 0) 138 93 0) 138 100 0) 138 103 0) 138 106 0) 138 90 0) 138 82 0) 138 93 = 0 := by
    rw [rd_wr_ne _ _ (by omega), rd_wr_ne _ _ (by omega), rd_wr_ne _ _ (by omega), rd_wr_ne _ _ (by omega), rd_wr_ne _ _ (by omega), w_138_93 s7]
  have v100 : rd (wr (wr (wr (wr (wr (wr (wr (wr (wr (wr (wr (wr (wr h 138 69 1) 138 70 0) 138 72 (Int32.ofNat (P.rmH H))) 138 75 0) 138 76 0) 138 77 0) 138 78 0) 138 93 0) 138 100 0) 138 103 0) 138 106 0) 138 90 0) 138 82 0) 138 100 = 0 := by
    rw [rd_wr_ne _ _ (by omega), rd_wr_ne _ _ (by omega), rd_wr_ne _ _ (by omega), rd_wr_ne _ _ (by omega), w_138_100 s8]
  have v103 : rd (wr (wr (wr (wr (wr (wr (wr (wr (wr (wr (wr (wr (wr h 138 69 1) 138 70 0) 138 72 (Int32.ofNat (P.rmH H))) 138 75 0) 138 76 0) 138 77 0) 138 78 0) 138 93 0) 138 100 0) 138 103 0) 138 106 0) 138 90 0) 138 82 0) 138 103 = 0 := by
    rw [rd_wr_ne _ _ (by omega), rd_wr_ne _ _ (by omega), rd_wr_ne _ _ (by omega), w_138_103 s9]
  have v106 : rd (wr (wr (wr (wr (wr (wr (wr (wr (wr (wr (wr (wr (wr h 138 69 1) 138 70 0) 138 72 (Int32.ofNat (P.rmH H))) 138 75 0) 138 76 0) 138 77 0) 138 78 0) 138 93 0) 138 100 0) 138 103 0) 138 106 0) 138 90 0) 138 82 0) 138 106 = 0 := by
    rw [rd_wr_ne _ _ (by omega), rd_wr_ne _ _ (by omega), w_138_106 s10]
  have v90 : rd (wr (wr (wr (wr (wr (wr (wr (wr (wr (wr (wr (wr (wr h 138 69 1) 138 70 0) 138 72 (Int32.ofNat (P.rmH H))) 138 75 0) 138 76 0) 138 77 0) 138 78 0) 138 93 0) 138 100 0) 138 103 0) 138 106 0) 138 90 0) 138 82 0) 138 90 = 0 := by
    rw [rd_wr_ne _ _ (by omega), w_138_90 s11]
  have v82 := w_138_82 s12 0
  have epre : fX12_start N 138 h = fX12_start_93 N N 138 0 (wr (wr (wr (wr (wr (wr (wr (wr (wr (wr (wr (wr (wr h 138 69 1) 138 70 0) 138 72 (Int32.ofNat (P.rmH H))) 138 75 0) 138 76 0) 138 77 0) 138 78 0) 138 93 0) 138 100 0) 138 103 0) 138 106 0) 138 90 0) 138 82 0) := by
    have e72 : (if Int32.ofNat H < (2 : Int32) + Int32.ofNat (P.nf P.mnC) then (2 : Int32) + Int32.ofNat (P.nf P.mnC) else Int32.ofNat H) = Int32.ofNat (P.rmH H) := by
      rw [show (2 : Int32) = Int32.ofNat 2 from rfl, ← Int32.ofNat_add]
      unfold Pgm.rmH
      by_cases z : H < 2 + P.nf P.mnC
      · rw [if_pos (show Int32.ofNat H < Int32.ofNat (2 + P.nf P.mnC) by rw [iLt (by omega) (by omega)]; exact z), if_pos z]
      · rw [if_neg (show ¬ Int32.ofNat H < Int32.ofNat (2 + P.nf P.mnC) by rw [iLt (by omega) (by omega)]; exact z), if_neg z]
    unfold fX12_start
    rw [if_pos (o_138 sg), g_138_56 sg, Option.bind_some, e56, if_neg (by decide), z_138_69 sg (Or.inr rfl), Option.bind_some, p_138_70 s1, Option.bind_some, g_138_71 s2, Option.bind_some, rd_wr_ne _ _ (by omega), rd_wr_ne _ _ (by omega), h71, R_138_42 s2, Option.bind_some, g_138_59 s2, Option.bind_some, rd_wr_ne _ _ (by omega), rd_wr_ne _ _ (by omega), e59, L_166 s2 (by omega), Option.bind_some, rd_wr_ne _ _ (by omega), rd_wr_ne _ _ (by omega), st.2.1 166 _ (by omega) (by omega), h166, e72, p_138_72 s2, Option.bind_some, p_138_75 s3, Option.bind_some, p_138_76 s4, Option.bind_some, p_138_77 s5, Option.bind_some, p_138_78 s6, Option.bind_some, p_138_93 s7, Option.bind_some, p_138_100 s8, Option.bind_some, p_138_103 s9, Option.bind_some, p_138_106 s10, Option.bind_some, p_138_90 s11, Option.bind_some, p_138_82 s12, Option.bind_some]
  rw [epre]
  generalize (wr (wr (wr (wr (wr (wr (wr (wr (wr (wr (wr (wr (wr h 138 69 1) 138 70 0) 138 72 (Int32.ofNat (P.rmH H))) 138 75 0) 138 76 0) 138 77 0) 138 78 0) 138 93 0) 138 100 0) 138 103 0) 138 106 0) 138 90 0) 138 82 0) = h0 at *
  obtain ⟨d, hd⟩ : ∃ d, N = d + 1 + 5 := ⟨N - 6, by omega⟩
  obtain ⟨h1, a1, a2, a3, a4, a5, a6⟩ := st_5 (N := N) (by omega) hst 5 0 (d + 1) h0 (by omega) st13 v82 v90 (fun j hj => absurd hj (by omega))
  have sg1 := a2.1
  have t1 := sg1.wr 138 73 0
  have t2 := t1.wr 138 74 0
  have c2 : Chg (fun a k => a = 138 ∧ (k = 73 ∨ k = 74)) h1 (wr (wr h1 138 73 0) 138 74 0) := (Chg.wr h1 138 73 _ (by omega)).trans (Chg.wr _ 138 74 _ (by omega))
  have st2 := a2.chg c2 (fun a k z => by omega)
  obtain ⟨h3, b1, b2, b3, b4, b5, b6, b7, b8, b9, b10, b11, b12⟩ := r_object (N := N) (oc := some P.mnC) (k := 5) (n := P.nf P.mnC) (T := 0) (U := 0) (M := 0) (by omega) hst st2 (by omega) (by rw [c2.2.2.1 _ _ (by omega)]; exact a4) (by rw [c2.2.2.1 _ _ (by omega)]; exact a5) (by omega) (by rw [rd_wr_ne _ _ (by omega)]; exact w_138_73 sg1 _) (w_138_74 t1 _) (fun c z => by injection z with z; subst z; exact ⟨m2, rfl⟩)
  have b1 : fX12_object N 138 (Int32.ofNat P.mnC) (Int32.ofNat (P.nf P.mnC)) (wr (wr h1 138 73 0) 138 74 0) = some (Int32.ofNat 5, h3) := b1
  have c03 : Chg (fun a k => s5A a k ∨ (a = 138 ∧ (k = 73 ∨ k = 74)) ∨ onA 5 0 (P.nf P.mnC) a k) h0 h3 := (a3.mono (fun a k z => Or.inl z)).trans ((c2.mono (fun a k z => Or.inr (Or.inl z))).trans (b3.mono (fun a k z => Or.inr (Or.inr z))))
  have n3 : ∀ k, ¬ (k = 73 ∨ k = 74 ∨ k = 82 ∨ k = 90) → rd h3 138 k = rd h0 138 k := fun k z => c03.2.2.1 _ _ (by unfold s5A onA; omega)
  have hb : RBs g (P.iniG inp H) (fun j => j) (fun _ => 0) [5] h3 := by
    have hlen : ((P.fts P.mnC).map dfl).length = P.nf P.mnC := by rw [List.length_map, hfl]
    have ho5 : obL (flt0 ++ [(some P.mnC, (P.fts P.mnC).map dfl)]) 5 = P.nf P.mnC := hlen
    refine ⟨b2, ⟨?_, ?_, ?_, ?_, fun j x _ hj => (by cases hj), ?_, hin.2.1, fun j x hj => ?_⟩, ?_, ⟨fun i hi => ⟨rfl, rfl, fun ob hob => ?_⟩, ⟨rfl, rfl, fun z => (by cases z), by omega, by show 5 < 6; omega, trivial⟩, b7, ?_, ?_, ?_, ?_, ?_, fun i hi => ?_⟩⟩
    · rw [n3 _ (by omega)]; exact v75
    · rw [b10]
      show Int32.ofNat (0 + (2 + P.nf P.mnC)) = Int32.ofNat (2 + P.nf P.mnC)
      rw [Nat.zero_add]
    · rw [n3 _ (by omega)]; exact v76
    · rw [n3 _ (by omega)]; exact v78
    · rw [n3 _ (by omega), c13.2.2.1 _ _ (by omega)]; exact hin.1
    · rw [c03.2.2.1 _ _ (by unfold s5A onA; omega), c13.2.2.1 _ _ (by omega)]; exact hin.2.2 j x hj
    · rw [n3 _ (by omega)]; exact v69
    · have hob' : ob = (some i, []) := by
        have e := (flt_HO ha).1 i hi
        have hl5 : i < flt0.length := hi
        have hob : (flt0 ++ [(some P.mnC, (P.fts P.mnC).map dfl)])[i]? = some ob := hob
        rw [List.getElem?_append_left hl5, e] at hob
        exact (Option.some.inj hob).symm
      obtain ⟨z1, z2, z3⟩ := a6 i hi
      rw [hob']
      refine ⟨?_, ?_, ?_, fun j v hj => (by cases hj)⟩
      · show rd h3 185 i = _
        rw [b3.2.2.1 _ _ (by unfold onA; omega), c2.2.2.1 _ _ (by omega)]; exact z1
      · show rd h3 186 i = _
        rw [b3.2.2.1 _ _ (by unfold onA; omega), c2.2.2.1 _ _ (by omega)]; exact z2
      · show rd h3 187 i = _
        rw [b3.2.2.1 _ _ (by unfold onA; omega), c2.2.2.1 _ _ (by omega)]; exact z3
    · rw [b8]
      show _ = Int32.ofNat (obL (flt0 ++ [(some P.mnC, (P.fts P.mnC).map dfl)]) 5 + 0)
      rw [ho5, Nat.zero_add, Nat.add_zero]
    · rw [b9]
      show _ = Int32.ofNat (2 + obL (flt0 ++ [(some P.mnC, (P.fts P.mnC).map dfl)]) 5 + 0)
      rw [ho5, Nat.zero_add, Nat.add_zero]
    · show 2 + obL (flt0 ++ [(some P.mnC, (P.fts P.mnC).map dfl)]) 5 + 0 ≤ P.rmH H
      rw [ho5]
      unfold Pgm.rmH
      split <;> omega
    · show P.rmH H ≤ 10000
      unfold Pgm.rmH
      split <;> omega
    · rw [n3 _ (by omega)]; exact v72
    · obtain rfl := List.mem_singleton.mp hi
      intro ob hob
      have hob : (flt0 ++ [(some P.mnC, (P.fts P.mnC).map dfl)])[5]? = some ob := hob
      have e5 : (flt0 ++ [(some P.mnC, (P.fts P.mnC).map dfl)])[5]? = some (some P.mnC, (P.fts P.mnC).map dfl) := rfl
      rw [e5] at hob
      obtain rfl := Option.some.inj hob
      refine ⟨b4, b5, by rw [b6, hlen], fun j v hj => ?_⟩
      exact b12 _ _ j v hj
  have ehad := RT.memberOf (N := N) (kk := true) (w := knW 6) (b2.rt hst.1.2.1) (b2.rpr hst.1.2.2) ha (by omega) (hst.1.2.1.2.2.2.1 6 (by omega)).1 m2
  rw [m3, (hst.1.2.1.2.2.2.1 6 (by omega)).2] at ehad
  have ehad : fX12_memberOf N 138 (Int32.ofNat P.mnC) 6 1 h3 = some (Int32.ofNat P.mnM, h3) := ehad
  have hLw : LwR (fun j => j) [5] h3 [] 0 0 [] := ⟨rfl, rfl, rfl⟩
  have hTd : TdH [] h3 := ⟨by rw [n3 _ (by omega)]; exact v103, fun j it hj => (by cases hj)⟩
  have hTr : TrH [] h3 := ⟨by rw [n3 _ (by omega)]; exact v106, fun j it hj => (by cases hj)⟩
  obtain ⟨h4, d1, d2, d3, d4, d5, d6, d7, d8⟩ := r_open (N := N) (m := P.mnM) (v := 0) (bs := 0) (x := Int32.ofNat 5) (as := []) (by omega) hst m4 m5 b2 (by rw [n3 _ (by omega)]; exact v93) (by show 0 < 100; omega) hLw rfl (by omega) (by omega) (fun j x hj => (by cases hj)) hTd (by show 0 + 2 < 400000; omega)
  have d1 : fX12_begin N 138 (Int32.ofNat 5) (Int32.ofNat P.mnM) 0 0 h3 = some h4 := d1
  have sg4 := d2.sg b2.1
  have c5 : Chg (fun a k => (a = 138 ∧ k = 100) ∨ (a = 196 ∧ k = 0)) h4 (wr h4 196 0 0) := Chg.wr h4 196 0 _ (by omega)
  obtain ⟨f1, f2⟩ := open_rr (o := 5) (v := 0) (as := []) hst m4 m5 (by rw [n3 _ (by omega)]; exact v70) (by rw [n3 _ (by omega)]; exact v77) hb (by show 0 < 100; omega) hLw rfl (by omega) (rfl : TdF P S num g [] []) hTr (Or.inl (List.mem_singleton.mpr rfl)) d2 d3 d4 d5 d6 d7 d8 c5 (by rw [rd_wr_ne _ _ (by omega), d2.2.2.1 _ _ (by unfold opA; omega), n3 _ (by omega)]; exact v100) (W_196 sg4 _ _)
  obtain ⟨n, τ, h5, g1, g2, g3, g4, g5⟩ := rsettle (N := N) hN hP.2.2.2.2.1 hgood f1
  refine ⟨h5, n, τ, ?_, g1, g4, g2, ?_⟩
  · have e0 : fX12_start_93 N N 138 0 h0 = fX12_start_93 N (d + 1 + 5) 138 (Int32.ofNat 0) h0 := by rw [← hd]; rfl
    have q59 : rd (wr (wr h1 138 73 0) 138 74 0) 138 59 = Int32.ofNat P.mnC := by rw [st2.2.2 59 (by omega) (by omega)]; exact h59
    have q59' : rd h3 138 59 = Int32.ofNat P.mnC := by rw [b2.2.2 59 (by omega) (by omega)]; exact h59
    rw [e0, a1, fX12_start_93, if_pos (by decide), p_138_73 sg1, Option.bind_some, p_138_74 t1, Option.bind_some, g_138_59 t2, Option.bind_some, q59, R_138_42 t2, Option.bind_some, Option.bind_some, L_166 t2 (by omega), Option.bind_some, st2.2.1 166 _ (by omega) (by omega), h166, b1, Option.bind_some, g_138_59 b2.1, Option.bind_some, q59', ehad, Option.bind_some, d1, Option.bind_some, R_138_97 sg4, Option.bind_some, show stI h4 196 0 0 = some (wr h4 196 0 0) from T_196 sg4 (i := 0) (by omega) 0, Option.bind_some, g3, Option.bind_some]
  · refine (c13.mono (fun a k z => ?_)).trans ((c03.mono (fun a k z => ?_)).trans ((f2.mono (fun a k z => rnA.sr a k (fmA.rn a k z))).trans (g5.mono (fun a k z => rnA.sr a k (fmA.rn a k z)))))
    · unfold srA
      omega
    · unfold s5A onA at z
      unfold srA
      omega
end ST
