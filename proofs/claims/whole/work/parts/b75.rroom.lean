/-! ===== THE REFERENCE makes room ===== -/
def swA (a k : Nat) : Prop := (185 ≤ a ∧ a ≤ 193) ∨ a = 197 ∨ a = 199 ∨ (a = 138 ∧ (k = 73 ∨ k = 82 ∨ k = 89 ∨ k = 90))
section RM
variable {P : Pgm} {hp : List Ob} {H N : Nat} {B O : Nat → Nat} {L bl : List Nat} {h : pH} {fs : List Fm} {lt pt : Nat} {trs : List (Nat × Nat)}
theorem r_sweep {h2 : pH} (hN : 400000 ≤ N) (ho : HO P hp) (q : HpR hp H B O L h) (hL : LwR B L h fs lt pt trs) (h100 : rd h 138 100 = Int32.ofNat pt) (h93 : rd h 138 93 = Int32.ofNat fs.length) (hfs : fs.length ≤ 100) (s2 : Sg h2) (c2 : Chg (fun a k => mkA a k ∨ (a = 138 ∧ k = 73)) h h2) (m : MkR B L bl [] h2) (hiff : ∀ i, i ∈ bl ↔ Rch hp fs i) (h73 : rd h2 138 73 = Int32.ofNat (rcl hp fs)) (hrc : rcl hp fs ≤ tot hp L) : ∃ h' B' O' L', fX12_sweep N 138 h2 = some h' ∧ Sg h' ∧ HpR hp H B' O' L' h' ∧ LwR B' L' h' fs lt pt trs ∧ tot hp L' = rcl hp fs ∧ Chg swA h h' := by
  have hLl := L_len q
  have hbd := hL.bd
  obtain ⟨q1, q2, q3, q4, q5, q6, q7, q8, q9⟩ := id q
  have n2 : ∀ a k, ¬ (mkA a k ∨ (a = 138 ∧ k = 73)) → rd h2 a k = rd h a k := fun a k z => c2.2.2.1 _ _ z
  obtain ⟨m1, m2, m3, -, -⟩ := m
  rw [List.append_nil] at m1 m2 m3
  have hnd : (kp bl L).Nodup := List.Pairwise.filter _ q2.nd
  have hkm : ∀ i, i ∈ kp bl L → 5 ≤ i ∧ i < hp.length := fun i hi => by
    have := q2.bd i (kp_mem.mp hi).1
    exact ⟨this.2.2.2.2.1, this.2.2.2.2.2⟩
  have hly : LyR hp (asB (kp bl L) 5) (asO hp (kp bl L) 0) (kp bl L) 5 0 := LyR.mk hnd hkm
  have hno : ∀ i, i < 5 → i ∉ kp bl L := fun i hi z => by have := (hkm i z).1; omega
  have hts := totL_tot hp L
  obtain ⟨e, he⟩ : ∃ e, N = e + 1 + L.length + 5 := ⟨N - L.length - 6, by omega⟩
  have h82 : rd h2 138 82 = Int32.ofNat (5 + L.length) := by rw [n2 _ _ (by unfold mkA; omega)]; exact q3
  obtain ⟨h3, a1, a2, a3, a4⟩ := num_5 (N := N) 5 0 (e + 1 + L.length) h2 (by omega) s2 ⟨_, h82, by omega, by omega⟩
  obtain ⟨h4, b1, b2, b3, b4⟩ := num_L (N := N) (bl := bl) L 5 0 5 0 (e + 1) h3 q2 hly (by omega) (by omega) (by omega) a2 (by rw [a3.2.2.1 _ _ (by omega)]; exact h82) (fun i hi => by rw [a3.2.2.1 _ _ (by omega)]; exact m3 i (Or.inl hi))
  have c4 : Chg (fun a k => a = 189) h2 h4 := (a3.mono (fun a k z => z.1)).trans (b3.mono (fun a k z => z.1))
  have c04 : Chg (fun a k => mkA a k ∨ (a = 138 ∧ k = 73) ∨ a = 189) h h4 := (c2.mono (fun a k z => by rcases z with z | z; exact Or.inl z; exact Or.inr (Or.inl z))).trans (c4.mono (fun a k z => Or.inr (Or.inr z)))
  have n4 : ∀ a k, ¬ (mkA a k ∨ (a = 138 ∧ k = 73) ∨ a = 189) → rd h4 a k = rd h a k := fun a k z => c04.2.2.1 _ _ z
  have hL4 : LwR B L h4 fs lt pt trs := hL.chg c04 (fun a k _ _ _ => by unfold mkA; omega) (fun a k _ _ => by unfold mkA; omega) (fun a k _ _ => by unfold mkA; omega)
  have hB4 : ∀ i, i ∈ bl → B i < 5200 ∧ rd h4 189 (B i) = Int32.ofNat (asB (kp bl L) 5 i) ∧ (i ∈ kp bl L ∨ i < 5) := fun i hi => by
    have him := m2 i hi
    obtain ⟨x1, -, -⟩ := q.at him
    rcases Nat.lt_or_ge i 5 with z | z
    · refine ⟨by omega, ?_, Or.inr z⟩
      rw [(q1 i z).1, b3.2.2.1 _ _ (by omega), a4 i (by omega) z, asB_no (hno i z)]
    · have hk : i ∈ kp bl L := kp_mem.mpr ⟨him.resolve_right (by omega), hi⟩
      exact ⟨by omega, b4 i hk, Or.inl hk⟩
  obtain ⟨d5, hd5⟩ : ∃ d, N = d + 1 + fs.length := ⟨N - 1 - fs.length, by omega⟩
  obtain ⟨h5, f1, f2, f3, f4, f5⟩ := lw_sw (N := N) (v1 := Int32.ofNat (5 + (kp bl L).length)) (D := fs.length) (by omega) q b2 (by rw [n4 _ _ (by unfold mkA; omega)]; exact h93) hfs fs lt pt trs (d5 + 1) hL4 (Nat.le_refl _)
  have n5 : ∀ a k, ¬ ((a = 193 ∧ k < fs.length) ∨ (a = 197 ∧ k < lt)) → rd h5 a k = rd h4 a k := fun a k z => f3.2.2.1 _ _ z
  have h93' : rd h5 138 93 = Int32.ofNat fs.length := by rw [n5 _ _ (by omega), n4 _ _ (by unfold mkA; omega)]; exact h93
  have h100' : rd h5 138 100 = Int32.ofNat pt := by rw [n5 _ _ (by omega), n4 _ _ (by unfold mkA; omega)]; exact h100
  obtain ⟨d6, hd6⟩ : ∃ d, N = d + 1 + pt := ⟨N - 1 - pt, by omega⟩
  obtain ⟨h6, g1, g2, g3, g4⟩ := pile_sw (N := N) (v1 := Int32.ofNat (5 + (kp bl L).length)) (top := pt) (by omega) pt 0 (d6 + 1) h5 (by omega) f2 h100' (fun k k1 k2 => by
    rw [n5 _ _ (by omega), n5 _ _ (by omega)]
    exact (hL4.okw q).2.2 k (by omega))
  have c56 : Chg (fun a k => a = 193 ∨ a = 197 ∨ a = 199) h4 h6 := (f3.mono (fun a k z => by omega)).trans (g3.mono (fun a k z => by omega))
  have n6 : ∀ a k, ¬ (a = 193 ∨ a = 197 ∨ a = 199) → rd h6 a k = rd h4 a k := fun a k z => c56.2.2.1 _ _ z
  have n60 : ∀ a k, ¬ (a = 193 ∨ a = 197 ∨ a = 199 ∨ mkA a k ∨ (a = 138 ∧ k = 73) ∨ a = 189) → rd h6 a k = rd h a k := fun a k z => (n6 a k (fun y => z (by omega))).trans (n4 a k (fun y => z (Or.inr (Or.inr (Or.inr y)))))
  obtain ⟨h7, k1, k2, k3, k4, k5, k6⟩ := cmp_sw (N := N) (v1 := 5 + (kp bl L).length) (B' := asB (kp bl L) 5) (O' := asO hp (kp bl L) 0) (L' := kp bl L) (bl := bl) (by omega) q L 5 0 5 0 N h6 q2 hly (by omega) (by omega) (by omega) (by omega) (by omega) (by omega) g2 (by rw [n60 _ _ (by unfold mkA; omega)]; exact q3) (fun i hi => by rw [n6 _ _ (by omega), c4.2.2.1 _ _ (by omega)]; exact m3 i (Or.inl hi)) (fun i hi => by rw [n6 _ _ (by omega)]; exact hB4 i hi) (fun i hi => (q9 i hi).of (fun a k z => n60 _ _ (by unfold mkA; omega))) (fun i _ hi ob hob x hx => (hiff x).mpr (fun S z1 z2 => z2 i ob ((hiff i).mp hi S z1 z2) hob x hx))
  have n7 : ∀ a k, ¬ cmA 5 0 a k → rd h7 a k = rd h6 a k := fun a k z => k5.2.2.1 _ _ z
  have htot : tot hp (kp bl L) = rcl hp fs := by
    rw [← cellN_list hnd hkm]
    refine cellN_congr (fun i h5 hl => ?_)
    rw [kp_mem, hiff]
    refine ⟨fun z => z.2, fun z => ⟨(m2 i ((hiff i).mpr z)).resolve_right (by omega), z⟩⟩
  refine ⟨h7, asB (kp bl L) 5, asO hp (kp bl L) 0, kp bl L, ?_, k2, ⟨fun i hi => ⟨asB_no (hno i hi), asO_no (hno i hi), fun ob hob => ?_⟩, hly, k3, by rw [k4, Nat.zero_add], ?_, by omega, q7, ?_, k6⟩, ?_, htot, ?_⟩
  · unfold fX12_sweep
    rw [if_pos (o_138 s2)]
    have e0 : fX12_sweep_4 N N 138 5 0 h2 = fX12_sweep_4 N (e + 1 + L.length + 5) 138 5 (Int32.ofNat 0) h2 := by rw [← he]; rfl
    have e1 : fX12_sweep_4 N (e + 1 + L.length) 138 5 (Int32.ofNat 5) h3 = fX12_sweep_4 N (e + 1) 138 (Int32.ofNat (5 + (kp bl L).length)) (Int32.ofNat (5 + L.length)) h4 := b1
    have h82' : rd h4 138 82 = Int32.ofNat (5 + L.length) := by rw [c4.2.2.1 _ _ (by omega)]; exact h82
    rw [e0, a1, e1, fX12_sweep_4, g_138_82 b2, Option.bind_some, h82', if_pos (Int32.le_refl _)]
    have e2 : fX12_sweep_58 N N 138 (Int32.ofNat (5 + (kp bl L).length)) 0 h4 = fX12_sweep_58 N (d5 + 1 + fs.length) 138 (Int32.ofNat (5 + (kp bl L).length)) (Int32.ofNat 0) h4 := by rw [← hd5]; rfl
    rw [e2, f1, fX12_sweep_58, g_138_93 f2, Option.bind_some, h93', if_pos (Int32.le_refl _)]
    have e3 : fX12_sweep_145 N N 138 (Int32.ofNat (5 + (kp bl L).length)) 0 h5 = fX12_sweep_145 N (d6 + 1 + pt) 138 (Int32.ofNat (5 + (kp bl L).length)) (Int32.ofNat 0) h5 := by rw [← hd6]; rfl
    rw [e3, g1, Nat.zero_add, fX12_sweep_145, g_138_100 g2, Option.bind_some, n60 _ _ (by unfold mkA; omega), h100, if_pos (Int32.le_refl _)]
    exact k1
  · obtain ⟨x1, x2, x3⟩ := q1 i hi
    obtain ⟨y1, y2, y3, -⟩ := x3 ob hob
    rw [x1] at y1 y2 y3
    rw [x2] at y2
    have hob5 : ob = (some i, []) := Option.some.inj (hob.symm.trans (ho.1 i hi))
    rw [asB_no (hno i hi), asO_no (hno i hi)]
    refine ⟨?_, ?_, ?_, fun j v hj => ?_⟩
    · rw [n7 _ _ (by unfold cmA; omega), n60 _ _ (by unfold mkA; omega)]; exact y1
    · rw [n7 _ _ (by unfold cmA; omega), n60 _ _ (by unfold mkA; omega)]; exact y2
    · rw [n7 _ _ (by unfold cmA; omega), n60 _ _ (by unfold mkA; omega)]; exact y3
    · rw [hob5] at hj
      cases hj
  · rw [n7 _ _ (by unfold cmA; omega), n6 _ _ (by omega), c4.2.2.1 _ _ (by omega), htot]; exact h73
  · rw [n7 _ _ (by unfold cmA; omega), n60 _ _ (by unfold mkA; omega)]; exact q8
  · refine LwR.mvd hB4 (fun a k z => by rw [n7 _ _ (by unfold cmA; omega), n6 _ _ (by omega)]) hL4 (fun f hf j hj => (hiff j).mpr (fun S z1 _ => z1 f hf j hj)) (fun n hn => ?_) (fun k hk => ?_) (fun k hk => ?_)
    · rw [n7 _ _ (by unfold cmA; omega), g3.2.2.1 _ _ (by omega)]
      exact f4 n hn
    · rw [n7 _ _ (by unfold cmA; omega), g3.2.2.1 _ _ (by omega)]
      exact f5 k hk
    · rw [n7 _ _ (by unfold cmA; omega), g4 k (by omega) (by omega), mvs_of (h := h4) (fun j => n5 _ _ (by omega)), n5 _ _ (by omega), n5 _ _ (by omega)]
  · refine (c04.mono (fun a k z => ?_)).trans ((c56.mono (fun a k z => ?_)).trans (k5.mono (fun a k z => ?_)))
    · unfold mkA at z
      unfold swA
      omega
    · unfold swA
      omega
    · unfold cmA at z
      unfold swA
      omega
theorem r_room {need : Nat} (hN : 400000 ≤ N) (ho : HO P hp) (sg : Sg h) (q : HpR hp H B O L h) (hL : LwR B L h fs lt pt trs) (h100 : rd h 138 100 = Int32.ofNat pt) (h93 : rd h 138 93 = Int32.ofNat fs.length) (hfs : fs.length ≤ 100) (hnd : need ≤ 100000) : ∃ h' B' O' L', fX12_hasRoom N 138 (Int32.ofNat need) h = some (if rcl hp fs + need ≤ H then 1 else 0, h') ∧ Sg h' ∧ HpR hp H B' O' L' h' ∧ LwR B' L' h' fs lt pt trs ∧ (rcl hp fs + need ≤ H → tot hp L' + need ≤ H) ∧ Chg swA h h' := by
  obtain ⟨bl, h1, a1, a2, a3, a4, a5, a6⟩ := r_marked (N := N) hN ho sg q hL h100 h93 hfs
  have q5 := q.2.2.2.2.1
  have q6 := q.2.2.2.2.2.1
  have q7 := q.2.2.2.2.2.2.1
  have q8 := q.2.2.2.2.2.2.2.1
  have hpre : fX12_hasRoom N 138 (Int32.ofNat need) h = if Int32.ofNat (H - tot hp L) < Int32.ofNat need then ((fX12_marked N 138 h).bind fun q4 =>
  (putI q4.2 138 12 73 q4.1).bind fun h5 =>
  (fX12_sweep N 138 h5).bind fun h6 =>
  (getI h6 138 12 72).bind fun t7 =>
  (getI h6 138 12 73).bind fun t8 =>
  if (t7 - t8) < Int32.ofNat need then (
  some ((0 : Int32), h6)) else (
  some ((1 : Int32), h6))) else some ((1 : Int32), h) := by
    unfold fX12_hasRoom
    rw [if_pos (o_138 sg), g_138_72 sg, Option.bind_some, g_138_73 sg, Option.bind_some, q8, q5, i_subk q6]
  rw [hpre]
  by_cases hlt : H - tot hp L < need
  · have s2 := a2.wr 138 73 (Int32.ofNat (rcl hp fs))
    obtain ⟨h', B', O', L', b1, b2, b3, b4, b5, b6⟩ := r_sweep (N := N) (h2 := wr h1 138 73 (Int32.ofNat (rcl hp fs))) hN ho q hL h100 h93 hfs s2 ((a3.mono (fun a k z => Or.inl z)).trans (Chg.wr h1 138 73 _ (Or.inr ⟨rfl, rfl⟩))) (by
      obtain ⟨m1, m2, m3, m4, m5⟩ := a4
      refine ⟨m1, m2, fun i hi => ?_, ?_, fun j i hj => (by cases hj)⟩
      · rw [rd_wr_ne _ _ (by omega)]; exact m3 i hi
      · rw [rd_wr_ne _ _ (by omega)]; exact m4) a5 (w_138_73 a2 _) a6
    refine ⟨h', B', O', L', ?_, b2, b3, b4, fun z => by omega, b6⟩
    have p5 := b3.2.2.2.2.1
    have p6 := b3.2.2.2.2.2.1
    have p8 := b3.2.2.2.2.2.2.2.1
    rw [if_pos (show Int32.ofNat (H - tot hp L) < Int32.ofNat need by rw [iLt (by omega) (by omega)]; exact hlt), a1, Option.bind_some]
    dsimp only
    rw [p_138_73 a2, Option.bind_some, b1, Option.bind_some, g_138_72 b2, Option.bind_some, g_138_73 b2, Option.bind_some, p8, p5, i_subk p6, b5]
    by_cases z : rcl hp fs + need ≤ H
    · rw [if_neg (show ¬ Int32.ofNat (H - rcl hp fs) < Int32.ofNat need by rw [iLt (by omega) (by omega)]; omega), if_pos z]
    · rw [if_pos (show Int32.ofNat (H - rcl hp fs) < Int32.ofNat need by rw [iLt (by omega) (by omega)]; omega), if_neg z]
  · refine ⟨h, B, O, L, ?_, sg, q, hL, fun z => by omega, Chg.refl _ _⟩
    rw [if_neg (show ¬ Int32.ofNat (H - tot hp L) < Int32.ofNat need by rw [iLt (by omega) (by omega)]; exact hlt), if_pos (by omega)]
end RM
