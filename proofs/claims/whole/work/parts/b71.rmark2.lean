/-! ===== THE REFERENCE marks: frames, pile, what waits ===== -/
section MF
variable {P : Pgm} {hp : List Ob} {H N : Nat} {B O : Nat → Nat} {L bl : List Nat} {h0 : pH}
theorem frm_mk {n lb pb D : Nat} {f : Fm} (hN : 1000 ≤ N) (q : HpR hp H B O L h0) (hD : rd h0 138 93 = Int32.ofNat D) (hn : n < D) (hD1 : D ≤ 100) (F : FrR B L h0 n f lb pb) (d : Nat) (gr : List Nat) (h : pH) (c : Chg mkA h0 h) (sg : Sg h) (m : MkR B L bl gr h) : ∃ gr' h', fX12_marked_30 N (d + 1) 138 (Int32.ofNat n) h = fX12_marked_30 N d 138 (Int32.ofNat (n + 1)) h' ∧ Sg h' ∧ Chg mkA h0 h' ∧ MkR B L bl gr' h' ∧ Scn bl (fun j => j = f.1.2.2 ∨ Sum.inr (some j) ∈ f.2.1) gr gr' := by
  obtain ⟨k1, k2, k3, k4, k5, k6, k7, k8, k9, k10, k11, k12, k13, k14⟩ := F
  obtain ⟨gr1, h1, a1, a2, a3, a4, a5⟩ := r_reach (N := N) q c sg m k2
  obtain ⟨e, he⟩ : ∃ e, N = e + 1 + f.2.1.length := ⟨N - 1 - f.2.1.length, by omega⟩
  obtain ⟨gr2, h2, b1, b2, b3, b4, b5⟩ := loc_mk (N := N) (k30 := fX12_marked_30 N d) (n := n) (by omega) k3 k4 rfl (by omega) q f.2.1 lb (e + 1) gr1 h1 a3 a2 a4 k12 (Nat.le_refl _)
  refine ⟨gr2, h2, ?_, b2, b3, b4, a5.app b5⟩
  rw [fX12_marked_30, g_138_93 sg, Option.bind_some, c.2.2.1 _ _ (by unfold mkA; omega), hD, if_neg (by rw [iLe (by omega) (by omega)]; omega), R_138_94 sg, Option.bind_some, L_193 sg (by omega), Option.bind_some, c.2.2.1 193 n (by unfold mkA; omega), k1, a1, Option.bind_some, R_138_95 a2, Option.bind_some, L_194 a2 (by omega), Option.bind_some, a3.2.2.1 194 n (by unfold mkA; omega), k3]
  have e1 : fX12_marked_55 N (fX12_marked_30 N d) N 138 (Int32.ofNat n) (Int32.ofNat lb) h1 = fX12_marked_55 N (fX12_marked_30 N d) (e + 1 + f.2.1.length) 138 (Int32.ofNat n) (Int32.ofNat lb) h1 := by rw [← he]
  rw [e1, b1, fX12_marked_55, R_138_95 b2, Option.bind_some, L_194 b2 (by omega), Option.bind_some, R_138_96 b2, Option.bind_some, L_195 b2 (by omega), Option.bind_some, b3.2.2.1 194 n (by unfold mkA; omega), b3.2.2.1 195 n (by unfold mkA; omega), k3, k4, ← Int32.ofNat_add, if_pos (Int32.le_refl _), i_add1]
theorem lw_mk {D : Nat} (hN : 1000 ≤ N) (q : HpR hp H B O L h0) (hD : rd h0 138 93 = Int32.ofNat D) (hD1 : D ≤ 100) : ∀ (fs : List Fm) (lt pt : Nat) (trs : List (Nat × Nat)), LwR B L h0 fs lt pt trs → fs.length ≤ D → ∀ (d : Nat) (gr : List Nat) (h : pH), Chg mkA h0 h → Sg h → MkR B L bl gr h → ∃ gr' h', fX12_marked_30 N (d + fs.length) 138 (Int32.ofNat 0) h = fX12_marked_30 N d 138 (Int32.ofNat fs.length) h' ∧ Sg h' ∧ Chg mkA h0 h' ∧ MkR B L bl gr' h' ∧ Scn bl (fun j => ∃ f, f ∈ fs ∧ (j = f.1.2.2 ∨ Sum.inr (some j) ∈ f.2.1)) gr gr'
  | [], lt, pt, trs, hL, hf, d, gr, h, c, sg, m => ⟨gr, h, rfl, sg, c, m, Scn.no (fun i z => by obtain ⟨f, z1, -⟩ := z; cases z1)⟩
  | f :: fs, lt, pt, trs, hL, hf, d, gr, h, c, sg, m => by
    rw [List.length_cons] at hf
    obtain ⟨lb, pb, tr', F, -, -, -, hL'⟩ := hL
    obtain ⟨gr1, h1, a1, a2, a3, a4, a5⟩ := lw_mk hN q hD hD1 fs _ _ _ hL' (by omega) (d + 1) gr h c sg m
    obtain ⟨gr2, h2, b1, b2, b3, b4, b5⟩ := frm_mk hN q hD (by omega) hD1 F d gr1 h1 a3 a2 a4
    refine ⟨gr2, h2, ?_, b2, b3, b4, (a5.app b5).iff (fun j => ?_)⟩
    · rw [List.length_cons, show d + (fs.length + 1) = d + 1 + fs.length by omega, a1, b1]
    · constructor
      · rintro (⟨f', z1, z2⟩ | z)
        · exact ⟨f', List.mem_cons_of_mem _ z1, z2⟩
        · exact ⟨f, List.mem_cons_self .., z⟩
      · rintro ⟨f', z1, z2⟩
        rcases List.mem_cons.mp z1 with rfl | z1
        · exact Or.inr z2
        · exact Or.inl ⟨f', z1, z2⟩
theorem FrR.rvs {n lb pb : Nat} {f : Fm} (F : FrR B L h0 n f lb pb) : RVs B L 199 200 pb h0 (um f.2.2.1).reverse := fun j v hj => by
  have hjl := (List.getElem?_eq_some_iff.mp hj).1
  rw [List.length_reverse] at hjl
  rw [rev_get _ hjl] at hj
  have := F.2.2.2.2.2.2.2.2.2.2.2.2.1 _ v hj
  rw [show pb + (um f.2.2.1).length - 1 - ((um f.2.2.1).length - 1 - j) = pb + j by omega] at this
  exact this
theorem pil_mk {top : Nat} (q : HpR hp H B O L h0) (h100 : rd h0 138 100 = Int32.ofNat top) (htop : top ≤ 200000) : ∀ (fs : List Fm) (lt pt : Nat) (trs : List (Nat × Nat)), LwR B L h0 fs lt pt trs → pt ≤ top → ∀ (d : Nat) (gr : List Nat) (h : pH), Chg mkA h0 h → Sg h → MkR B L bl gr h → ∃ gr' h', fX12_marked_105 N (d + pt) 138 (Int32.ofNat 0) h = fX12_marked_105 N d 138 (Int32.ofNat pt) h' ∧ Sg h' ∧ Chg mkA h0 h' ∧ MkR B L bl gr' h' ∧ Scn bl (fun j => ∃ f, f ∈ fs ∧ Sum.inr (some j) ∈ um f.2.2.1) gr gr'
  | [], lt, pt, trs, hL, hf, d, gr, h, c, sg, m => by
    obtain ⟨-, rfl, -⟩ := hL
    exact ⟨gr, h, rfl, sg, c, m, Scn.no (fun i z => by obtain ⟨f, z1, -⟩ := z; cases z1)⟩
  | f :: fs, lt, pt, trs, hL, hf, d, gr, h, c, sg, m => by
    obtain ⟨lb, pb, tr', F, -, ept, -, hL'⟩ := hL
    obtain ⟨gr1, h1, a1, a2, a3, a4, a5⟩ := pil_mk q h100 htop fs _ _ _ hL' (by omega) (d + (um f.2.2.1).reverse.length) gr h c sg m
    obtain ⟨gr2, h2, b1, b2, b3, b4, b5⟩ := pile_mk (N := N) h100 htop q (um f.2.2.1).reverse pb d gr1 h1 a3 a2 a4 F.rvs (by rw [List.length_reverse]; omega)
    refine ⟨gr2, h2, ?_, b2, b3, b4, (a5.app b5).iff (fun j => ?_)⟩
    · rw [show d + pt = d + (um f.2.2.1).reverse.length + pb by rw [List.length_reverse]; omega, a1, b1, show pb + (um f.2.2.1).reverse.length = pt by rw [List.length_reverse]; omega]
    · constructor
      · rintro (⟨f', z1, z2⟩ | z)
        · exact ⟨f', List.mem_cons_of_mem _ z1, z2⟩
        · exact ⟨f, List.mem_cons_self .., List.mem_reverse.mp z⟩
      · rintro ⟨f', z1, z2⟩
        rcases List.mem_cons.mp z1 with rfl | z1
        · exact Or.inr (List.mem_reverse.mpr z2)
        · exact Or.inl ⟨f', z1, z2⟩
def tot5 (hp : List Ob) : List Nat → Nat
  | [] => 0
  | i :: l => (if 5 ≤ i then 2 + obL hp i else 0) + tot5 hp l
theorem tot5_eq (hp : List Ob) : ∀ (l : List Nat), tot5 hp l = tot hp (l.filter (fun i => decide (5 ≤ i)))
  | [] => rfl
  | i :: l => by
    by_cases h : 5 ≤ i
    · rw [List.filter_cons_of_pos (by rw [decide_eq_true h])]
      show (if 5 ≤ i then 2 + obL hp i else 0) + tot5 hp l = 2 + obL hp i + tot hp (l.filter (fun i => decide (5 ≤ i)))
      rw [if_pos h, tot5_eq hp l]
    · rw [List.filter_cons_of_neg (by rw [decide_eq_false h]; decide)]
      show (if 5 ≤ i then 2 + obL hp i else 0) + tot5 hp l = _
      rw [if_neg h, tot5_eq hp l, Nat.zero_add]
theorem HpR.has (ho : HO P hp) (q : HpR hp H B O L h0) {i : Nat} (hi : i ∈ L ∨ i < 5) : ∃ ob, hp[i]? = some ob ∧ (i < 5 → ob.2 = []) ∧ (5 ≤ B i ↔ 5 ≤ i) := by
  rcases Nat.lt_or_ge i 5 with h5 | h5
  · exact ⟨_, ho.1 i h5, fun _ => rfl, by rw [(q.1 i h5).1]⟩
  · have hL : i ∈ L := hi.resolve_right (by omega)
    have := q.2.1.bd i hL
    exact ⟨_, List.getElem?_eq_getElem this.2.2.2.2.2, fun z => absurd z (by omega), ⟨fun _ => h5, fun _ => this.1⟩⟩
theorem wl_mk (hN : 20000 ≤ N) (ho : HO P hp) (q : HpR hp H B O L h0) (R : Nat → Prop) (hR : ∀ (j : Nat) (ob : Ob), R j → hp[j]? = some ob → ∀ x, Sum.inr (some x) ∈ ob.2 → R x) : ∀ (d : Nat) (bl gr : List Nat) (h : pH), Chg mkA h0 h → Sg h → MkR B L bl gr h → (∀ i, i ∈ bl ++ gr → R i) → (∀ i, i ∈ bl → ∀ ob : Ob, hp[i]? = some ob → ∀ x, Sum.inr (some x) ∈ ob.2 → x ∈ bl ++ gr) → L.length + 5 - bl.length < d → ∃ bl' h', fX12_marked_140 N d 138 (Int32.ofNat (tot5 hp bl)) h = some (Int32.ofNat (tot5 hp bl'), h') ∧ Sg h' ∧ Chg mkA h0 h' ∧ MkR B L bl' [] h' ∧ (∀ i, i ∈ bl ++ gr → i ∈ bl') ∧ (∀ i, i ∈ bl' → R i) ∧ ∀ i, i ∈ bl' → ∀ ob : Ob, hp[i]? = some ob → ∀ x, Sum.inr (some x) ∈ ob.2 → x ∈ bl'
  | 0, bl, gr, h, c, sg, m, hr, hc, hd => by omega
  | d + 1, bl, [], h, c, sg, m, hr, hc, hd => by
    rw [List.append_nil] at hr hc ⊢
    refine ⟨bl, h, ?_, sg, c, m, fun i z => z, hr, hc⟩
    rw [fX12_marked_140, g_138_89 sg, Option.bind_some, m.2.2.2.1, if_pos (by decide)]
  | d + 1, bl, i :: gr, h, c, sg, m, hr, hc, hd => by
    have hlen := m.len q
    rw [List.length_cons] at hlen
    have hLl := L_len q
    obtain ⟨m1, m2, m3, m4, m5⟩ := m
    have m4 : rd h 138 89 = Int32.ofNat (gr.length + 1) := m4
    have hi := m2 i (List.mem_append_right _ (List.mem_cons_self ..))
    obtain ⟨b1, b2, b3⟩ := q.at hi
    obtain ⟨ob, o1, o2, o3⟩ := q.has ho hi
    obtain ⟨-, c2, c3, c4⟩ := b2 _ o1
    have hobl : obL hp i = ob.2.length := by unfold obL; rw [o1]
    have htop : O i + ob.2.length ≤ 12000 := by
      rcases Nat.lt_or_ge i 5 with z | z
      · rw [o2 z, (q.1 i z).2.1]; exact Nat.zero_le _
      · rw [if_neg (by omega), hobl] at b3; omega
    have s1 := sg.wr 138 89 (Int32.ofNat gr.length)
    have e190 : rd h 190 gr.length = Int32.ofNat (B i) := by
      have := m5 0 i rfl
      rw [List.length_cons, show gr.length + 1 - 1 - 0 = gr.length by omega] at this
      exact this
    have hmem : ∀ j, j ∈ (i :: bl) ++ gr ↔ j ∈ bl ++ i :: gr := fun j => by
      rw [List.mem_append, List.mem_append, List.mem_cons, List.mem_cons]
      constructor
      · rintro ((z | z) | z)
        · exact Or.inr (Or.inl z)
        · exact Or.inl z
        · exact Or.inr (Or.inr z)
      · rintro (z | z | z)
        · exact Or.inl (Or.inr z)
        · exact Or.inl (Or.inl z)
        · exact Or.inr z
    have m' : MkR B L (i :: bl) gr (wr h 138 89 (Int32.ofNat gr.length)) := by
      refine ⟨(List.perm_middle (l₁ := bl) (l₂ := gr) (a := i)).nodup_iff.mp m1, fun j hj => m2 j ((hmem j).mp hj), fun j hj => ?_, w_138_89 sg _, fun j k hj => ?_⟩
      · rw [rd_wr_ne _ _ (by omega), m3 j hj]
        by_cases y : j ∈ bl ++ i :: gr
        · rw [if_pos y, if_pos ((hmem j).mpr y)]
        · rw [if_neg y, if_neg (fun z => y ((hmem j).mp z))]
      · rw [rd_wr_ne _ _ (by omega)]
        have hjl := (List.getElem?_eq_some_iff.mp hj).1
        have := m5 (j + 1) k hj
        rw [List.length_cons, show gr.length + 1 - 1 - (j + 1) = gr.length - 1 - j by omega] at this
        exact this
    have c' : Chg mkA h0 (wr h 138 89 (Int32.ofNat gr.length)) := c.trans (Chg.wr _ 138 89 _ (by unfold mkA; omega))
    obtain ⟨e, he⟩ : ∃ e, N = e + 1 + ob.2.length := ⟨N - 1 - ob.2.length, by omega⟩
    obtain ⟨gr', h', a1, a2, a3, a4, a5⟩ := fld_mk (N := N) (k140 := fX12_marked_140 N d) (v1 := Int32.ofNat (tot5 hp (i :: bl))) (n := B i) (by omega) c2 c3 rfl htop q ob.2 (O i) (e + 1) gr _ c' s1 m' c4 (Nat.le_refl _)
    have hnd : bl.length ≤ L.length + 5 := by omega
    obtain ⟨bl', h'', f1, f2, f3, f4, f5, f6, f7⟩ := wl_mk hN ho q R hR d (i :: bl) gr' h' a3 a2 a4 (fun j hj => by
      rcases List.mem_append.mp hj with z | z
      · exact hr j ((hmem j).mp (List.mem_append_left _ z))
      · rcases a5.2.1 j z with y | y
        · exact hr j ((hmem j).mp (List.mem_append_right _ y))
        · exact hR i ob (hr i (List.mem_append_right _ (List.mem_cons_self ..))) o1 j y) (fun j hj ob' ho' x hx => by
      rcases List.mem_cons.mp hj with rfl | hj
      · rw [o1] at ho'
        obtain rfl := Option.some.inj ho'
        exact a5.2.2 x hx
      · have := hc j hj ob' ho' x hx
        rcases List.mem_append.mp ((hmem x).mpr this) with y | y
        · exact List.mem_append_left _ y
        · exact List.mem_append_right _ (a5.1 x y)) (by rw [List.length_cons]; omega)
    refine ⟨bl', h'', ?_, f2, f3, f4, fun j hj => ?_, f6, f7⟩
    · rw [← f1]
      have e1 : fX12_marked_194 N (fX12_marked_140 N d) N 138 (Int32.ofNat (tot5 hp (i :: bl))) (Int32.ofNat (B i)) (Int32.ofNat (O i)) (wr h 138 89 (Int32.ofNat gr.length)) = fX12_marked_140 N d 138 (Int32.ofNat (tot5 hp (i :: bl))) h' := by
        have e2 : fX12_marked_194 N (fX12_marked_140 N d) N 138 (Int32.ofNat (tot5 hp (i :: bl))) (Int32.ofNat (B i)) (Int32.ofNat (O i)) (wr h 138 89 (Int32.ofNat gr.length)) = fX12_marked_194 N (fX12_marked_140 N d) (e + 1 + ob.2.length) 138 (Int32.ofNat (tot5 hp (i :: bl))) (Int32.ofNat (B i)) (Int32.ofNat (O i)) (wr h 138 89 (Int32.ofNat gr.length)) := by rw [← he]
        rw [e2, a1, fX12_marked_194, R_138_84 a2, Option.bind_some, L_186 a2 (by omega), Option.bind_some, R_138_85 a2, Option.bind_some, L_187 a2 (by omega), Option.bind_some, a3.2.2.1 186 (B i) (by unfold mkA; omega), a3.2.2.1 187 (B i) (by unfold mkA; omega), c2, c3, ← Int32.ofNat_add, if_pos (Int32.le_refl _)]
      have e3 : ∀ s, Int32.ofNat (tot5 hp bl) + s = Int32.ofNat (tot5 hp (i :: bl)) → fX12_marked_185 N (fX12_marked_140 N d) 138 (Int32.ofNat (B i)) (Int32.ofNat (tot5 hp bl)) s (wr h 138 89 (Int32.ofNat gr.length)) = fX12_marked_140 N d 138 (Int32.ofNat (tot5 hp (i :: bl))) h' := fun s hs => by
        unfold fX12_marked_185
        rw [R_138_84 s1, Option.bind_some, L_186 s1 (by omega), Option.bind_some, c'.2.2.1 186 (B i) (by unfold mkA; omega), c2, hs, e1]
      rw [fX12_marked_140, g_138_89 sg, Option.bind_some, m4, if_neg (show ¬ Int32.ofNat (gr.length + 1) ≤ (0 : Int32) by rw [show (0 : Int32) = Int32.ofNat 0 from rfl, iLe (by omega) (by omega)]; omega), Option.bind_some, i_sub1, p_138_89 sg, Option.bind_some, R_138_88 s1, Option.bind_some, g_138_89 s1, Option.bind_some, w_138_89 sg, L_190 s1 (by omega), Option.bind_some, rd_wr_ne _ _ (by omega), e190]
      by_cases h5 : 5 ≤ i
      · rw [if_pos (show (5 : Int32) ≤ Int32.ofNat (B i) by rw [show (5 : Int32) = Int32.ofNat 5 from rfl, iLe (by omega) (by omega)]; exact o3.mpr h5), R_138_85 s1, Option.bind_some, L_187 s1 (by omega), Option.bind_some, c'.2.2.1 187 (B i) (by unfold mkA; omega), c3]
        refine e3 _ ?_
        show _ = Int32.ofNat ((if 5 ≤ i then 2 + obL hp i else 0) + tot5 hp bl)
        rw [if_pos h5, hobl, show (2 : Int32) = Int32.ofNat 2 from rfl, ← Int32.ofNat_add, ← Int32.ofNat_add]
        congr 1
        omega
      · rw [if_neg (show ¬ (5 : Int32) ≤ Int32.ofNat (B i) by rw [show (5 : Int32) = Int32.ofNat 5 from rfl, iLe (by omega) (by omega)]; exact fun z => h5 (o3.mp z))]
        refine e3 _ ?_
        show _ = Int32.ofNat ((if 5 ≤ i then 2 + obL hp i else 0) + tot5 hp bl)
        rw [if_neg h5, show (0 : Int32) = Int32.ofNat 0 from rfl, ← Int32.ofNat_add]
        congr 1
        omega
    · refine f5 j ?_
      rcases List.mem_append.mp ((hmem j).mpr hj) with y | y
      · exact List.mem_append_left _ y
      · exact List.mem_append_right _ (a5.1 j y)
theorem clr_mk {n : Nat} (hn : n < 5200) : ∀ (d k : Nat) (h : pH), k ≤ n → n - k < d → Sg h → rd h 138 82 = Int32.ofNat n → (∀ j, j < k → rd h 188 j = 0) → ∃ h', fX12_marked_2 N d 138 (Int32.ofNat k) h = ((putI h' 138 12 89 (0 : Int32)).bind fun h52 => fX12_marked_30 N N 138 (0 : Int32) h52) ∧ Sg h' ∧ Chg (fun a _ => a = 188) h h' ∧ ∀ j, j < n → rd h' 188 j = 0
  | 0, k, h, hk, hd, sg, h82, hz => by omega
  | d + 1, k, h, hk, hd, sg, h82, hz => by
    by_cases hkn : k = n
    · subst hkn
      refine ⟨h, ?_, sg, Chg.refl _ _, hz⟩
      rw [fX12_marked_2, g_138_82 sg, Option.bind_some, h82, if_pos (Int32.le_refl _)]
    · have s1 := sg.wr 188 k 0
      obtain ⟨h', a1, a2, a3, a4⟩ := clr_mk hn d (k + 1) (wr h 188 k 0) (by omega) (by omega) s1 (by rw [rd_wr_ne _ _ (by omega)]; exact h82) (fun j hj => by
        by_cases hjk : j = k
        · rw [hjk, W_188 sg]
        · rw [rd_wr_ne _ _ (by omega)]; exact hz j (by omega))
      refine ⟨h', ?_, a2, (Chg.wr h 188 k 0 rfl).trans a3, a4⟩
      rw [fX12_marked_2, g_138_82 sg, Option.bind_some, h82, if_neg (by rw [iLe (by omega) (by omega)]; omega), R_138_86 sg, Option.bind_some, T_188 sg (by omega) (Or.inl rfl), Option.bind_some, i_add1, a1]
theorem mem_um : ∀ {ops : List (Bool × Vl)} {v : Vl}, v ∈ um ops ↔ (false, v) ∈ ops
  | [], v => ⟨fun z => (by cases z), fun z => (by cases z)⟩
  | (true, w) :: ops, v => by
    show v ∈ um ops ↔ _
    rw [mem_um (ops := ops), List.mem_cons]
    exact ⟨fun z => Or.inr z, fun z => z.resolve_left (fun y => by injection y with y1; cases y1)⟩
  | (false, w) :: ops, v => by
    show v ∈ w :: um ops ↔ _
    rw [List.mem_cons, List.mem_cons, mem_um (ops := ops)]
    exact ⟨fun z => z.imp (fun y => by rw [y]) id, fun z => z.imp (fun y => by injection y) id⟩
theorem LwR.tru {B : Nat → Nat} {L : List Nat} {h : pH} : ∀ {fs : List Fm} {lt pt : Nat} {trs : List (Nat × Nat)}, LwR B L h fs lt pt trs → ∀ f, f ∈ fs → ∀ v, (true, v) ∈ f.2.2.1 → v = .inl 0 ∨ v = .inr (some f.1.2.2)
  | [], _, _, _, _, f, hf => by cases hf
  | g :: fs, lt, pt, trs, hL, f, hf => by
    obtain ⟨lb, pb, tr', F, -, -, -, hL'⟩ := hL
    rcases List.mem_cons.mp hf with rfl | hf
    · exact F.2.2.2.2.2.2.2.2.2.2.2.2.2
    · exact LwR.tru hL' f hf
theorem r_marked {fs : List Fm} {lt pt : Nat} {trs : List (Nat × Nat)} (hN : 400000 ≤ N) (ho : HO P hp) (sg : Sg h0) (q : HpR hp H B O L h0) (hL : LwR B L h0 fs lt pt trs) (h100 : rd h0 138 100 = Int32.ofNat pt) (h93 : rd h0 138 93 = Int32.ofNat fs.length) (hfs : fs.length ≤ 100) : ∃ bl h', fX12_marked N 138 h0 = some (Int32.ofNat (rcl hp fs), h') ∧ Sg h' ∧ Chg mkA h0 h' ∧ MkR B L bl [] h' ∧ (∀ i, i ∈ bl ↔ Rch hp fs i) ∧ rcl hp fs ≤ tot hp L := by
  have hLl := L_len q
  have hbd := hL.bd
  obtain ⟨h1, a1, a2, a3, a4⟩ := clr_mk (N := N) (n := 5 + L.length) (by omega) N 0 h0 (by omega) (by omega) sg q.2.2.1 (fun j hj => by omega)
  have s2 := a2.wr 138 89 0
  have c2 : Chg mkA h0 (wr h1 138 89 0) := (a3.mono (fun a k z => Or.inl z)).trans (Chg.wr h1 138 89 _ (Or.inr (Or.inr ⟨rfl, rfl⟩)))
  have m2 : MkR B L [] [] (wr h1 138 89 0) := by
    refine ⟨List.nodup_nil, fun i hi => (by cases hi), fun i hi => ?_, w_138_89 a2 _, fun j i hj => (by cases hj)⟩
    rw [rd_wr_ne _ _ (by omega)]
    refine a4 _ ?_
    rcases Nat.lt_or_ge i 5 with z | z
    · rw [(q.1 i z).1]; omega
    · have := q.2.1.bd i (hi.resolve_right (by omega))
      omega
  obtain ⟨d, hd⟩ : ∃ d, N = d + 1 + fs.length := ⟨N - 1 - fs.length, by omega⟩
  obtain ⟨e, he⟩ : ∃ e, N = e + 1 + pt := ⟨N - 1 - pt, by omega⟩
  obtain ⟨gr3, h3, b1, b2, b3, b4, b5⟩ := lw_mk (N := N) (bl := []) (by omega) q h93 hfs fs lt pt trs hL (Nat.le_refl _) (d + 1) [] _ c2 s2 m2
  obtain ⟨gr4, h4, d1, d2, d3, d4, d5⟩ := pil_mk (N := N) (bl := []) q h100 (by omega) fs lt pt trs hL (Nat.le_refl _) (e + 1) gr3 h3 b3 b2 b4
  have hroot : ∀ j, ((∃ f, f ∈ fs ∧ (j = f.1.2.2 ∨ Sum.inr (some j) ∈ f.2.1)) ∨ ∃ f, f ∈ fs ∧ Sum.inr (some j) ∈ um f.2.2.1) ↔ ∃ f, f ∈ fs ∧ rootF f j := fun j => by
    constructor
    · rintro (⟨f, z1, z2⟩ | ⟨f, z1, z2⟩)
      · exact ⟨f, z1, z2.imp id Or.inl⟩
      · exact ⟨f, z1, Or.inr (Or.inr ⟨false, mem_um.mp z2⟩)⟩
    · rintro ⟨f, z1, z2⟩
      rcases z2 with z2 | z2 | ⟨z, z2⟩
      · exact Or.inl ⟨f, z1, Or.inl z2⟩
      · exact Or.inl ⟨f, z1, Or.inr z2⟩
      · cases z
        · exact Or.inr ⟨f, z1, mem_um.mpr z2⟩
        · rcases hL.tru f z1 _ z2 with y | y
          · cases y
          · injection y with y
            injection y with y
            exact Or.inl ⟨f, z1, Or.inl y⟩
  have sc := (b5.app d5).iff hroot
  have hR : ∀ (j : Nat) (ob : Ob), Rch hp fs j → hp[j]? = some ob → ∀ x, Sum.inr (some x) ∈ ob.2 → Rch hp fs x := fun j ob hj hob x hx S h1 h2 => h2 j ob (hj S h1 h2) hob x hx
  obtain ⟨bl, h5, f1, f2, f3, f4, f5, f6, f7⟩ := wl_mk (N := N) (by omega) ho q (Rch hp fs) hR N [] gr4 h4 d3 d2 d4 (fun i hi => by
    rcases sc.2.1 i hi with y | ⟨f, y1, y2⟩
    · cases y
    · exact fun S hS _ => hS f y1 i y2) (fun i hi => (by cases hi)) (by show L.length + 5 - 0 < N; omega)
  have hiff : ∀ i, i ∈ bl ↔ Rch hp fs i := fun i => ⟨f6 i, fun z => z (fun j => j ∈ bl) (fun f hf j hj => f5 j (sc.2.2 j ⟨f, hf, hj⟩)) (fun j ob hj hob x hx => f7 j hj ob hob x hx)⟩
  have fnd : (bl.filter (fun i => decide (5 ≤ i))).Nodup := List.Pairwise.filter _ (by have := f4.1; rw [List.append_nil] at this; exact this)
  have fmem : ∀ i, i ∈ bl.filter (fun i => decide (5 ≤ i)) → i ∈ L := fun i hi => by
    obtain ⟨z1, z2⟩ := List.mem_filter.mp hi
    have z2 := of_decide_eq_true z2
    exact (f4.2.1 i (List.mem_append_left _ z1)).resolve_right (by omega)
  have hrc : tot5 hp bl = rcl hp fs := by
    rw [tot5_eq, ← cellN_list fnd (fun i hi => ⟨of_decide_eq_true (List.mem_filter.mp hi).2, (q.2.1.bd i (fmem i hi)).2.2.2.2.2⟩)]
    refine cellN_congr (fun i h5 hl => ?_)
    rw [List.mem_filter]
    exact ⟨fun z => (hiff i).mp z.1, fun z => ⟨(hiff i).mpr z, decide_eq_true h5⟩⟩
  refine ⟨bl, h5, ?_, f2, f3, f4, hiff, ?_⟩
  · unfold fX12_marked
    rw [if_pos (o_138 sg)]
    have e0 : fX12_marked_2 N N 138 0 h0 = _ := a1
    rw [e0, p_138_89 a2, Option.bind_some]
    have e1 : fX12_marked_30 N N 138 0 (wr h1 138 89 0) = fX12_marked_30 N (d + 1 + fs.length) 138 (Int32.ofNat 0) (wr h1 138 89 0) := by rw [← hd]; rfl
    rw [e1, b1, fX12_marked_30, g_138_93 b2, Option.bind_some, b3.2.2.1 _ _ (by unfold mkA; omega), h93, if_pos (Int32.le_refl _)]
    have e2 : fX12_marked_105 N N 138 0 h3 = fX12_marked_105 N (e + 1 + pt) 138 (Int32.ofNat 0) h3 := by rw [← he]; rfl
    rw [e2, d1, fX12_marked_105, g_138_100 d2, Option.bind_some, d3.2.2.1 _ _ (by unfold mkA; omega), h100, if_pos (Int32.le_refl _), ← hrc]
    exact f1
  · rw [← hrc, tot5_eq]
    exact tot_sub hp _ L fnd fmem
end MF
