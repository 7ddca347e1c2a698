/-! ===== THE REFERENCE marks what can be reached ===== -/
def mkA (a k : Nat) : Prop := a = 188 ∨ a = 190 ∨ (a = 138 ∧ k = 89)
/-- the done ones, the waiting ones -/
def MkR (B : Nat → Nat) (L bl gr : List Nat) (h : pH) : Prop := (bl ++ gr).Nodup ∧ (∀ i, i ∈ bl ++ gr → i ∈ L ∨ i < 5) ∧ (∀ i, i ∈ L ∨ i < 5 → rd h 188 (B i) = if i ∈ bl ++ gr then 1 else 0) ∧ rd h 138 89 = Int32.ofNat gr.length ∧ ∀ (j i : Nat), gr[j]? = some i → rd h 190 (gr.length - 1 - j) = Int32.ofNat (B i)
def Scn (bl : List Nat) (Q : Nat → Prop) (gr gr' : List Nat) : Prop := (∀ i, i ∈ gr → i ∈ gr') ∧ (∀ i, i ∈ gr' → i ∈ gr ∨ Q i) ∧ ∀ i, Q i → i ∈ bl ++ gr'
theorem Scn.no {bl gr : List Nat} {Q : Nat → Prop} (h : ∀ i, ¬ Q i) : Scn bl Q gr gr := ⟨fun _ z => z, fun _ z => Or.inl z, fun i z => (h i z).elim⟩
theorem Scn.app {bl gr gr1 gr2 : List Nat} {Q R : Nat → Prop} (a : Scn bl Q gr gr1) (b : Scn bl R gr1 gr2) : Scn bl (fun i => Q i ∨ R i) gr gr2 := by
  refine ⟨fun i z => b.1 i (a.1 i z), fun i z => ?_, fun i z => ?_⟩
  · rcases b.2.1 i z with y | y
    · rcases a.2.1 i y with x | x
      · exact Or.inl x
      · exact Or.inr (Or.inl x)
    · exact Or.inr (Or.inr y)
  · rcases z with z | z
    · rcases List.mem_append.mp (a.2.2 i z) with y | y
      · exact List.mem_append_left _ y
      · exact List.mem_append_right _ (b.1 i y)
    · exact b.2.2 i z
theorem Scn.iff {bl gr gr' : List Nat} {Q R : Nat → Prop} (a : Scn bl Q gr gr') (h : ∀ i, Q i ↔ R i) : Scn bl R gr gr' := ⟨a.1, fun i z => (a.2.1 i z).imp id (h i).mp, fun i z => a.2.2 i ((h i).mpr z)⟩
theorem nd_len {l M : List Nat} (hn : l.Nodup) (h : ∀ i, i ∈ l → i ∈ M) : l.length ≤ M.length := by
  have e : ∀ x : List Nat, tot [] x = 2 * x.length := fun x => by
    induction x with
    | nil => rfl
    | cons y x ih =>
      show 2 + 0 + tot [] x = 2 * (x.length + 1)
      rw [ih]
      omega
  have := tot_sub [] l M hn h
  rw [e, e] at this
  omega
theorem L_len {hp : List Ob} {H : Nat} {B O : Nat → Nat} {L : List Nat} {h : pH} (q : HpR hp H B O L h) : L.length ≤ 5000 := by
  have e := totL_tot hp L
  have h1 := q.2.2.2.2.2.1
  have h2 := q.2.2.2.2.2.2.1
  omega
theorem MkR.len {hp : List Ob} {H : Nat} {B O : Nat → Nat} {L bl gr : List Nat} {h0 h : pH} (q : HpR hp H B O L h0) (m : MkR B L bl gr h) : bl.length + gr.length ≤ L.length + 5 := by
  have h1 := nd_len (M := L ++ [0, 1, 2, 3, 4]) m.1 (fun i hi => by
    rcases m.2.1 i hi with z | z
    · exact List.mem_append_left _ z
    · refine List.mem_append_right _ ?_
      have : i = 0 ∨ i = 1 ∨ i = 2 ∨ i = 3 ∨ i = 4 := by omega
      rcases this with rfl | rfl | rfl | rfl | rfl <;> decide)
  rw [List.length_append, List.length_append] at h1
  exact h1
section MK
variable {hp : List Ob} {H N : Nat} {B O : Nat → Nat} {L bl gr : List Nat} {h0 h : pH}
theorem r_reach {i : Nat} (q : HpR hp H B O L h0) (c : Chg mkA h0 h) (sg : Sg h) (m : MkR B L bl gr h) (hi : i ∈ L ∨ i < 5) : ∃ gr' h', fX12_reach N 138 (Int32.ofNat (B i)) h = some h' ∧ Sg h' ∧ Chg mkA h0 h' ∧ MkR B L bl gr' h' ∧ Scn bl (fun j => j = i) gr gr' := by
  obtain ⟨b1, -, -⟩ := q.at hi
  have hL := L_len q
  have hl := m.len q
  obtain ⟨m1, m2, m3, m4, m5⟩ := m
  have e188 := m3 i hi
  by_cases hm : i ∈ bl ++ gr
  · refine ⟨gr, h, ?_, sg, c, ⟨m1, m2, m3, m4, m5⟩, ⟨fun _ z => z, fun _ z => Or.inl z, fun j z => z ▸ hm⟩⟩
    unfold fX12_reach
    rw [if_pos (o_138 sg), if_neg (i_nneg (by omega)), R_138_86 sg, Option.bind_some, L_188 sg (by omega), Option.bind_some, e188, if_pos hm, if_neg (by decide)]
  · rw [if_neg hm] at e188
    have s1 := sg.wr 188 (B i) 1
    have s2 := s1.wr 190 gr.length (Int32.ofNat (B i))
    have s3 := s2.wr 138 89 (Int32.ofNat (gr.length + 1))
    have hp' : ∀ j, j ∈ bl ++ i :: gr ↔ j = i ∨ j ∈ bl ++ gr := fun j => by
      rw [List.mem_append, List.mem_append, List.mem_cons]
      constructor
      · rintro (z | z | z)
        · exact Or.inr (Or.inl z)
        · exact Or.inl z
        · exact Or.inr (Or.inr z)
      · rintro (z | z | z)
        · exact Or.inr (Or.inl z)
        · exact Or.inl z
        · exact Or.inr (Or.inr z)
    refine ⟨i :: gr, wr (wr (wr h 188 (B i) 1) 190 gr.length (Int32.ofNat (B i))) 138 89 (Int32.ofNat (gr.length + 1)), ?_, s3, c.trans ((Chg.wr _ 188 _ _ (by unfold mkA; omega)).trans ((Chg.wr _ 190 _ _ (by unfold mkA; omega)).trans (Chg.wr _ 138 89 _ (by unfold mkA; omega)))), ⟨?_, ?_, ?_, ?_, ?_⟩, ?_⟩
    · unfold fX12_reach
      rw [if_pos (o_138 sg), if_neg (i_nneg (by omega)), R_138_86 sg, Option.bind_some, L_188 sg (by omega), Option.bind_some, e188, if_pos rfl, Option.bind_some, T_188 sg (by omega) (Or.inr rfl), Option.bind_some, R_138_88 s1, Option.bind_some, g_138_89 s1, Option.bind_some, rd_wr_ne _ _ (by omega), m4, T_190 s1 (by omega), Option.bind_some, g_138_89 s2, Option.bind_some, rd_wr_ne _ _ (by omega), rd_wr_ne _ _ (by omega), m4, i_add1, p_138_89 s2, Option.bind_some]
    · exact (List.perm_middle (l₁ := bl) (l₂ := gr) (a := i)).nodup_iff.mpr (List.nodup_cons.mpr ⟨hm, m1⟩)
    · intro j hj
      rcases (hp' j).mp hj with rfl | hj
      · exact hi
      · exact m2 j hj
    · intro j hj
      rw [rd_wr_ne _ _ (by omega), rd_wr_ne _ _ (by omega)]
      by_cases hji : j = i
      · subst hji
        rw [W_188 sg, if_pos ((hp' j).mpr (Or.inl rfl))]
      · have hne : B j ≠ B i := fun z => hji (q.inj hj hi z)
        rw [rd_wr_ne _ _ (by omega), m3 j hj]
        by_cases y : j ∈ bl ++ gr
        · rw [if_pos y, if_pos ((hp' j).mpr (Or.inr y))]
        · rw [if_neg y, if_neg (fun z => y (((hp' j).mp z).resolve_left hji))]
    · exact w_138_89 s2 _
    · intro j k hj
      rw [List.length_cons]
      cases j with
      | zero =>
        obtain rfl : i = k := Option.some.inj hj
        rw [rd_wr_ne _ _ (by omega), show gr.length + 1 - 1 - 0 = gr.length by omega, W_190 s1]
      | succ j =>
        have hj : gr[j]? = some k := hj
        have hjl := (List.getElem?_eq_some_iff.mp hj).1
        rw [rd_wr_ne _ _ (by omega), rd_wr_ne _ _ (by omega), rd_wr_ne _ _ (by omega), show gr.length + 1 - 1 - (j + 1) = gr.length - 1 - j by omega]
        exact m5 j k hj
    · refine ⟨fun j z => List.mem_cons_of_mem _ z, fun j z => ?_, fun j z => List.mem_append_right _ (z ▸ List.mem_cons_self ..)⟩
      rcases List.mem_cons.mp z with y | y
      · exact Or.inr y
      · exact Or.inl y
/-- a word with its mark -/
theorem slot_mk {x f : Int32} {v : Vl} (q : HpR hp H B O L h0) (c : Chg mkA h0 h) (sg : Sg h) (m : MkR B L bl gr h) (hv : RV B L x f v) : (f = 0 ∧ Scn bl (fun j => v = .inr (some j)) gr gr) ∨ (f ≠ 0 ∧ ∃ gr' h', fX12_reach N 138 x h = some h' ∧ Sg h' ∧ Chg mkA h0 h' ∧ MkR B L bl gr' h' ∧ Scn bl (fun j => v = .inr (some j)) gr gr') := by
  match v, hv with
  | .inl n, hv => exact Or.inl ⟨hv.2, Scn.no (fun i z => by cases z)⟩
  | .inr none, hv =>
    refine Or.inr ⟨by rw [hv.2]; decide, gr, h, ?_, sg, c, m, Scn.no (fun i z => by cases z)⟩
    unfold fX12_reach
    rw [if_pos (o_138 sg), hv.1, if_pos (by decide)]
  | .inr (some i), hv =>
    obtain ⟨e1, e2, e3⟩ := hv
    obtain ⟨gr', h', a1, a2, a3, a4, a5⟩ := r_reach (N := N) q c sg m e3
    refine Or.inr ⟨by rw [e2]; decide, gr', h', by rw [e1]; exact a1, a2, a3, a4, a5.iff (fun j => ⟨fun z => by rw [z], fun z => by injection z with z; injection z with z; exact z.symm⟩)⟩
def RVs (B : Nat → Nat) (L : List Nat) (x f a : Nat) (h : pH) (vs : List Vl) : Prop := ∀ (j : Nat) (v : Vl), vs[j]? = some v → RV B L (rd h x (a + j)) (rd h f (a + j)) v
theorem RVs.tl {x f a : Nat} {v : Vl} {vs : List Vl} (q : RVs B L x f a h (v :: vs)) : RV B L (rd h x a) (rd h f a) v ∧ RVs B L x f (a + 1) h vs := by
  refine ⟨q 0 v rfl, fun j w hj => ?_⟩
  have := q (j + 1) w hj
  rw [show a + (j + 1) = a + 1 + j by omega] at this
  exact this
theorem mem_cons_iff {v : Vl} {vs : List Vl} (j : Nat) : (v = .inr (some j) ∨ Sum.inr (some j) ∈ vs) ↔ Sum.inr (some j) ∈ v :: vs := by
  rw [List.mem_cons]
  exact ⟨fun z => z.imp Eq.symm id, fun z => z.imp Eq.symm id⟩
theorem pile_mk {top : Nat} (h100 : rd h0 138 100 = Int32.ofNat top) (htop : top ≤ 200000) (q : HpR hp H B O L h0) : ∀ (vs : List Vl) (a d : Nat) (gr : List Nat) (h : pH), Chg mkA h0 h → Sg h → MkR B L bl gr h → RVs B L 199 200 a h0 vs → a + vs.length ≤ top → ∃ gr' h', fX12_marked_105 N (d + vs.length) 138 (Int32.ofNat a) h = fX12_marked_105 N d 138 (Int32.ofNat (a + vs.length)) h' ∧ Sg h' ∧ Chg mkA h0 h' ∧ MkR B L bl gr' h' ∧ Scn bl (fun j => Sum.inr (some j) ∈ vs) gr gr'
  | [], a, d, gr, h, c, sg, m, hv, ht => ⟨gr, h, rfl, sg, c, m, Scn.no (fun i z => by cases z)⟩
  | v :: vs, a, d, gr, h, c, sg, m, hv, ht => by
    rw [List.length_cons] at ht
    obtain ⟨hv1, hv2⟩ := hv.tl
    have ex : rd h 199 a = rd h0 199 a := c.2.2.1 _ _ (by unfold mkA; omega)
    have ef : rd h 200 a = rd h0 200 a := c.2.2.1 _ _ (by unfold mkA; omega)
    rcases slot_mk (N := N) q c sg m hv1 with ⟨f0, s0⟩ | ⟨f0, gr1, h1, r1, r2, r3, r4, r5⟩
    · obtain ⟨gr', h', a1, a2, a3, a4, a5⟩ := pile_mk h100 htop q vs (a + 1) d gr h c sg m hv2 (by omega)
      refine ⟨gr', h', ?_, a2, a3, a4, (s0.app a5).iff mem_cons_iff⟩
      rw [List.length_cons, show a + (vs.length + 1) = a + 1 + vs.length by omega, ← a1]
      show fX12_marked_105 N (d + vs.length + 1) 138 (Int32.ofNat a) h = _
      rw [fX12_marked_105, g_138_100 sg, Option.bind_some, c.2.2.1 _ _ (by unfold mkA; omega), h100, if_neg (by rw [iLe (by omega) (by omega)]; omega), R_138_102 sg, Option.bind_some, L_200 sg (by omega), Option.bind_some, ef, if_pos f0]
      unfold fX12_marked_132
      rw [i_add1]
    · obtain ⟨gr', h', a1, a2, a3, a4, a5⟩ := pile_mk h100 htop q vs (a + 1) d gr1 h1 r3 r2 r4 hv2 (by omega)
      refine ⟨gr', h', ?_, a2, a3, a4, (r5.app a5).iff mem_cons_iff⟩
      rw [List.length_cons, show a + (vs.length + 1) = a + 1 + vs.length by omega, ← a1]
      show fX12_marked_105 N (d + vs.length + 1) 138 (Int32.ofNat a) h = _
      rw [fX12_marked_105, g_138_100 sg, Option.bind_some, c.2.2.1 _ _ (by unfold mkA; omega), h100, if_neg (by rw [iLe (by omega) (by omega)]; omega), R_138_102 sg, Option.bind_some, L_200 sg (by omega), Option.bind_some, ef, if_neg f0, R_138_101 sg, Option.bind_some, L_199 sg (by omega), Option.bind_some, ex, r1, Option.bind_some]
      unfold fX12_marked_132
      rw [i_add1]
theorem loc_mk {k30 : Nat → Int32 → pH → Option (Int32 × pH)} {n lb ll top : Nat} (hn : n < 101) (e194 : rd h0 194 n = Int32.ofNat lb) (e195 : rd h0 195 n = Int32.ofNat ll) (htop : top = lb + ll) (ht9 : top ≤ 90000) (q : HpR hp H B O L h0) : ∀ (vs : List Vl) (a d : Nat) (gr : List Nat) (h : pH), Chg mkA h0 h → Sg h → MkR B L bl gr h → RVs B L 197 198 a h0 vs → a + vs.length ≤ top → ∃ gr' h', fX12_marked_55 N k30 (d + vs.length) 138 (Int32.ofNat n) (Int32.ofNat a) h = fX12_marked_55 N k30 d 138 (Int32.ofNat n) (Int32.ofNat (a + vs.length)) h' ∧ Sg h' ∧ Chg mkA h0 h' ∧ MkR B L bl gr' h' ∧ Scn bl (fun j => Sum.inr (some j) ∈ vs) gr gr'
  | [], a, d, gr, h, c, sg, m, hv, ht => ⟨gr, h, rfl, sg, c, m, Scn.no (fun i z => by cases z)⟩
  | v :: vs, a, d, gr, h, c, sg, m, hv, ht => by
    rw [List.length_cons] at ht
    obtain ⟨hv1, hv2⟩ := hv.tl
    have ex : rd h 197 a = rd h0 197 a := c.2.2.1 _ _ (by unfold mkA; omega)
    have ef : rd h 198 a = rd h0 198 a := c.2.2.1 _ _ (by unfold mkA; omega)
    rcases slot_mk (N := N) q c sg m hv1 with ⟨f0, s0⟩ | ⟨f0, gr1, h1, r1, r2, r3, r4, r5⟩
    · obtain ⟨gr', h', a1, a2, a3, a4, a5⟩ := loc_mk hn e194 e195 htop ht9 q vs (a + 1) d gr h c sg m hv2 (by omega)
      refine ⟨gr', h', ?_, a2, a3, a4, (s0.app a5).iff mem_cons_iff⟩
      rw [List.length_cons, show a + (vs.length + 1) = a + 1 + vs.length by omega, ← a1]
      show fX12_marked_55 N k30 (d + vs.length + 1) 138 (Int32.ofNat n) (Int32.ofNat a) h = _
      rw [fX12_marked_55, R_138_95 sg, Option.bind_some, L_194 sg (by omega), Option.bind_some, R_138_96 sg, Option.bind_some, L_195 sg (by omega), Option.bind_some, c.2.2.1 194 n (by unfold mkA; omega), c.2.2.1 195 n (by unfold mkA; omega), e194, e195, ← Int32.ofNat_add, if_neg (show ¬ Int32.ofNat (lb + ll) ≤ Int32.ofNat a by rw [iLe (by omega) (by omega)]; omega), R_138_99 sg, Option.bind_some, L_198 sg (by omega), Option.bind_some, ef, if_pos f0]
      unfold fX12_marked_91
      rw [i_add1]
    · obtain ⟨gr', h', a1, a2, a3, a4, a5⟩ := loc_mk hn e194 e195 htop ht9 q vs (a + 1) d gr1 h1 r3 r2 r4 hv2 (by omega)
      refine ⟨gr', h', ?_, a2, a3, a4, (r5.app a5).iff mem_cons_iff⟩
      rw [List.length_cons, show a + (vs.length + 1) = a + 1 + vs.length by omega, ← a1]
      show fX12_marked_55 N k30 (d + vs.length + 1) 138 (Int32.ofNat n) (Int32.ofNat a) h = _
      rw [fX12_marked_55, R_138_95 sg, Option.bind_some, L_194 sg (by omega), Option.bind_some, R_138_96 sg, Option.bind_some, L_195 sg (by omega), Option.bind_some, c.2.2.1 194 n (by unfold mkA; omega), c.2.2.1 195 n (by unfold mkA; omega), e194, e195, ← Int32.ofNat_add, if_neg (show ¬ Int32.ofNat (lb + ll) ≤ Int32.ofNat a by rw [iLe (by omega) (by omega)]; omega), R_138_99 sg, Option.bind_some, L_198 sg (by omega), Option.bind_some, ef, if_neg f0, R_138_98 sg, Option.bind_some, L_197 sg (by omega), Option.bind_some, ex, r1, Option.bind_some]
      unfold fX12_marked_91
      rw [i_add1]
theorem fld_mk {k140 : Nat → Int32 → pH → Option (Int32 × pH)} {v1 : Int32} {n lb ll top : Nat} (hn : n < 5200) (e194 : rd h0 186 n = Int32.ofNat lb) (e195 : rd h0 187 n = Int32.ofNat ll) (htop : top = lb + ll) (ht9 : top ≤ 12000) (q : HpR hp H B O L h0) : ∀ (vs : List Vl) (a d : Nat) (gr : List Nat) (h : pH), Chg mkA h0 h → Sg h → MkR B L bl gr h → RVs B L 191 192 a h0 vs → a + vs.length ≤ top → ∃ gr' h', fX12_marked_194 N k140 (d + vs.length) 138 v1 (Int32.ofNat n) (Int32.ofNat a) h = fX12_marked_194 N k140 d 138 v1 (Int32.ofNat n) (Int32.ofNat (a + vs.length)) h' ∧ Sg h' ∧ Chg mkA h0 h' ∧ MkR B L bl gr' h' ∧ Scn bl (fun j => Sum.inr (some j) ∈ vs) gr gr'
  | [], a, d, gr, h, c, sg, m, hv, ht => ⟨gr, h, rfl, sg, c, m, Scn.no (fun i z => by cases z)⟩
  | v :: vs, a, d, gr, h, c, sg, m, hv, ht => by
    rw [List.length_cons] at ht
    obtain ⟨hv1, hv2⟩ := hv.tl
    have ex : rd h 191 a = rd h0 191 a := c.2.2.1 _ _ (by unfold mkA; omega)
    have ef : rd h 192 a = rd h0 192 a := c.2.2.1 _ _ (by unfold mkA; omega)
    rcases slot_mk (N := N) q c sg m hv1 with ⟨f0, s0⟩ | ⟨f0, gr1, h1, r1, r2, r3, r4, r5⟩
    · obtain ⟨gr', h', a1, a2, a3, a4, a5⟩ := fld_mk hn e194 e195 htop ht9 q vs (a + 1) d gr h c sg m hv2 (by omega)
      refine ⟨gr', h', ?_, a2, a3, a4, (s0.app a5).iff mem_cons_iff⟩
      rw [List.length_cons, show a + (vs.length + 1) = a + 1 + vs.length by omega, ← a1]
      show fX12_marked_194 N k140 (d + vs.length + 1) 138 v1 (Int32.ofNat n) (Int32.ofNat a) h = _
      rw [fX12_marked_194, R_138_84 sg, Option.bind_some, L_186 sg (by omega), Option.bind_some, R_138_85 sg, Option.bind_some, L_187 sg (by omega), Option.bind_some, c.2.2.1 186 n (by unfold mkA; omega), c.2.2.1 187 n (by unfold mkA; omega), e194, e195, ← Int32.ofNat_add, if_neg (show ¬ Int32.ofNat (lb + ll) ≤ Int32.ofNat a by rw [iLe (by omega) (by omega)]; omega), R_138_92 sg, Option.bind_some, L_192 sg (by omega), Option.bind_some, ef, if_pos f0]
      unfold fX12_marked_230
      rw [i_add1]
    · obtain ⟨gr', h', a1, a2, a3, a4, a5⟩ := fld_mk hn e194 e195 htop ht9 q vs (a + 1) d gr1 h1 r3 r2 r4 hv2 (by omega)
      refine ⟨gr', h', ?_, a2, a3, a4, (r5.app a5).iff mem_cons_iff⟩
      rw [List.length_cons, show a + (vs.length + 1) = a + 1 + vs.length by omega, ← a1]
      show fX12_marked_194 N k140 (d + vs.length + 1) 138 v1 (Int32.ofNat n) (Int32.ofNat a) h = _
      rw [fX12_marked_194, R_138_84 sg, Option.bind_some, L_186 sg (by omega), Option.bind_some, R_138_85 sg, Option.bind_some, L_187 sg (by omega), Option.bind_some, c.2.2.1 186 n (by unfold mkA; omega), c.2.2.1 187 n (by unfold mkA; omega), e194, e195, ← Int32.ofNat_add, if_neg (show ¬ Int32.ofNat (lb + ll) ≤ Int32.ofNat a by rw [iLe (by omega) (by omega)]; omega), R_138_92 sg, Option.bind_some, L_192 sg (by omega), Option.bind_some, ef, if_neg f0, R_138_91 sg, Option.bind_some, L_191 sg (by omega), Option.bind_some, ex, r1, Option.bind_some]
      unfold fX12_marked_230
      rw [i_add1]
end MK
