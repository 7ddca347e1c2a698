/-! ===== THE REFERENCE'S SMALL STEPS OF READING ===== -/
theorem i_nonneg {n : Nat} (h : n < 2 ^ 31) : (0 : Int32) ≤ Int32.ofNat n := by
  rw [show (0 : Int32) = Int32.ofNat 0 from rfl, iLe (by decide) h]
  exact Nat.zero_le n
/-- what reading an expression may change: from node n, list place l, held place q on -/
def PB (n l q : Nat) : Nat → Nat → Prop := fun a k => NxB a k ∨ (a = 138 ∧ (k = 9 ∨ k = 10 ∨ k = 15 ∨ k = 21 ∨ k = 23)) ∨ ((a = 144 ∨ a = 145 ∨ a = 146 ∨ a = 147 ∨ a = 148) ∧ n ≤ k) ∨ (a = 149 ∧ l ≤ k) ∨ (a = 150 ∧ q ≤ k)
theorem PB.mono {n l q n' l' q' a k : Nat} (h : PB n' l' q' a k) (h1 : n ≤ n') (h2 : l ≤ l') (h3 : q ≤ q') : PB n l q a k := by
  rcases h with h | h | h | h | h
  · exact Or.inl h
  · exact Or.inr (Or.inl h)
  · exact Or.inr (Or.inr (Or.inl ⟨h.1, by omega⟩))
  · exact Or.inr (Or.inr (Or.inr (Or.inl ⟨h.1, by omega⟩)))
  · exact Or.inr (Or.inr (Or.inr (Or.inr ⟨h.1, by omega⟩)))
def Fr (n l q : Nat) (h h' : pH) : Prop := Chg (PB n l q) h h' ∧ NmLe h h'
theorem Fr.refl (n l q : Nat) (h : pH) : Fr n l q h h := ⟨Chg.refl _ _, NmLe.refl _⟩
theorem Fr.trans {n l q : Nat} {h h1 h2 : pH} (a : Fr n l q h h1) (b : Fr n l q h1 h2) : Fr n l q h h2 := ⟨a.1.trans b.1, a.2.trans b.2⟩
theorem Fr.mono {n l q n' l' q' : Nat} {h h' : pH} (a : Fr n' l' q' h h') (h1 : n ≤ n') (h2 : l ≤ l') (h3 : q ≤ q') : Fr n l q h h' := ⟨a.1.mono (fun _ _ z => z.mono h1 h2 h3), a.2⟩
/-- what leaves the reader's own fields alone -/
def rpOut (A : Nat → Nat → Prop) : Prop := (∀ k, k ∈ [3, 4, 5, 6, 7, 8, 9, 11] → ¬ A 138 k) ∧ ∀ k, ¬ A 140 k ∧ ¬ A 141 k ∧ ¬ A 142 k
theorem nm_of {A : Nat → Nat → Prop} {h h' : pH} (q : Chg A h h') (h1 : ¬ A 138 11) (h2 : ∀ k, ¬ A 140 k ∧ ¬ A 141 k ∧ ¬ A 142 k) : nmM h' = nmM h ∧ ∀ k, nmR h' k = nmR h k := by
  refine ⟨by unfold nmM; rw [q.2.2.1 _ _ h1], fun k => nmR_chg q (fun i => (h2 i).1) ?_ ?_⟩
  · unfold nmF; rw [q.2.2.1 _ _ (h2 k).2.1]
  · unfold nmN; rw [q.2.2.1 _ _ (h2 k).2.2]
theorem NmLe_of {A : Nat → Nat → Prop} {h h' : pH} (q : Chg A h h') (h1 : ¬ A 138 11) (h2 : ∀ k, ¬ A 140 k ∧ ¬ A 141 k ∧ ¬ A 142 k) : NmLe h h' := by
  obtain ⟨a, b⟩ := nm_of q h1 h2
  exact ⟨Nat.le_of_eq a.symm, fun k _ => b k⟩
theorem RP.chg {A : Nat → Nat → Prop} {T : Txt} {t : Nat} {h h' : pH} (hr : RP T t h) (q : Chg A h h') (hA : rpOut A) : RP T t h' := by
  obtain ⟨ht, hx, hl, hn, hi, hb, ⟨id, hw, hwn⟩, e4, e6, e7, e9⟩ := hr
  obtain ⟨a1, a2⟩ := hA
  have f : ∀ k, k ∈ [3, 4, 5, 6, 7, 8, 9, 11] → rd h' 138 k = rd h 138 k := fun k hk => q.2.2.1 _ _ (a1 k hk)
  obtain ⟨t1, t2⟩ := tOk_chg q (a1 3 (by decide)) ht
  obtain ⟨m1, m2⟩ := nm_of q (a1 11 (by decide)) a2
  obtain ⟨n1, n2⟩ := nms_chg q (fun k _ => (a2 k).2.1) (fun k _ => (a2 k).2.2) (a1 11 (by decide)) hn
  refine ⟨t1, (tx_chg q (fun i => (a2 i).1)).trans hx, t2.trans hl, by rw [m1]; exact n1, ?_, by rw [m1]; exact hb, ⟨id, ?_, by rw [m1, m2]; exact hwn⟩, by rw [f 4 (by decide)]; exact e4, by rw [f 6 (by decide)]; exact e6, by rw [f 7 (by decide)]; exact e7, by rw [f 9 (by decide)]; exact e9⟩
  · intro i j i1 j1 e
    rw [m1] at i1 j1
    rw [m2, m2] at e
    exact hi i j i1 j1 e
  · unfold WordIs
    rw [f 5 (by decide), f 8 (by decide)]
    exact hw
/-- the reader at token t: r more levels, n nodes, l list places, q held ones -/
def At (T : Txt) (t r n l q : Nat) (h : pH) : Prop := RP T t h ∧ r ≤ 30 ∧ rd h 138 10 = Int32.ofNat (30 - r) ∧ rd h 138 15 = Int32.ofNat n ∧ rd h 138 21 = Int32.ofNat l ∧ rd h 138 23 = Int32.ofNat q ∧ n ≤ tkP T t ∧ l ≤ tkP T t ∧ q ≤ tkP T t
/-- gone wrong at w -/
def Er (w n l q : Nat) (h : pH) : Prop := RE w h ∧ rd h 138 15 = Int32.ofNat n ∧ rd h 138 21 = Int32.ofNat l ∧ rd h 138 23 = Int32.ofNat q
theorem At.sg {T : Txt} {t r n l q : Nat} {h : pH} (a : At T t r n l q h) : Sg h := a.1.1.1
theorem At.P_le {T : Txt} {t r n l q : Nat} {h : pH} (a : At T t r n l q h) : tkP T t ≤ 3000 ∧ T.2 ≤ 3000 := by
  have h1 := (tkP_le T t).1
  have h2 := a.1.1.2.2
  have h3 := a.1.2.2.1
  omega
/-- the kind of sign that a value of the reference tells -/
def sgI (c : Int32) : Int32 := if c = 317 then 128 else if c = 289 then 129 else if c = 316 then 130 else if c = 294 then 131 else if c = 380 then 132 else c
theorem sgI_V {K : Int32} (h : isSK K) : sgI (sgV K) = K := by
  unfold isSK isSgn at h
  rcases h with (h | h | h | h | h | h | h | h | h | h | h | h | h | h | h | h | h | h) | h | h | h | h | h <;> rw [h] <;> decide
theorem r_isSign {N t : Nat} {T : Txt} {h : pH} {k c : Int32} (hr : RP T t h) (hk : isSK k) (hc : sgV k = c) : fX12_isSign N 138 c h = some (if tkK T t = k then 1 else 0, h) := by
  obtain ⟨ht, hx, hl, hn, hi, hb, ⟨id, hw, hwn⟩, e4, e6, e7, e9⟩ := hr
  unfold fX12_isSign
  rw [if_pos (o_138 ht.1), g_138_5 ht.1, Option.bind_some, hw.code]
  by_cases h4 : wcode (tkK T t) = 4
  · obtain ⟨h5, h6⟩ := hw.sign h4
    rw [if_pos h4, g_138_8 ht.1, Option.bind_some, h5]
    by_cases h7 : tkK T t = k
    · rw [if_pos (by rw [h7]; exact hc), g_138_9 ht.1, Option.bind_some, e9, if_neg (by decide), if_pos h7]
    · rw [if_neg (fun z => h7 (by rw [← sgI_V h6, z, ← hc, sgI_V hk])), if_neg h7]
  · rw [if_neg h4, if_neg (fun z => h4 (by rw [z]; exact sk_code hk))]
theorem r_isKey {N t k : Nat} {T : Txt} {h : pH} (hr : RP T t h) (h1 : 1 ≤ k) (h2 : k ≤ 21) : fX12_isKey N 138 (Int32.ofNat k) h = some (if tkK T t = Int32.ofNat k then 1 else 0, h) := by
  obtain ⟨ht, hx, hl, hn, hi, hb, ⟨id, hw, hwn⟩, e4, e6, e7, e9⟩ := hr
  unfold fX12_isKey
  rw [if_pos (o_138 ht.1), g_138_5 ht.1, Option.bind_some, hw.code]
  by_cases h4 : wcode (tkK T t) = 5
  · have h5 := hw.key h4
    rw [if_pos h4, g_138_8 ht.1, Option.bind_some, h5]
    by_cases h7 : tkK T t = Int32.ofNat k
    · rw [if_pos h7, g_138_9 ht.1, Option.bind_some, e9, if_neg (by decide), if_pos h7]
    · rw [if_neg h7, if_neg h7]
  · rw [if_neg h4, if_neg (fun z => h4 (by rw [z]; exact key_code h1 h2))]
theorem e_isSign {N w : Nat} {h : pH} (c : Int32) (hr : RE w h) : fX12_isSign N 138 c h = some (0, h) := by
  unfold fX12_isSign
  rw [if_pos (o_138 hr.1), g_138_5 hr.1, Option.bind_some, hr.2.2.2, if_neg (by decide)]
theorem e_isKey {N w : Nat} {h : pH} (c : Int32) (hr : RE w h) : fX12_isKey N 138 c h = some (0, h) := by
  unfold fX12_isKey
  rw [if_pos (o_138 hr.1), g_138_5 hr.1, Option.bind_some, hr.2.2.2, if_neg (by decide)]
theorem PB_fl {n l q : Nat} {ks : List Nat} (hk : ∀ k ∈ ks, k ∈ [4, 5, 6, 7, 8, 9, 10, 11, 15, 21, 23]) {a k : Nat} (h : Fl ks a k) : PB n l q a k := by
  obtain ⟨rfl, h⟩ := h
  have := hk k h
  simp only [List.mem_cons, List.not_mem_nil, or_false] at this
  by_cases z : k ∈ [4, 5, 6, 7, 8, 11]
  · exact Or.inl (Or.inl ⟨rfl, z⟩)
  · refine Or.inr (Or.inl ⟨rfl, ?_⟩)
    simp only [List.mem_cons, List.not_mem_nil, or_false, not_or] at z
    omega
theorem fl_rest {ks : List Nat} (k : Nat) : ¬ Fl ks 140 k ∧ ¬ Fl ks 141 k ∧ ¬ Fl ks 142 k := ⟨Fl_ne (Or.inl (by decide)), Fl_ne (Or.inl (by decide)), Fl_ne (Or.inl (by decide))⟩
theorem fr_fl {n l q : Nat} {ks : List Nat} {h h' : pH} (c : Chg (Fl ks) h h') (hk : ∀ k ∈ ks, k ∈ [4, 5, 6, 7, 8, 9, 10, 15, 21, 23]) : Fr n l q h h' := by
  refine ⟨c.mono (fun a k z => PB_fl (fun j hj => ?_) z), NmLe_of c (Fl_ne (Or.inr (fun z => ?_))) fl_rest⟩
  · have := hk j hj
    simp only [List.mem_cons, List.not_mem_nil, or_false] at this ⊢
    omega
  · exact absurd (hk 11 z) (by decide)
/-- it goes wrong here -/
theorem r_fails {N p n l q : Nat} {h : pH} (hs : Sg h) (hp : p ≤ 3000) (e9 : rd h 138 9 = -1) (e15 : rd h 138 15 = Int32.ofNat n) (e21 : rd h 138 21 = Int32.ofNat l) (e23 : rd h 138 23 = Int32.ofNat q) : ∃ h', fX12_fails N 138 (Int32.ofNat p) h = some (-1, h') ∧ Er p n l q h' ∧ Fr n l q h h' := by
  have s1 := hs.wr 138 9 (Int32.ofNat p)
  have c1 : Chg (Fl [5, 9]) h (wr (wr h 138 9 (Int32.ofNat p)) 138 5 0) := (Chg.wr h _ _ _ ⟨rfl, by simp⟩).trans (Chg.wr _ _ _ _ ⟨rfl, by simp⟩)
  refine ⟨_, ?_, ⟨⟨c1.sg hs, hp, ?_, ?_⟩, ?_, ?_, ?_⟩, fr_fl c1 (by decide)⟩
  · unfold fX12_fails fX12_fails_12
    rw [if_pos (o_138 hs), g_138_9 hs, Option.bind_some, e9, if_neg (by decide), p_138_9 hs, Option.bind_some, p_138_5 s1, Option.bind_some]
  · rw [rd_wr_ne _ _ (by decide), w_138_9 hs]
  · rw [w_138_5 s1]
  · rw [c1.2.2.1 _ _ (Fl_ne (Or.inr (by decide))), e15]
  · rw [c1.2.2.1 _ _ (Fl_ne (Or.inr (by decide))), e21]
  · rw [c1.2.2.1 _ _ (Fl_ne (Or.inr (by decide))), e23]
/-- it has gone wrong already -/
theorem e_fails {N w n l q : Nat} {h : pH} (p : Int32) (he : Er w n l q h) : ∃ h', fX12_fails N 138 p h = some (-1, h') ∧ Er w n l q h' ∧ Fr n l q h h' := by
  obtain ⟨⟨hs, hw, e9, e5⟩, e15, e21, e23⟩ := he
  have c1 : Chg (Fl [5]) h (wr h 138 5 0) := Chg.wr h _ _ _ ⟨rfl, by simp⟩
  refine ⟨_, ?_, ⟨⟨c1.sg hs, hw, ?_, ?_⟩, ?_, ?_, ?_⟩, fr_fl c1 (by decide)⟩
  · unfold fX12_fails fX12_fails_12
    rw [if_pos (o_138 hs), g_138_9 hs, Option.bind_some, e9, if_pos (i_nonneg (by omega)), p_138_5 hs, Option.bind_some]
  · rw [c1.2.2.1 _ _ (Fl_ne (Or.inr (by decide))), e9]
  · rw [w_138_5 hs]
  · rw [c1.2.2.1 _ _ (Fl_ne (Or.inr (by decide))), e15]
  · rw [c1.2.2.1 _ _ (Fl_ne (Or.inr (by decide))), e21]
  · rw [c1.2.2.1 _ _ (Fl_ne (Or.inr (by decide))), e23]
theorem At.fails {N t r n l q : Nat} {T : Txt} {h : pH} (a : At T t r n l q h) : ∃ h', fX12_fails N 138 (rd h 138 6) h = some (-1, h') ∧ Er (tkP T t) n l q h' ∧ Fr n l q h h' := by
  have hp := a.P_le
  obtain ⟨⟨ht, hx, hl, hn, hi, hb, hw, e4, e6, e7, e9⟩, hr, e10, e15, e21, e23, -⟩ := a
  rw [e6]
  exact r_fails ht.1 hp.1 e9 e15 e21 e23
theorem NxB_PB {n l q a k : Nat} (h : NxB a k) : PB n l q a k := Or.inl h
theorem At.next {N t r n l q : Nat} {T : Txt} {h : pH} (a : At T t r n l q h) (hN : 3200 ≤ N) (h0 : tkK T t ≠ 0) (h24 : tkK T t ≠ 24) : ∃ h', fX12_next N 138 h = some h' ∧ At T (t + 1) r n l q h' ∧ Fr n l q h h' := by
  obtain ⟨hp, hr, e10, e15, e21, e23, b1, b2, b3⟩ := a
  obtain ⟨h', r1, r2, r3, r4⟩ := e12_nextRP hp hN h0 h24
  have hm := tk_mono T t h0
  have f : ∀ k, k ∉ [4, 5, 6, 7, 8, 11] → rd h' 138 k = rd h 138 k := fun k hk => r3.2.2.1 _ _ (NxB_ne (Or.inr hk) (by decide) (by decide))
  exact ⟨h', r1, ⟨r2, hr, by rw [f 10 (by decide)]; exact e10, by rw [f 15 (by decide)]; exact e15, by rw [f 21 (by decide)]; exact e21, by rw [f 23 (by decide)]; exact e23, by omega, by omega, by omega⟩, r3.mono (fun _ _ z => NxB_PB z), r4⟩
theorem At.passes1 {N t r n l q : Nat} {T : Txt} {h : pH} {g : Int32} (a : At T t r n l q h) (hg : g ≠ 0) (hN : 3200 ≤ N) (h0 : tkK T t ≠ 0) (h24 : tkK T t ≠ 24) : ∃ h', fX12_passes N 138 g h = some (1, h') ∧ At T (t + 1) r n l q h' ∧ Fr n l q h h' := by
  obtain ⟨h', r1, r2, r3⟩ := a.next hN h0 h24
  refine ⟨h', ?_, r2, r3⟩
  unfold fX12_passes
  have e9 := a.1.2.2.2.2.2.2.2.2.2.2
  rw [if_pos (o_138 a.sg), g_138_9 a.sg, Option.bind_some, e9, if_neg (by decide), if_neg hg, r1, Option.bind_some]
theorem At.passes0 {N t r n l q : Nat} {T : Txt} {h : pH} (a : At T t r n l q h) : ∃ h', fX12_passes N 138 0 h = some (0, h') ∧ Er (tkP T t) n l q h' ∧ Fr n l q h h' := by
  obtain ⟨h', r1, r2, r3⟩ := a.fails (N := N)
  refine ⟨h', ?_, r2, r3⟩
  unfold fX12_passes fX12_passes_11
  have e9 := a.1.2.2.2.2.2.2.2.2.2.2
  rw [if_pos (o_138 a.sg), g_138_9 a.sg, Option.bind_some, e9, if_neg (by decide), if_pos rfl, g_138_6 a.sg, Option.bind_some, r1, Option.bind_some]
theorem Er.sg {w n l q : Nat} {h : pH} (he : Er w n l q h) : Sg h := he.1.1
theorem Er.passes {N w n l q : Nat} {h : pH} (g : Int32) (he : Er w n l q h) : ∃ h', fX12_passes N 138 g h = some (0, h') ∧ Er w n l q h' ∧ Fr n l q h h' := by
  obtain ⟨h', r1, r2, r3⟩ := e_fails (N := N) (rd h 138 6) he
  refine ⟨h', ?_, r2, r3⟩
  unfold fX12_passes fX12_passes_11
  rw [if_pos (o_138 he.sg), g_138_9 he.sg, Option.bind_some, he.1.2.2.1, if_pos (i_nonneg (by have := he.1.2.1; omega)), g_138_6 he.sg, Option.bind_some, r1, Option.bind_some]
theorem Er.opens {N w n l q : Nat} {h : pH} (g : Int32) (he : Er w n l q h) : ∃ h', fX12_opens N 138 g h = some (0, h') ∧ Er w n l q h' ∧ Fr n l q h h' := by
  obtain ⟨h', r1, r2, r3⟩ := e_fails (N := N) (rd h 138 6) he
  refine ⟨h', ?_, r2, r3⟩
  unfold fX12_opens fX12_opens_20
  rw [if_pos (o_138 he.sg), g_138_9 he.sg, Option.bind_some, he.1.2.2.1, if_pos (i_nonneg (by have := he.1.2.1; omega)), g_138_6 he.sg, Option.bind_some, r1, Option.bind_some]
theorem At.opens0 {N t r n l q : Nat} {T : Txt} {h : pH} (g : Int32) (a : At T t r n l q h) (hg : g = 0 ∨ r = 0) : ∃ h', fX12_opens N 138 g h = some (0, h') ∧ Er (tkP T t) n l q h' ∧ Fr n l q h h' := by
  obtain ⟨h', r1, r2, r3⟩ := a.fails (N := N)
  refine ⟨h', ?_, r2, r3⟩
  unfold fX12_opens fX12_opens_20
  have e9 := a.1.2.2.2.2.2.2.2.2.2.2
  rw [if_pos (o_138 a.sg), g_138_9 a.sg, Option.bind_some, e9, if_neg (by decide)]
  by_cases hg0 : g = 0
  · rw [if_pos hg0, g_138_6 a.sg, Option.bind_some, r1, Option.bind_some]
  · rw [if_neg hg0, g_138_10 a.sg, Option.bind_some, a.2.2.1, hg.resolve_left hg0, if_pos (show Int32.ofNat (30 - 0) = 30 from rfl), g_138_6 a.sg, Option.bind_some, r1, Option.bind_some]
theorem At.opens1 {N t r n l q : Nat} {T : Txt} {h : pH} {g : Int32} (a : At T t (r + 1) n l q h) (hg : g ≠ 0) (hN : 3200 ≤ N) (h0 : tkK T t ≠ 0) (h24 : tkK T t ≠ 24) : ∃ h', fX12_opens N 138 g h = some (1, h') ∧ At T (t + 1) r n l q h' ∧ Fr n l q h h' := by
  have hs := a.sg
  obtain ⟨hp, hr, e10, e15, e21, e23, b1, b2, b3⟩ := a
  have c1 : Chg (Fl [10]) h (wr h 138 10 (Int32.ofNat (30 - r))) := Chg.wr h _ _ _ ⟨rfl, by simp⟩
  have f : ∀ k, k ∉ [10] → rd (wr h 138 10 (Int32.ofNat (30 - r))) 138 k = rd h 138 k := fun k hk => c1.2.2.1 _ _ (Fl_ne (Or.inr hk))
  have a1 : At T t r n l q (wr h 138 10 (Int32.ofNat (30 - r))) := ⟨hp.chg c1 ⟨fun k hk => Fl_ne (Or.inr (fun z => by rw [List.mem_singleton.mp z] at hk; exact absurd hk (by decide))), fl_rest⟩, by omega, w_138_10 hs _, by rw [f 15 (by decide)]; exact e15, by rw [f 21 (by decide)]; exact e21, by rw [f 23 (by decide)]; exact e23, b1, b2, b3⟩
  obtain ⟨h', r1, r2, r3⟩ := a1.next hN h0 h24
  refine ⟨h', ?_, r2, (fr_fl c1 (by decide)).trans r3⟩
  unfold fX12_opens
  have e9 := hp.2.2.2.2.2.2.2.2.2.2
  have hne : ¬ Int32.ofNat (30 - (r + 1)) = 30 := fun z => by
    have := (iEq (a := 30 - (r + 1)) (b := 30) (by omega) (by decide)).mp z
    omega
  rw [if_pos (o_138 hs), g_138_9 hs, Option.bind_some, e9, if_neg (by decide), if_neg hg, g_138_10 hs, Option.bind_some, e10, if_neg hne, Option.bind_some, p_138_10 hs, Option.bind_some, i_add1, show 30 - (r + 1) + 1 = 30 - r by omega, r1, Option.bind_some]
