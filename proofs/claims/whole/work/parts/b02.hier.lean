/-! ===== CLASSES: what is above, fields above, methods above ===== -/
theorem Pgm.nk (P : Pgm) : ∃ k, P.n = k + 1 := ⟨4 + P.2.length, by unfold Pgm.n; omega⟩
theorem Pgm.undF_s (P : Pgm) (d f c : Nat) : P.undF d (f + 1) c = if c = d then true else match P.par c with
    | none => false
    | some e => P.undF d f e := rfl
theorem Pgm.undF_more {P : Pgm} {d : Nat} : ∀ {f c : Nat}, P.endF f c = true → P.undF d (f + 1) c = P.undF d f c
  | 0, c, h => by cases h
  | f + 1, c, h => by
    unfold Pgm.endF at h
    rw [Pgm.undF_s P d (f + 1) c, Pgm.undF_s P d f c]
    split
    · rfl
    · rcases hp : P.par c with _ | e
      · rfl
      · rw [hp] at h
        exact Pgm.undF_more h
theorem Pgm.und_eq {P : Pgm} (ha : Acy P) {c d : Nat} (hc : c < P.n) : P.und c d = if c = d then true else match P.par c with
    | none => false
    | some e => P.und e d := by
  have h := ha c hc
  unfold Pgm.und
  rw [← Pgm.undF_more h, Pgm.undF_s]
theorem Pgm.und_refl (P : Pgm) (c : Nat) : P.und c c = true := by
  unfold Pgm.und
  obtain ⟨k, hk⟩ := P.nk
  rw [hk, Pgm.undF_s, if_pos rfl]
theorem Pgm.und_up {P : Pgm} (ha : Acy P) {c d e : Nat} (hp : P.par c = some e) (h : P.und e d = true) : P.und c d = true := by
  rw [Pgm.und_eq ha (Pgm.par_5 hp).2]
  split
  · rfl
  · rw [hp]; exact h
theorem Pgm.und_ind {P : Pgm} (ha : Acy P) {d : Nat} (M : Nat → Prop) (h0 : M d) (h1 : ∀ c e, P.par c = some e → P.und e d = true → M e → M c) : ∀ (k c : Nat), P.dep c = k → c < P.n → P.und c d = true → M c
  | k, c, hk, hc, hu => by
    rw [Pgm.und_eq ha hc] at hu
    split at hu
    · rename_i z; rw [z]; exact h0
    · rcases hp : P.par c with _ | e
      · rw [hp] at hu; cases hu
      · rw [hp] at hu
        have hd := Pgm.dep_par ha hp
        match k, hk with
        | 0, hk => omega
        | k + 1, hk => exact h1 c e hp hu (Pgm.und_ind ha M h0 h1 k e (by omega) (Pgm.par_lt hp) hu)
theorem Pgm.und_lt {P : Pgm} (ha : Acy P) {c d : Nat} (hc : c < P.n) (h : P.und c d = true) : d < P.n := by
  refine Classical.byContradiction fun hd => ?_
  exact Pgm.und_ind ha (fun x => ¬ x < P.n) hd (fun x e hp _ _ => absurd (Pgm.par_lt hp) (by rename_i z; exact z)) _ c rfl hc h hc
theorem Pgm.und_trans {P : Pgm} (ha : Acy P) {c d e : Nat} (hc : c < P.n) (h1 : P.und c d = true) (h2 : P.und d e = true) : P.und c e = true :=
  Pgm.und_ind ha (fun x => P.und x e = true) h2 (fun _ _ hp _ z => Pgm.und_up ha hp z) _ c rfl hc h1
theorem Pgm.hadF_s (P : Pgm) (k : Bool) (w : List Int32) (f c : Nat) : P.hadF k w (f + 1) c = match P.amg k w (P.mf c) (P.mf (c + 1)) with
    | some m => some m
    | none => match P.par c with
      | none => none
      | some d => P.hadF k w f d := rfl
theorem Pgm.hadF_more {P : Pgm} {k : Bool} {w : List Int32} : ∀ {f c : Nat}, P.endF f c = true → P.hadF k w (f + 1) c = P.hadF k w f c
  | 0, c, h => by cases h
  | f + 1, c, h => by
    unfold Pgm.endF at h
    rw [Pgm.hadF_s P k w (f + 1) c, Pgm.hadF_s P k w f c]
    rcases P.amg k w (P.mf c) (P.mf (c + 1)) with _ | m
    · rcases hp : P.par c with _ | e
      · rfl
      · rw [hp] at h
        exact Pgm.hadF_more h
    · rfl
theorem Pgm.had_eq {P : Pgm} (ha : Acy P) {k : Bool} {w : List Int32} {c : Nat} (hc : c < P.n) : P.had k w c = match P.amg k w (P.mf c) (P.mf (c + 1)) with
    | some m => some m
    | none => match P.par c with
      | none => none
      | some d => P.had k w d := by
  have h := ha c hc
  unfold Pgm.had
  rw [← Pgm.hadF_more h, Pgm.hadF_s]
/-- the member that a class has lies in a class above it -/
theorem Pgm.had_ow {P : Pgm} (ha : Acy P) {k : Bool} {w : List Int32} {m : Nat} : ∀ (j c : Nat), P.dep c = j → c < P.n → P.had k w c = some m → P.und c (P.ow m) = true ∧ m < P.ms.length ∧ P.mIs k w m = true
  | j, c, hj, hc, h => by
    rw [Pgm.had_eq ha hc] at h
    rcases hm : P.amg k w (P.mf c) (P.mf (c + 1)) with _ | m'
    · rw [hm] at h
      rcases hp : P.par c with _ | e
      · rw [hp] at h; cases h
      · rw [hp] at h
        have hd := Pgm.dep_par ha hp
        match j, hj with
        | 0, hj => omega
        | j + 1, hj =>
          obtain ⟨h1, h2, h3⟩ := Pgm.had_ow ha j e (by omega) (Pgm.par_lt hp) h
          exact ⟨Pgm.und_up ha hp h1, h2, h3⟩
    · rw [hm] at h
      obtain rfl := Option.some.inj h
      obtain ⟨h1, h2, h3, h4⟩ := Pgm.amg_lt hm
      exact ⟨by rw [Pgm.ow_eq h2 h3 h1]; exact P.und_refl c, h1, h4⟩
theorem Pgm.ftF_s (P : Pgm) (f c : Nat) : P.ftF (f + 1) c = (match P.par c with
    | none => []
    | some d => P.ftF f d) ++ P.ofl (P.mf (c + 1) - P.mf c) (P.mf c) := rfl
theorem Pgm.ftF_more {P : Pgm} : ∀ {f c : Nat}, P.endF f c = true → P.ftF (f + 1) c = P.ftF f c
  | 0, c, h => by cases h
  | f + 1, c, h => by
    unfold Pgm.endF at h
    rw [Pgm.ftF_s P (f + 1) c, Pgm.ftF_s P f c]
    rcases hp : P.par c with _ | e
    · rfl
    · rw [hp] at h
      dsimp only
      rw [Pgm.ftF_more h]
theorem Pgm.fts_eq {P : Pgm} (ha : Acy P) {c : Nat} (hc : c < P.n) : P.fts c = (match P.par c with
    | none => []
    | some d => P.fts d) ++ P.ofl (P.mf (c + 1) - P.mf c) (P.mf c) := by
  have h := ha c hc
  unfold Pgm.fts
  rw [← Pgm.ftF_more h, Pgm.ftF_s]
theorem Pgm.ofl_len (P : Pgm) : ∀ d i, (P.ofl d i).length = P.cf d i
  | 0, i => rfl
  | d + 1, i => by
    show (if P.isF i = true then P.mty i :: P.ofl d (i + 1) else P.ofl d (i + 1)).length = (if P.isF i = true then 1 else 0) + P.cf d (i + 1)
    split
    · rw [List.length_cons, Pgm.ofl_len P d (i + 1)]; omega
    · rw [Pgm.ofl_len P d (i + 1)]; omega
theorem Pgm.ofl_at (P : Pgm) : ∀ (d i j : Nat), j < d → P.isF (i + j) = true → (P.ofl d i)[P.cf j i]? = some (P.mty (i + j))
  | 0, i, j, hj, _ => by omega
  | d + 1, i, 0, hj, hf => by
    rw [Nat.add_zero] at hf ⊢
    show (if P.isF i = true then P.mty i :: P.ofl d (i + 1) else P.ofl d (i + 1))[0]? = _
    rw [if_pos hf]
    rfl
  | d + 1, i, j + 1, hj, hf => by
    have ih := Pgm.ofl_at P d (i + 1) j (by omega) (by rw [show i + 1 + j = i + (j + 1) by omega]; exact hf)
    show (if P.isF i = true then P.mty i :: P.ofl d (i + 1) else P.ofl d (i + 1))[(if P.isF i = true then 1 else 0) + P.cf j (i + 1)]? = _
    rw [show i + 1 + j = i + (j + 1) by omega] at ih
    split
    · rw [show 1 + P.cf j (i + 1) = P.cf j (i + 1) + 1 by omega, List.getElem?_cons_succ]
      exact ih
    · rw [Nat.zero_add]; exact ih
theorem Pgm.fts_len {P : Pgm} (ha : Acy P) : ∀ (k c : Nat), P.dep c = k → c < P.n → (P.fts c).length = P.nf c
  | k, c, hk, hc => by
    rw [Pgm.fts_eq ha hc, Pgm.nf_eq ha hc, List.length_append, Pgm.ofl_len]
    unfold Pgm.abv
    rcases hp : P.par c with _ | e
    · rfl
    · have hd := Pgm.dep_par ha hp
      match k, hk with
      | 0, hk => omega
      | k + 1, hk =>
        have := Pgm.fts_len ha k e (by omega) (Pgm.par_lt hp)
        show (P.fts e).length + _ = P.nf e + _
        rw [this]
        rfl
theorem Pgm.fts_pre {P : Pgm} (ha : Acy P) {c e : Nat} (hc : c < P.n) (h : P.und c e = true) : ∃ t, P.fts c = P.fts e ++ t :=
  Pgm.und_ind ha (fun x => ∃ t, P.fts x = P.fts e ++ t) ⟨[], (List.append_nil _).symm⟩ (fun x y hp _ z => by
    obtain ⟨t, ht⟩ := z
    rw [Pgm.fts_eq ha (Pgm.par_5 hp).2, hp]
    exact ⟨t ++ P.ofl (P.mf (x + 1) - P.mf x) (P.mf x), by dsimp only; rw [ht, List.append_assoc]⟩) _ c rfl hc h
/-- a field lies where its type is told -/
theorem Pgm.fts_at {P : Pgm} (ha : Acy P) {c m : Nat} (hc : c < P.n) (hm : m < P.ms.length) (hf : P.isF m = true) (h : P.und c (P.ow m) = true) : (P.fts c)[P.mo m]? = some (P.mty m) := by
  obtain ⟨o1, o2, o3⟩ := Pgm.ow_at hm
  obtain ⟨t, ht⟩ := Pgm.fts_pre ha hc h
  have hl := Pgm.fts_len ha _ _ rfl o1
  have hown : (P.fts (P.ow m))[P.mo m]? = some (P.mty m) := by
    have e := P.ofl_at (P.mf (P.ow m + 1) - P.mf (P.ow m)) (P.mf (P.ow m)) (m - P.mf (P.ow m)) (by omega) (by rw [show P.mf (P.ow m) + (m - P.mf (P.ow m)) = m by omega]; exact hf)
    rw [show P.mf (P.ow m) + (m - P.mf (P.ow m)) = m by omega] at e
    rw [Pgm.fts_eq ha o1]
    have hab : (match P.par (P.ow m) with
      | none => []
      | some d => P.fts d).length = P.abv (P.ow m) := by
      unfold Pgm.abv
      rcases hp : P.par (P.ow m) with _ | d
      · rfl
      · exact Pgm.fts_len ha _ d rfl (Pgm.par_lt hp)
    rw [List.getElem?_append_right (by rw [hab]; unfold Pgm.mo Pgm.off; omega), hab]
    unfold Pgm.mo Pgm.off
    rw [show P.abv (P.ow m) + P.cf (m - P.mf (P.ow m)) (P.mf (P.ow m)) - P.abv (P.ow m) = P.cf (m - P.mf (P.ow m)) (P.mf (P.ow m)) by omega]
    exact e
  rw [ht, List.getElem?_append_left (List.getElem?_eq_some_iff.mp hown).1]
  exact hown
theorem Pgm.fldT_fts {P : Pgm} (ha : Acy P) {w : List Int32} {c t m : Nat} (hc : c < P.n) (ht : P.und c (t - 10) = true) (h : P.fldT w t = some m) : (P.fts c)[P.mo m]? = some (P.mty m) ∧ m < P.ms.length ∧ P.isF m = true := by
  obtain ⟨h1, h2⟩ := Pgm.fldT_at h
  unfold Pgm.fldT at h
  split at h
  · cases h
  · have hd := Pgm.und_lt ha hc ht
    obtain ⟨k1, k2, k3⟩ := Pgm.had_ow ha _ _ rfl hd h
    exact ⟨Pgm.fts_at ha hc h1 h2 (Pgm.und_trans ha hc ht k1), h1, h2⟩
/-- the same types of result and parameters -/
def SameM (P : Pgm) (m m' : Nat) : Prop := ∃ b b', P.ms[m]? = some b ∧ P.ms[m']? = some b' ∧ b.1 = true ∧ b'.1 = true ∧ P.rt b.2.1 = P.rt b'.2.1 ∧ mbP b = mbP b' ∧ ∀ i, i < mbP b → P.rt (px b i).1 = P.rt (px b' i).1
theorem Pgm.same_of {P : Pgm} {b d : Mb} (h : P.same b d = true) : P.rt b.2.1 = P.rt d.2.1 ∧ mbP b = mbP d ∧ ∀ i, i < mbP b → P.rt (px b i).1 = P.rt (px d i).1 := by
  unfold Pgm.same at h
  obtain ⟨h1, h⟩ := Bool.and_eq_true_iff.mp h
  obtain ⟨h2, h3⟩ := Bool.and_eq_true_iff.mp h
  refine ⟨of_decide_eq_true h1, of_decide_eq_true h2, fun i hi => ?_⟩
  rcases hn : fstN (fun i => decide (P.rt (px b i).1 ≠ P.rt (px d i).1)) (mbP b) 0 with _ | x
  · have := fstN_none hn i (Nat.zero_le _) (by omega)
    exact Classical.byContradiction fun z => by
      rw [decide_eq_true z] at this
      cases this
  · rw [hn] at h3; cases h3
theorem SameM.refl {P : Pgm} {m : Nat} {b : Mb} (h : P.ms[m]? = some b) (hm : b.1 = true) : SameM P m m := ⟨b, b, h, h, hm, hm, rfl, rfl, fun _ _ => rfl⟩
theorem mIs_get {P : Pgm} {k : Bool} {w : List Int32} {m : Nat} (h : P.mIs k w m = true) : ∃ b, P.ms[m]? = some b ∧ b.1 = k ∧ P.1 b.2.2.1 = w := by
  unfold Pgm.mIs at h
  rcases hb : P.ms[m]? with _ | b
  · rw [hb] at h; cases h
  · rw [hb] at h
    exact ⟨b, rfl, (of_decide_eq_true h).1, (of_decide_eq_true h).2⟩
theorem Pgm.had_same {P : Pgm} (ha : Acy P) (hB : P.badB = none) {w : List Int32} {d m : Nat} (hd : d < P.n) (hm : P.had true w d = some m) {c : Nat} (hc : c < P.n) (h : P.und c d = true) : ∃ m', P.had true w c = some m' ∧ SameM P m m' :=
  Pgm.und_ind ha (fun x => ∃ m', P.had true w x = some m' ∧ SameM P m m') (by
    obtain ⟨_, h2, h3⟩ := Pgm.had_ow ha _ _ rfl hd hm
    obtain ⟨b, hb, hb1, _⟩ := mIs_get h3
    exact ⟨m, hm, SameM.refl hb hb1⟩) (fun x e hp _ z => by
    obtain ⟨m', z1, z2⟩ := z
    obtain ⟨h5, hxn⟩ := Pgm.par_5 hp
    rw [Pgm.had_eq ha hxn]
    rcases ham : P.amg true w (P.mf x) (P.mf (x + 1)) with _ | m2
    · rw [hp]
      exact ⟨m', z1, z2⟩
    · refine ⟨m2, rfl, ?_⟩
      obtain ⟨a1, a2, a3, a4⟩ := Pgm.amg_lt ham
      obtain ⟨b2, hb2, hb21, hb2w⟩ := mIs_get a4
      have hmb := Pgm.badBF_none hB x h5 (by have : P.n = 5 + P.2.length := rfl; omega) m2 a2 a3
      unfold Pgm.mbad at hmb
      rw [hb2] at hmb
      have hmb : (!(if b2.1 = true then P.mfine x m2 b2 else P.ffine x m2 b2)) = false := hmb
      rw [if_pos hb21] at hmb
      have hmf : P.mfine x m2 b2 = true := by
        cases q : P.mfine x m2 b2 with
        | true => rfl
        | false => rw [q] at hmb; cases hmb
      unfold Pgm.mfine at hmf
      have hov := (Bool.and_eq_true_iff.mp (Bool.and_eq_true_iff.mp (Bool.and_eq_true_iff.mp hmf).2).2).2
      obtain ⟨b, b', s1, s2, s3, s4, s5, s6, s7⟩ := z2
      have ho : P.hadO true (P.1 b2.2.2.1) (P.par x) = some m' := by
        rw [hp, hb2w]; exact z1
      rw [ho] at hov
      have hov : (match P.ms[m']? with
        | none => true
        | some d => P.same b2 d) = true := hov
      rw [s2] at hov
      obtain ⟨t1, t2, t3⟩ := Pgm.same_of hov
      exact ⟨b, b2, s1, hb2, s3, hb21, s5.trans t1.symm, s6.trans t2.symm, fun i hi => (s7 i hi).trans (t3 i (by omega)).symm⟩) _ c rfl hc h
