/-! ===== FIELDS: the reference ===== -/
def Pgm.depF (P : Pgm) : Nat → Nat → Nat
  | 0, _ => 0
  | f + 1, c => match P.par c with
    | none => 0
    | some e => Pgm.depF P f e + 1
def Pgm.dep (P : Pgm) (c : Nat) : Nat := P.depF P.n c
theorem Pgm.depF_more {P : Pgm} : ∀ {f c : Nat}, P.endF f c = true → P.depF (f + 1) c = P.depF f c
  | 0, c, h => by cases h
  | f + 1, c, h => by
    unfold Pgm.endF at h
    rw [show P.depF (f + 1 + 1) c = match P.par c with
      | none => 0
      | some e => P.depF (f + 1) e + 1 from rfl, show P.depF (f + 1) c = match P.par c with
      | none => 0
      | some e => P.depF f e + 1 from rfl]
    rcases hp : P.par c with _ | e
    · rfl
    · rw [hp] at h
      show P.depF (f + 1) e + 1 = P.depF f e + 1
      rw [Pgm.depF_more h]
theorem Pgm.depF_le (P : Pgm) : ∀ f c, P.depF f c ≤ f
  | 0, c => Nat.le_refl 0
  | f + 1, c => by
    rw [show P.depF (f + 1) c = match P.par c with
      | none => 0
      | some e => P.depF f e + 1 from rfl]
    rcases P.par c with _ | e
    · exact Nat.zero_le _
    · have := Pgm.depF_le P f e
      show P.depF f e + 1 ≤ f + 1
      omega
theorem Pgm.dep_par {P : Pgm} (ha : Acy P) {c e : Nat} (hp : P.par c = some e) : P.dep c = P.dep e + 1 := by
  have h := ha c (Pgm.par_5 hp).2
  unfold Pgm.dep
  obtain ⟨k, hk⟩ : ∃ k, P.n = k + 1 := ⟨4 + P.2.length, by unfold Pgm.n; omega⟩
  rw [hk] at h ⊢
  unfold Pgm.endF at h
  rw [hp] at h
  rw [show P.depF (k + 1) c = match P.par c with
      | none => 0
      | some e => P.depF k e + 1 from rfl, hp, Pgm.depF_more h]
/-- from c up f times: the first whose parent, if there is one, is in U -/
def StpU (P : Pgm) (U : Nat → Bool) (c f : Nat) : Prop := (∀ i, i < f → P.par (P.it c i) = some (P.it c (i + 1)) ∧ U (P.it c (i + 1)) = false) ∧ ∀ e, P.par (P.it c f) = some e → U e = true
theorem StpU.ex {P : Pgm} (ha : Acy P) (U : Nat → Bool) : ∀ (d c : Nat), P.dep c = d → ∃ f, f ≤ d ∧ StpU P U c f
  | 0, c, hd => by
    refine ⟨0, Nat.le_refl 0, fun i hi => by omega, fun e he => ?_⟩
    have := Pgm.dep_par ha he
    have h0 : P.it c 0 = c := rfl
    rw [h0] at this
    omega
  | d + 1, c, hd => by
    rcases hp : P.par c with _ | e
    · refine ⟨0, by omega, fun i hi => by omega, fun e he => ?_⟩
      rw [show P.it c 0 = c from rfl, hp] at he
      cases he
    · cases hu : U e with
      | true =>
        refine ⟨0, by omega, fun i hi => by omega, fun e' he => ?_⟩
        rw [show P.it c 0 = c from rfl, hp] at he
        rw [← Option.some.inj he]
        exact hu
      | false =>
        have := Pgm.dep_par ha hp
        obtain ⟨f, hf, s1, s2⟩ := StpU.ex ha U d e (by omega)
        have hup := Pgm.up_some hp
        refine ⟨f + 1, by omega, fun i hi => ?_, fun e' he => ?_⟩
        · cases i with
          | zero =>
            rw [show P.it c 0 = c from rfl, show P.it c (0 + 1) = P.up c from rfl, hup]
            exact ⟨hp, hu⟩
          | succ i =>
            rw [Pgm.it_succ', Pgm.it_succ', hup]
            exact s1 i (by omega)
        · rw [Pgm.it_succ', hup] at he
          exact s2 e' he
theorem StpU.lt {P : Pgm} {U : Nat → Bool} {c f : Nat} (s : StpU P U c f) (hc : c < P.n) : ∀ i, i ≤ f → P.it c i < P.n
  | 0, _ => hc
  | i + 1, hi => Pgm.par_lt (s.1 i (by omega)).1
theorem StpU.dep {P : Pgm} (ha : Acy P) {U : Nat → Bool} {c f : Nat} (s : StpU P U c f) (i : Nat) : ∀ d, i + d ≤ f → P.dep (P.it c i) = P.dep (P.it c (i + d)) + d
  | 0, _ => rfl
  | d + 1, hd => by
    have h1 := StpU.dep ha s i d (by omega)
    have h2 := Pgm.dep_par ha (s.1 (i + d) (by omega)).1
    rw [show i + (d + 1) = i + d + 1 by omega]
    omega
/-- those of U have their fields laid -/
def RSl (P : Pgm) (U : Nat → Bool) (h : pH) : Prop := ∀ c, c < P.n → rd h 166 c = (if U c = true then Int32.ofNat (P.nf c) else -1) ∧ (U c = true → ∀ j, P.mf c ≤ j → j < P.mf (c + 1) → P.isF j = true → rd h 175 j = Int32.ofNat (P.off c j))
theorem Pgm.nf_lt {P : Pgm} (hn : P.n ≤ 400) (hm : P.ms.length ≤ 1000) (c : Nat) : P.nf c < 2 ^ 31 := by
  have h1 := P.nfF_le P.n c
  have h2 : P.n * P.ms.length ≤ 400 * 1000 := Nat.mul_le_mul hn hm
  unfold Pgm.nf
  omega
theorem RSl.if_nn {P : Pgm} {U : Nat → Bool} {h : pH} (r : RSl P U h) (hn : P.n ≤ 400) (hm : P.ms.length ≤ 1000) {c : Nat} (hc : c < P.n) {α : Type} (x y : α) : (if 0 ≤ rd h 166 c then x else y) = if U c = true then x else y := by
  rw [(r c hc).1]
  cases U c with
  | true => rw [if_pos rfl, if_pos (i_nn0 (Pgm.nf_lt hn hm c)), if_pos rfl]
  | false => rw [if_neg Bool.false_ne_true, if_neg (by decide), if_neg Bool.false_ne_true]
theorem RT.climb_18 {P : Pgm} {D : List Int32 → Prop} {num : List Int32 → Nat} {N c f v : Nat} {U : Nat → Bool} {h : pH} (q : RT P D num h) (hp : RPr P h) (r : RSl P U h) (s : StpU P U c f) (hc : c < P.n) : ∀ (d i k : Nat), i + d = f → d < k → fX12_setSlots_18 N k 138 (Int32.ofNat v) (Int32.ofNat (P.it c i)) h = fX12_setSlots_51 N N 138 (Int32.ofNat v) (Int32.ofNat (P.it c f)) h
  | 0, i, k, hd, hk => by
    obtain ⟨k, rfl⟩ : ∃ k', k = k' + 1 := ⟨k - 1, by omega⟩
    obtain ⟨q1, q2, q3, q4, q5, q6, q7, q8, q9, q10, q11, q12⟩ := id q
    have hi : i = f := by omega
    have hlt := s.lt hc i (by omega)
    rw [fX12_setSlots_18, R_138_41 q1, Option.bind_some, L_165 q1 (by omega), Option.bind_some, hp _ hlt, i_neg_oI (fun e he => by have := Pgm.par_lt he; omega), hi]
    rcases hpf : P.par (P.it c f) with _ | e
    · rfl
    · have he := Pgm.par_lt hpf
      rw [if_neg (show ¬ (some e).isNone = true from Bool.false_ne_true), R_138_42 q1, Option.bind_some, Option.bind_some, ← hi, L_165 q1 (by omega), Option.bind_some, hp _ hlt, hi, hpf, show oI (-1) (some e) = Int32.ofNat e from rfl, L_166 q1 (by omega), Option.bind_some, r.if_nn (by omega) (by omega) he, if_pos (s.2 e hpf)]
  | d + 1, i, k, hd, hk => by
    obtain ⟨k, rfl⟩ : ∃ k', k = k' + 1 := ⟨k - 1, by omega⟩
    obtain ⟨q1, q2, q3, q4, q5, q6, q7, q8, q9, q10, q11, q12⟩ := id q
    have hlt := s.lt hc i (by omega)
    obtain ⟨s1, s2⟩ := s.1 i (by omega)
    have he := Pgm.par_lt s1
    rw [fX12_setSlots_18, R_138_41 q1, Option.bind_some, L_165 q1 (by omega), Option.bind_some, hp _ hlt, i_neg_oI (fun e he => by have := Pgm.par_lt he; omega), s1, if_neg (show ¬ (some (P.it c (i + 1))).isNone = true from Bool.false_ne_true), R_138_42 q1, Option.bind_some, Option.bind_some, L_165 q1 (by omega), Option.bind_some, hp _ hlt, s1, show oI (-1) (some (P.it c (i + 1))) = Int32.ofNat (P.it c (i + 1)) from rfl, L_166 q1 (by omega), Option.bind_some, r.if_nn (by omega) (by omega) he, if_neg (by rw [s2]; exact Bool.false_ne_true), Option.bind_some, L_165 q1 (by omega), Option.bind_some, hp _ hlt, s1]
    exact RT.climb_18 q hp r s hc d (i + 1) k (by omega) (by omega)
theorem RT.climb_145 {P : Pgm} {D : List Int32 → Prop} {num : List Int32 → Nat} {N c f v : Nat} {U : Nat → Bool} {h : pH} {k51 : Nat → Int32 → Int32 → pH → Option (Int32 × pH)} (q : RT P D num h) (hp : RPr P h) (r : RSl P U h) (s : StpU P U c f) (hc : c < P.n) : ∀ (d i k : Nat), i + d = f → d < k → fX12_setSlots_145 N k51 k 138 (Int32.ofNat v) (Int32.ofNat (P.it c i)) h = k51 138 (Int32.ofNat v) (Int32.ofNat (P.it c f)) h
  | 0, i, k, hd, hk => by
    obtain ⟨k, rfl⟩ : ∃ k', k = k' + 1 := ⟨k - 1, by omega⟩
    obtain ⟨q1, q2, q3, q4, q5, q6, q7, q8, q9, q10, q11, q12⟩ := id q
    have hi : i = f := by omega
    have hlt := s.lt hc i (by omega)
    rw [fX12_setSlots_145, R_138_41 q1, Option.bind_some, L_165 q1 (by omega), Option.bind_some, hp _ hlt, i_neg_oI (fun e he => by have := Pgm.par_lt he; omega), hi]
    rcases hpf : P.par (P.it c f) with _ | e
    · rfl
    · have he := Pgm.par_lt hpf
      rw [if_neg (show ¬ (some e).isNone = true from Bool.false_ne_true), R_138_42 q1, Option.bind_some, Option.bind_some, ← hi, L_165 q1 (by omega), Option.bind_some, hp _ hlt, hi, hpf, show oI (-1) (some e) = Int32.ofNat e from rfl, L_166 q1 (by omega), Option.bind_some, r.if_nn (by omega) (by omega) he, if_pos (s.2 e hpf)]
      rfl
  | d + 1, i, k, hd, hk => by
    obtain ⟨k, rfl⟩ : ∃ k', k = k' + 1 := ⟨k - 1, by omega⟩
    obtain ⟨q1, q2, q3, q4, q5, q6, q7, q8, q9, q10, q11, q12⟩ := id q
    have hlt := s.lt hc i (by omega)
    obtain ⟨s1, s2⟩ := s.1 i (by omega)
    have he := Pgm.par_lt s1
    rw [fX12_setSlots_145, R_138_41 q1, Option.bind_some, L_165 q1 (by omega), Option.bind_some, hp _ hlt, i_neg_oI (fun e he => by have := Pgm.par_lt he; omega), s1, if_neg (show ¬ (some (P.it c (i + 1))).isNone = true from Bool.false_ne_true), R_138_42 q1, Option.bind_some, Option.bind_some, L_165 q1 (by omega), Option.bind_some, hp _ hlt, s1, show oI (-1) (some (P.it c (i + 1))) = Int32.ofNat (P.it c (i + 1)) from rfl, L_166 q1 (by omega), Option.bind_some, r.if_nn (by omega) (by omega) he, if_neg (by rw [s2]; exact Bool.false_ne_true), Option.bind_some, L_165 q1 (by omega), Option.bind_some, hp _ hlt, s1]
    exact RT.climb_145 q hp r s hc d (i + 1) k (by omega) (by omega)
theorem RT.slot_93 {P : Pgm} {D : List Int32 → Prop} {num : List Int32 → Nat} {N c : Nat} {v : Int32} {k51 : Nat → Int32 → Int32 → pH → Option (Int32 × pH)} (ha : Acy P) (hc : c < P.n) : ∀ (d m k : Nat) (h : pH), m + d = P.mf (c + 1) → P.mf c ≤ m → d < k → RT P D num h → ∃ h', fX12_setSlots_93 N k51 k 138 v (Int32.ofNat c) (Int32.ofNat (P.off c m)) (Int32.ofNat m) h = fX12_setSlots_145 N k51 N 138 v v h' ∧ rd h' 166 c = Int32.ofNat (P.nf c) ∧ (∀ j, m ≤ j → j < P.mf (c + 1) → P.isF j = true → rd h' 175 j = Int32.ofNat (P.off c j)) ∧ Chg (fun a k => (a = 166 ∧ k = c) ∨ (a = 175 ∧ m ≤ k ∧ k < P.mf (c + 1))) h h'
  | 0, m, k, h, hd, hcm, hk, q => by
    obtain ⟨k, rfl⟩ : ∃ k', k = k' + 1 := ⟨k - 1, by omega⟩
    obtain ⟨q1, q2, q3, q4, q5, q6, q7, q8, q9, q10, q11, q12⟩ := id q
    have hml := P.mf_le (c + 1)
    rw [← P.ms_len] at hml
    have hof : P.off c m = P.nf c := by rw [Pgm.nf_eq ha hc, show m = P.mf (c + 1) by omega]; rfl
    refine ⟨wr h 166 c (Int32.ofNat (P.nf c)), ?_, W_166 q1 _ _, fun j h1 h2 => by omega, Chg.wr _ _ _ _ (Or.inl ⟨rfl, rfl⟩)⟩
    rw [fX12_setSlots_93, R_138_43 q1, Option.bind_some, i_add1, L_167 q1 (by omega), Option.bind_some, q8 (c + 1) (by omega), ifLe (by omega) (by omega), if_pos (by omega), R_138_42 q1, Option.bind_some, T_166 q1 (by omega), Option.bind_some, hof]
  | d + 1, m, k, h, hd, hcm, hk, q => by
    obtain ⟨k, rfl⟩ : ∃ k', k = k' + 1 := ⟨k - 1, by omega⟩
    obtain ⟨q1, q2, q3, q4, q5, q6, q7, q8, q9, q10, q11, q12⟩ := id q
    have hml := P.mf_le (c + 1)
    rw [← P.ms_len] at hml
    obtain ⟨b, hb⟩ : ∃ b, P.ms[m]? = some b := ⟨P.ms[m]'(by omega), List.getElem?_eq_getElem (by omega)⟩
    have hf : P.isF m = !b.1 := by unfold Pgm.isF; rw [hb]
    obtain ⟨z1, z2, z3, z4⟩ := q12 m b hb
    have hos := Pgm.off_succ (P := P) hcm
    cases hb1 : b.1 with
    | false =>
      rw [hf, hb1] at hos
      replace hos : P.off c (m + 1) = P.off c m + 1 := hos
      have g : Chg (fun a k => (a = 166 ∧ k = c) ∨ (a = 175 ∧ m ≤ k ∧ k < P.mf (c + 1))) h (wr h 175 m (Int32.ofNat (P.off c m))) := Chg.wr _ _ _ _ (Or.inr ⟨rfl, by omega, by omega⟩)
      have q' := q.chg g (fun a k ha => by unfold rtA at ha; omega) (by omega) (by omega)
      obtain ⟨h', e1, e2, e3, e4⟩ := RT.slot_93 (k51 := k51) (N := N) (v := v) ha hc d (m + 1) k _ (by omega) (by omega) (by omega) q'
      refine ⟨h', ?_, e2, fun j h1 h2 h3 => ?_, g.trans (e4.mono (fun a k z => by omega))⟩
      · rw [fX12_setSlots_93, R_138_43 q1, Option.bind_some, i_add1, L_167 q1 (by omega), Option.bind_some, q8 (c + 1) (by omega), ifLe (by omega) (by omega), if_neg (by omega), R_138_48 q1, Option.bind_some, L_171 q1 (by omega), Option.bind_some, z3, hb1, if_pos (show kI false = 0 by decide), R_138_52 q1, Option.bind_some, T_175 q1 (by omega), Option.bind_some]
        unfold fX12_setSlots_130
        rw [i_add1, i_add1, ← hos]
        exact e1
      · by_cases z : j = m
        · rw [z, e4.2.2.1 _ _ (by omega), W_175 q1]
        · exact e3 j (by omega) h2 h3
    | true =>
      rw [hf, hb1] at hos
      replace hos : P.off c (m + 1) = P.off c m := hos
      obtain ⟨h', e1, e2, e3, e4⟩ := RT.slot_93 (k51 := k51) (N := N) (v := v) ha hc d (m + 1) k h (by omega) (by omega) (by omega) q
      refine ⟨h', ?_, e2, fun j h1 h2 h3 => ?_, e4.mono (fun a k z => by omega)⟩
      · rw [fX12_setSlots_93, R_138_43 q1, Option.bind_some, i_add1, L_167 q1 (by omega), Option.bind_some, q8 (c + 1) (by omega), ifLe (by omega) (by omega), if_neg (by omega), R_138_48 q1, Option.bind_some, L_171 q1 (by omega), Option.bind_some, z3, hb1, if_neg (show ¬ kI true = 0 by decide)]
        unfold fX12_setSlots_130
        rw [i_add1, ← hos]
        exact e1
      · by_cases z : j = m
        · rw [z, hf, hb1] at h3; cases h3
        · exact e3 j (by omega) h2 h3
