/-! ===== WHAT IS BAD OF CLASSES; THE CLASS' TABLES HOLD WHAT WAS READ ===== -/
theorem pig : ∀ (n : Nat) (f : Nat → Nat), (∀ i, i ≤ n → f i < n) → ∃ i j, i < j ∧ j ≤ n ∧ f i = f j
  | 0, f, h => by have := h 0 (Nat.le_refl _); omega
  | n + 1, f, h => by
    by_cases hv : ∃ i, i ≤ n ∧ f i = f (n + 1)
    · obtain ⟨i, i1, i2⟩ := hv
      exact ⟨i, n + 1, by omega, Nat.le_refl _, i2⟩
    · have hne : ∀ i, i ≤ n → f i ≠ f (n + 1) := fun i hi z => hv ⟨i, hi, z⟩
      obtain ⟨i, j, h1, h2, h3⟩ := pig n (fun i => if f (n + 1) < f i then f i - 1 else f i) (fun i hi => by
        have a1 := h i (by omega)
        have a2 := h (n + 1) (Nat.le_refl _)
        have a3 := hne i hi
        show (if f (n + 1) < f i then f i - 1 else f i) < n
        split <;> omega)
      refine ⟨i, j, h1, by omega, ?_⟩
      have a1 := hne i (by omega)
      have a2 := hne j h2
      split at h3 <;> split at h3 <;> omega
def Pgm.b1 (P : Pgm) (c : Nat) : Bool := decide (P.fnd (P.cn c) ≠ some c)
def Pgm.b2 (P : Pgm) (c : Nat) : Bool := (P.pw c).isSome && (P.par c).isNone
/-- is c among the first f on the way from o? -/
def Pgm.b3F (P : Pgm) (c : Nat) : Nat → Option Nat → Bool
  | 0, _ => false
  | _ + 1, none => false
  | f + 1, some d => if d = c then true else Pgm.b3F P c f (P.par d)
def Pgm.b3 (P : Pgm) (c : Nat) : Bool := P.b3F c P.n (P.par c)
/-- the place of a bad class -/
def Pgm.badA (P : Pgm) : Option Nat := match fstN P.b1 P.2.length 5 with
  | some c => some (P.pl c)
  | none => match fstN P.b2 P.2.length 5 with
    | some c => some (P.pl c)
    | none => match fstN P.b3 P.2.length 5 with
      | some c => some (P.pl c)
      | none => none
theorem csC_get {C : Cx} {h : pH} : ∀ {cs : List Cl} {k m p c i : Nat} {x : Cl}, csC C h cs k m p c → cs[i]? = some x → clC C h x (k + i) (m + csM (cs.take i)) (p + csP (cs.take i)) (c + csK (cs.take i))
  | [], k, m, p, c, i, x, _, hx => by cases hx
  | y :: ys, k, m, p, c, 0, x, q, hx => by
    obtain rfl := Option.some.inj hx
    exact q.1
  | y :: ys, k, m, p, c, i + 1, x, q, hx => by
    have := csC_get q.2 (i := i) hx
    rw [List.take_succ_cons, csM_cons, csP_cons, csK_cons, show k + (i + 1) = k + 1 + i by omega, ← Nat.add_assoc, ← Nat.add_assoc, ← Nat.add_assoc]
    exact this
theorem msP_app (a b : List Mb) : msP (a ++ b) = msP a + msP b := by
  induction a with
  | nil => show msP b = 0 + msP b; omega
  | cons x a ih => show mbP x + msP (a ++ b) = mbP x + msP a + msP b; omega
theorem msK_app (a b : List Mb) : msK (a ++ b) = msK a + msK b := by
  induction a with
  | nil => show msK b = 0 + msK b; omega
  | cons x a ih => show mcC x + msK (a ++ b) = mcC x + msK a + msK b; omega
theorem msC_app {C : Cx} {h : pH} : ∀ {a b : List Mb} {m p c : Nat}, msC C h a m p c → msC C h b (m + a.length) (p + msP a) (c + msK a) → msC C h (a ++ b) m p c
  | [], b, m, p, c, _, q => q
  | x :: a, b, m, p, c, ⟨q1, q2⟩, q => by
    refine ⟨q1, msC_app q2 ?_⟩
    rw [msP_cons, msK_cons, ← Nat.add_assoc, ← Nat.add_assoc, show m + (x :: a).length = m + 1 + a.length by show m + (a.length + 1) = _; omega] at q
    exact q
theorem csC_ms {C : Cx} {h : pH} : ∀ {cs : List Cl} {k m p c : Nat}, csC C h cs k m p c → msC C h (cs.flatMap (fun x => x.2.2.2)) m p c
  | [], k, m, p, c, _ => trivial
  | x :: xs, k, m, p, c, q => by
    rw [List.flatMap_cons]
    exact msC_app q.1.2.2.2.2.2.2 (csC_ms q.2)
theorem msC_get {C : Cx} {h : pH} : ∀ {l : List Mb} {m p c i : Nat} {b : Mb}, msC C h l m p c → l[i]? = some b → mcR C h b (m + i) (p + msP (l.take i)) (c + msK (l.take i))
  | [], m, p, c, i, b, _, hb => by cases hb
  | y :: ys, m, p, c, 0, b, q, hb => by
    obtain rfl := Option.some.inj hb
    exact q.1
  | y :: ys, m, p, c, i + 1, b, q, hb => by
    have := msC_get q.2 (i := i) hb
    rw [List.take_succ_cons, msP_cons, msK_cons, show m + (i + 1) = m + 1 + i by omega, ← Nat.add_assoc, ← Nat.add_assoc]
    exact this
theorem kn_fx : ∀ k, k < 8 → fxW[21 + k]? = some (knW k) := by decide +kernel
theorem nmb_kn (r : List (List Int32)) (hd : (fxW ++ r).Nodup) {k : Nat} (hk : k < 8) : knW k ∈ fxW ++ r ∧ nmb r (knW k) = 21 + k := by
  have h1 := kn_fx k hk
  have h2 : (fxW ++ r)[21 + k]? = some (knW k) := by rw [List.getElem?_append_left (by show 21 + k < 29; omega)]; exact h1
  exact ⟨List.mem_of_getElem? h2, idxOf_get hd h2⟩
theorem nmb_lt (r : List (List Int32)) (hr : r.length ≤ 3000) (w : List Int32) : nmb r w < 4000 := by
  have := List.idxOf_le_length (l := fxW ++ r) (a := w)
  have hfx : fxW.length = 29 := rfl
  rw [List.length_append, hfx] at this
  unfold nmb
  omega
theorem nmb_inj (r : List (List Int32)) : NmI (fun w => w ∈ fxW ++ r) (nmb r) := by
  intro a b ha hb hab
  unfold nmb at hab
  have h1 := List.getElem_idxOf (xs := fxW ++ r) (x := a) (List.idxOf_lt_length_iff.mpr ha)
  have h2 := List.getElem_idxOf (xs := fxW ++ r) (x := b) (List.idxOf_lt_length_iff.mpr hb)
  rw [← h1, ← h2]
  congr 1
theorem WS.word {T : Txt} {r : List (List Int32)} {n w : Nat} {h : pH} (q : WS T r n h) (h0 : tkK T n = 0) (hw : tkK T w = 22) : tkW T w ∈ fxW ++ r := by
  have hle : w ≤ n := by
    rcases Nat.lt_or_ge n w with z | z
    · obtain ⟨d, rfl⟩ : ∃ d, w = n + d := ⟨w - n, by omega⟩
      rw [tk_ends T h0 d] at hw
      exact absurd hw (by decide)
    · exact z
  exact (q.name hle hw).2.1
/-- the words of parents; none is set yet -/
def CPn (P : Pgm) (D : List Int32 → Prop) (num : List Int32 → Nat) (h : pH) : Prop := ∀ c, c < P.n → (∀ w, P.pw c = some w → D (P.1 w) ∧ rd h 20 c = Int32.ofNat (num (P.1 w))) ∧ (P.pw c = none → rd h 20 c = -1)
theorem CPar.ct {T : Txt} {r : List (List Int32)} {n t' : Nat} {cs : List Cl} {h : pH} (hq : (tkS T).prog = ok cs t') (q : CPar (cxT T r n) cs h) (w : WS T r n h) : CT (tkW T, cs) (fun w => w ∈ fxW ++ r) (nmb r) h ∧ CPn (tkW T, cs) (fun w => w ∈ fxW ++ r) (nmb r) h ∧ (∀ c, c < 5 + cs.length → rd h 21 c = -1) := by
  obtain ⟨q1, q2, q3, q4, q5, q6, q7, q8, q9, q10, q11, q12⟩ := q
  obtain ⟨w1, w2, w3, w4, w5, w6, w7, w8⟩ := id w
  obtain ⟨g1, g2⟩ := Tks.prog_gb hq
  have hn : Pgm.n (tkW T, cs) = 5 + cs.length := rfl
  have k0 : tkK T n = 0 := q12
  have hml : (Pgm.ms (tkW T, cs)).length = csM cs := Pgm.ms_len _
  have cls : ∀ c, 5 ≤ c → c < 5 + cs.length → ∃ x, cs[c - 5]? = some x ∧ GC (tkS T) x ∧ clC (cxT T r n) h x c (csM (cs.take (c - 5))) (csP (cs.take (c - 5))) (csK (cs.take (c - 5))) := by
    intro c c1 c2
    have hx : cs[c - 5]? = some (cs[c - 5]'(by omega)) := List.getElem?_eq_getElem (by omega)
    have := csC_get q2 hx
    rw [show 5 + (c - 5) = c by omega, Nat.zero_add, Nat.zero_add, Nat.zero_add] at this
    exact ⟨_, hx, g1 _ (List.mem_of_getElem? hx), this⟩
  have mem : ∀ (m : Nat) (b : Mb), (Pgm.ms (tkW T, cs))[m]? = some b → GM (tkS T) b := by
    intro m b hb
    obtain ⟨x, x1, x2⟩ := List.mem_flatMap.mp (List.mem_of_getElem? hb)
    exact (g1 x x1).2.2 b x2
  refine ⟨⟨w1, nmb_inj r, nmb_lt r w5, fun k hk => nmb_kn r w4 hk, q3, by rw [hn]; omega, fun c hc => ?_, fun c c1 hc => ?_, by rw [hml]; exact q4, by rw [hml]; omega, fun m b hb => ?_⟩, fun c hc => ?_, fun c hc => ?_⟩
  · rcases Nat.lt_or_ge c 5 with z | z
    · obtain ⟨b1, b2, b3, b4, b5⟩ := q7 c z
      have e : Pgm.cn (tkW T, cs) c = knW c := if_pos z
      obtain ⟨n1, n2⟩ := nmb_kn r w4 (show c < 8 by omega)
      rw [e, n2, Pgm.mf_5 (by omega), Pgm.mf_5 (by omega)]
      exact ⟨n1, b1, b4, b5⟩
    · obtain ⟨x, hx, gx, cx⟩ := cls c z hc
      have e : Pgm.cn (tkW T, cs) c = tkW T x.1 := by unfold Pgm.cn; rw [if_neg (by omega), hx]
      have em := Pgm.mf_succ (P := (tkW T, cs)) (i := c - 5) hx
      rw [show 5 + (c - 5) = c by omega] at em
      rw [e, em]
      exact ⟨w.word k0 gx.1, cx.1, cx.2.2.2.2.1, cx.2.2.2.2.2.1⟩
  · obtain ⟨x, hx, gx, cx⟩ := cls c c1 hc
    have e : Pgm.pl (tkW T, cs) c = x.2.1 := by unfold Pgm.pl; rw [hx]
    rw [e]
    refine ⟨cx.2.1, ?_⟩
    have := Tks.prog_pl hq x (List.mem_of_getElem? hx)
    rw [this]
    have := (tkP_le T x.1).1
    show tkP T x.1 ≤ 3000
    omega
  · have := msC_get (csC_ms q2) hb
    rw [Nat.zero_add] at this
    exact ⟨w.word k0 (mem m b hb).2.1, this.1, this.2.2.2.1, this.2.1⟩
  · rcases Nat.lt_or_ge c 5 with z | z
    · obtain ⟨b1, b2, b3, b4, b5⟩ := q7 c z
      have e : Pgm.pw (tkW T, cs) c = none := if_pos z
      rw [e]
      exact ⟨fun w hw => (by cases hw), fun _ => b2⟩
    · obtain ⟨x, hx, gx, cx⟩ := cls c z hc
      have e : Pgm.pw (tkW T, cs) c = x.2.2.1 := by unfold Pgm.pw; rw [if_neg (by omega), hx]
      rw [e, cx.2.2.1]
      refine ⟨fun v hv => ?_, fun hv => ?_⟩
      · rw [hv]
        exact ⟨w.word k0 (gx.2.1 v hv), rfl⟩
      · rw [hv]
  · rcases Nat.lt_or_ge c 5 with z | z
    · exact (q7 c z).2.2.1
    · obtain ⟨x, hx, gx, cx⟩ := cls c z hc
      exact cx.2.2.2.1
