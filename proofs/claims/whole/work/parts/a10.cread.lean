/-! ===== THE CLASS' READER: the members of a class, classes, the whole ===== -/
def msC (C : Cx) (h : pH) : List Mb → Nat → Nat → Nat → Prop
  | [], _, _, _ => True
  | b :: bs, m, p, c => mcR C h b m p c ∧ msC C h bs (m + 1) (p + mbP b) (c + mcC b)
/-- how much code members have -/
def msK : List Mb → Nat
  | [] => 0
  | b :: bs => mcC b + msK bs
theorem msC.chg {C : Cx} {h h' : pH} : ∀ {bs : List Mb} {m p c : Nat}, msC C h bs m p c → (∀ a k, 26 ≤ a → a ≤ 35 → m ≤ k → k < m + bs.length → rd h' a k = rd h a k) → (∀ a k, (a = 36 ∨ a = 37) → k < p + msP bs → rd h' a k = rd h a k) → (∀ a k, 39 ≤ a → a ≤ 45 → c ≤ k → k < c + msK bs → rd h' a k = rd h a k) → msC C h' bs m p c
  | [], _, _, _, _, _, _, _ => trivial
  | b :: bs, m, p, c, ⟨q1, q2⟩, g1, g2, g3 => by
    have hl : (b :: bs).length = bs.length + 1 := rfl
    have hp : msP (b :: bs) = mbP b + msP bs := rfl
    have hk : msK (b :: bs) = mcC b + msK bs := rfl
    rw [hl] at g1
    rw [hp] at g2
    rw [hk] at g3
    exact ⟨q1.chg (fun a x1 x2 => g1 a m x1 x2 (by omega) (by omega)) (fun a k ha hk => g2 a k ha (by omega)) (fun a k x1 x2 x3 x4 => g3 a k x1 x2 x3 (by omega)), q2.chg (fun a k x1 x2 x3 x4 => g1 a k x1 x2 (by omega) (by omega)) (fun a k ha hk => g2 a k ha (by omega)) (fun a k x1 x2 x3 x4 => g3 a k x1 x2 (by omega) (by omega))⟩
theorem mems_186 {C : Cx} {N w : Nat} {h0 h : pH} (q : Er8 C w h) (g : Chg eM h0 h) : ∃ h', fX7_readMembers_186 N 46 h = some h' ∧ Er8 C w h' ∧ Chg eM h0 h' := by
  obtain ⟨h4, e4, q4, c4⟩ := q.1.close (N := N) (k := 125) (by decide)
  refine ⟨h4, ?_, q.mv q4 c4 m7_25 m7_17, g.trans (c4.mono (fun a k z => m7_eM z))⟩
  unfold fX7_readMembers_186
  rw [e4, Option.bind_some]
theorem mems_8 {C : Cx} {N n w : Nat} {v : Int32} {h0 h : pH} (q : Er8 C w h) (g : Chg eM h0 h) : ∃ h', fX7_readMembers_8 N (n + 1) 46 v h = some h' ∧ Er8 C w h' ∧ Chg eM h0 h' := by
  obtain ⟨h', e, z⟩ := mems_186 (N := N) q g
  refine ⟨h', ?_, z⟩
  rw [fX7_readMembers_8]
  split
  · exact e
  · rw [g_46_11 q.1.sg, Option.bind_some, if_neg q.1.ne]
    exact e
theorem not_iff0 {p : Prop} : (p ∧ ¬ p) = False := propext ⟨fun z => z.2 z.1, False.elim⟩
/-- a turn of the loop -/
theorem mems_turn {N n g : Nat} {h h' : pH} (hs : Sg h) (hg : g < 3100) (e11 : rd h 46 11 = -1) (h125 : rd h 46 9 ≠ 125) (hsg : ∀ v x, (fX7_takeType N 46 h = some (v, x) ∨ fX7_advance N 46 h = some x) → Sg x) (hsg2 : ∀ x v y, Sg x → fX7_takeName N 46 x = some (v, y) → Sg y) (e : mb1 N h = some h') : fX7_readMembers_8 N (n + 1) 46 (Int32.ofNat g) h = fX7_readMembers_8 N n 46 (Int32.ofNat (g + 1)) h' := by
  rw [fX7_readMembers_8, show (3100 : Int32) = Int32.ofNat 3100 from rfl, ifLe (by decide) (by omega), if_neg (by omega), g_46_11 hs, Option.bind_some, if_pos e11, g_46_9 hs, Option.bind_some, if_neg h125, Option.bind_some]
  unfold mb1 at e
  rw [g_46_9 hs, Option.bind_some] at e
  obtain ⟨q27, e1, e⟩ := Option.bind_eq_some_iff.mp e
  obtain ⟨t18, e18, e⟩ := Option.bind_eq_some_iff.mp e
  obtain ⟨t19, e19, e⟩ := Option.bind_eq_some_iff.mp e
  obtain ⟨t20, e20, e⟩ := Option.bind_eq_some_iff.mp e
  obtain ⟨t21, e21, e⟩ := Option.bind_eq_some_iff.mp e
  obtain ⟨q22, e22, e⟩ := Option.bind_eq_some_iff.mp e
  obtain ⟨t24, e24, e⟩ := Option.bind_eq_some_iff.mp e
  have s27 : Sg q27.2 := by
    by_cases h5 : rd h 46 9 = 5
    · rw [if_pos h5] at e1
      obtain ⟨x, e2, e3⟩ := Option.bind_eq_some_iff.mp e1
      obtain rfl := Option.some.inj e3
      exact hsg 0 x (Or.inr e2)
    · rw [if_neg h5] at e1
      exact hsg q27.1 q27.2 (Or.inl e1)
  have s22 := hsg2 q27.2 q22.1 q22.2 s27 e22
  have tail : ∀ s0 : Int32, ((s0 = 0) = (rd h 46 9 ≠ 5)) → fX7_readMembers_65 N (fX7_readMembers_8 N n) 46 (Int32.ofNat g) s0 q27.1 q27.2 = fX7_readMembers_8 N n 46 (Int32.ofNat (g + 1)) h' := by
    intro s0 hs0
    unfold fX7_readMembers_65
    rw [e18, Option.bind_some, e19, Option.bind_some, e20, Option.bind_some, e21, Option.bind_some, e22, Option.bind_some]
    by_cases h5 : rd h 46 9 = 5
    · have hs1 : ¬ s0 = 0 := by rw [hs0]; exact fun z => z h5
      rw [if_neg (fun z => z.1 h5)] at e
      rw [if_neg hs1, mem_102 s22, e, Option.bind_some, i_add1]
    · have hs1 : s0 = 0 := by rw [hs0]; exact h5
      rw [if_pos hs1, e24, Option.bind_some]
      by_cases h59 : t24 = 59
      · rw [if_pos ⟨h5, h59⟩] at e
        rw [if_pos h59, mem_103 s22, e, Option.bind_some, i_add1]
      · rw [if_neg (fun z => h59 z.2)] at e
        rw [if_neg h59, mem_102 s22, e, Option.bind_some, i_add1]
  by_cases h5 : rd h 46 9 = 5
  · rw [if_pos h5] at e1 ⊢
    obtain ⟨x, e2, e3⟩ := Option.bind_eq_some_iff.mp e1
    have e3 := Option.some.inj e3
    unfold fX7_readMembers_45
    rw [if_neg (by decide), e2, Option.bind_some]
    have t1 := tail 1 (propext ⟨fun z => absurd z (by decide), fun z => absurd h5 z⟩)
    rw [← e3] at t1
    exact t1
  · rw [if_neg h5] at e1 ⊢
    unfold fX7_readMembers_45
    rw [if_pos rfl, e1, Option.bind_some]
    exact tail 0 (propext ⟨fun _ => h5, fun _ => rfl⟩)
