/-! ===== THE CLASS' PIECES that come to a word ===== -/
def VaR (A : Nat → Nat) (L : List Nat) (h : pH) (t : Nat) (v : Vl) (r : Option (Int64 × pH)) : Prop := ∃ h', r = some (0, h') ∧ Ch (fun k => k = t) h h' ∧ rd h' 128 6 = Int32.ofNat (t + 1) ∧ Ww A L (rdJ h' (pileR h) t) v
def FlR (h : pH) (n : Nat) (r : Option (Int64 × pH)) : Prop := ∃ h', r = some (wO (n + 1), h') ∧ Ch (fun _ => False) h h'
def WkR (A : Nat → Nat) (L : List Nat) (h : pH) (t : Nat) : Vl ⊕ Nat → Option (Int64 × pH) → Prop
  | .inl v, r => VaR A L h t v r
  | .inr n, r => FlR h n r
theorem WkR.of {A : Nat → Nat} {L : List Nat} {h h1 : pH} {t : Nat} {x : Vl ⊕ Nat} {r : Option (Int64 × pH)} (c : Ch (fun _ => False) h h1) (q : WkR A L h1 t x r) : WkR A L h t x r := by
  match x, q with
  | .inl v, ⟨h', e1, e2, e3, e4⟩ => exact ⟨h', e1, (c.mono (fun _ z => z.elim)).trans e2, e3, by rw [← pileR_of c.1]; exact e4⟩
  | .inr n, ⟨h', e1, e2⟩ => exact ⟨h', e1, c.trans e2⟩
theorem Ch.bse {T : Nat → Prop} {h h' g : pH} {G : Gs} {A : Nat → Nat} {L : List Nat} (q : Ch T h h') (b : Bse g G A L h) : Bse g G A L h' := (q.cg (Q := fun k => k = 6) (Z := fun _ => False) rfl).bse (fun k z => Or.inl z) b
section WK
variable {A : Nat → Nat} {L : List Nat} {h g : pH} {G : Gs} {t N : Nat}
theorem push_v (hs : Sg h) (ht : rd h 128 6 = Int32.ofNat t) (hl : t < pileN h) {w : Int64} {v : Vl} (hw : Ww A L w v) : WkR A L h t (.inl v) ((fX5_push N 128 w h).bind fun h' => some ((0 : Int64), h')) := by
  obtain ⟨h', e1, e2, e3, e4⟩ := e5_push hs ht hl N w
  exact ⟨h', by rw [e1, Option.bind_some], e2, e3, by rw [e4]; exact hw⟩
theorem push_n (hs : Sg h) (ht : rd h 128 6 = Int32.ofNat t) (hl : t < pileN h) (x : Int32) : WkR A L h t (.inl (.inl x)) (fX5_pushNumber N 128 x h) := by
  unfold fX5_pushNumber
  rw [if_pos (o_128 hs)]
  exact push_v hs ht hl (Ww.num x)
theorem push_b (hs : Sg h) (ht : rd h 128 6 = Int32.ofNat t) (hl : t < pileN h) (b : Bool) {x : Int32} (hx : x = if b = true then 1 else 0) : WkR A L h t (.inl (bV b)) (fX5_pushTruth N 128 x h) := by
  unfold fX5_pushTruth
  rw [if_pos (o_128 hs)]
  cases b with
  | true =>
    rw [hx, if_pos rfl, if_neg (by decide)]
    exact push_v hs ht hl (v := .inl 1) ⟨wN_1.symm, okV_inl _ _⟩
  | false =>
    rw [hx, if_pos (by decide)]
    exact push_v hs ht hl (v := .inl 0) ⟨wN_0.symm, okV_inl _ _⟩
theorem flt_v {n : Nat} {x : Int32} (hx : x + 1 = Int32.ofNat (n + 1)) : WkR A L h t (.inr n) (fX3_faultObject N x h) := ⟨h, by unfold fX3_faultObject; rw [hx]; rfl, Ch.refl _ _⟩
theorem id_2 {r : Option (Int64 × pH)} : (r.bind fun q => some (q.1, q.2)) = r := by cases r <;> rfl
/-- the part on top is taken -/
theorem pop_v {n : Nat} {f : Fm} {b M X pre : Nat} (hs : Sg h) (ht : rd h 128 6 = Int32.ofNat t) (k : FrK A L h g n f b t M X pre) (hl : 1 ≤ f.2.2.1.length) : ∃ w h1, fX5_pop N 128 h = some (w, h1) ∧ Ch (fun _ => False) h h1 ∧ rd h1 128 6 = Int32.ofNat (t - 1) ∧ Ww A L w (opV f.2.2.1 0) := by
  have h1 := k.top
  have h2 := k.2.2.2.2.2.2.2.2.1
  obtain ⟨h', e1, e2, e3⟩ := e5_pop (N := N) hs (t := t - 1) (by rw [ht, show t - 1 + 1 = t by omega]) (by omega)
  exact ⟨_, h', e1, e2, e3, k.op (j := 0) (by omega)⟩
theorem pop_v2 {n : Nat} {f : Fm} {b M X pre : Nat} (hs : Sg h) (ht : rd h 128 6 = Int32.ofNat t) (k : FrK A L h g n f b t M X pre) (hl : 2 ≤ f.2.2.1.length) : ∃ w h1 w2 h2, fX5_pop N 128 h = some (w, h1) ∧ fX5_pop N 128 h1 = some (w2, h2) ∧ Ch (fun _ => False) h h1 ∧ Ch (fun _ => False) h h2 ∧ rd h2 128 6 = Int32.ofNat (t - 2) ∧ Ww A L w (opV f.2.2.1 0) ∧ Ww A L w2 (opV f.2.2.1 1) := by
  have h1 := k.top
  have h2 := k.2.2.2.2.2.2.2.2.1
  obtain ⟨w, h', e1, e2, e3, e4⟩ := pop_v (N := N) hs ht k (by omega)
  obtain ⟨h'', f1, f2, f3⟩ := e5_pop (N := N) (e2.sg hs) (t := t - 2) (by rw [e3, show t - 2 + 1 = t - 1 by omega]) (by rw [pileN_of e2.1]; omega)
  refine ⟨w, h', _, h'', e1, f1, e2, e2.trans f2, f3, e4, ?_⟩
  rw [pileR_of e2.1, e2.2.2.2 _ _ (fun z => z.2), show t - 2 = t - 1 - 1 by omega]
  exact k.op (j := 1) (by omega)
end WK
def dsp (N : Nat) (kk aa : Int32) (h : pH) : Option (Int64 × pH) := if (8 : Int32) < kk then (if (16 : Int32) < kk then (fX5_pop N 128 h).bind fun q => fX5_actSign N 128 kk q.1 q.2 else fX5_actPart N 128 kk aa h) else fX5_actValue N 128 kk aa h
theorem dsp_v {N : Nat} {kk aa : Int32} {h : pH} (hk : ¬ (8 : Int32) < kk) : dsp N kk aa h = fX5_actValue N 128 kk aa h := if_neg hk
theorem dsp_p {N : Nat} {kk aa : Int32} {h : pH} (hk : (8 : Int32) < kk) (h2 : ¬ (16 : Int32) < kk) : dsp N kk aa h = fX5_actPart N 128 kk aa h := by unfold dsp; rw [if_pos hk, if_neg h2]
theorem dsp_s {N : Nat} {kk aa : Int32} {h : pH} (hk : (8 : Int32) < kk) (h2 : (16 : Int32) < kk) : dsp N kk aa h = (fX5_pop N 128 h).bind fun q => fX5_actSign N 128 kk q.1 q.2 := by unfold dsp; rw [if_pos hk, if_pos h2]
theorem Ww.n {A : Nat → Nat} {L : List Nat} {w : Int64} {x : Vl} (h : Ww A L w x) (hx : ∃ n, x = .inl n) : w.toInt32 = vI x ∧ w = wN (vI x) := by
  obtain ⟨n, rfl⟩ := hx
  rw [h.1]
  exact ⟨wN_to n, rfl⟩
theorem VT.n01 {P : Pgm} {hp : List Ob} {v : Vl} {t : Nat} (h : VT P hp v t) (ht : t = 0 ∨ t = 1) : ∃ n, v = .inl n := by
  rcases ht with rfl | rfl
  · exact h.int
  · rcases h.bool with z | z
    · exact ⟨0, z⟩
    · exact ⟨1, z⟩
theorem VT.ref {P : Pgm} {hp : List Ob} {v : Vl} {t : Nat} (h : VT P hp v t) (ht : t = 2 ∨ t = 4 ∨ 10 ≤ t) : ∃ m, v = .inr m := by
  rcases ht with rfl | rfl | ht
  · rcases h.row with z | ⟨i, fs, z, _⟩
    · exact ⟨_, z⟩
    · exact ⟨_, z⟩
  · exact ⟨_, h.null⟩
  · rcases h.obj ht with z | ⟨i, c, fs, z, _⟩
    · exact ⟨_, z⟩
    · exact ⟨_, z⟩
theorem HO.cls {P : Pgm} {hp : List Ob} (ho : HO P hp) {i c : Nat} {fs : List Vl} (h : hp[i]? = some (some c, fs)) : c < P.n := (ho.2 i _ h).2.1
theorem sub_und {P : Pgm} {c d : Nat} : P.sub (10 + c) (10 + d) = P.und c d := by
  unfold Pgm.sub
  rw [if_neg (by omega), show 10 + c - 10 = c by omega, show 10 + d - 10 = d by omega]
  by_cases z : c = d
  · subst z
    rw [decide_eq_true (show 10 + c = 10 + c ∧ 10 + c ≠ 5 by omega), Pgm.und_refl]
    rfl
  · rw [decide_eq_false (show ¬ (10 + c = 10 + d ∧ 10 + c ≠ 5) by omega), decide_eq_true (show 10 ≤ 10 + c ∧ 10 ≤ 10 + d by omega)]
    cases P.und c d <;> rfl
theorem lc_if {α : Type} (a b : Int64) (x y : α) : (if lg_cmp a b = 0 then x else y) = if a = b then x else y := by
  by_cases h : a = b
  · rw [if_pos h, if_pos ((lc0 a b).mpr h)]
  · rw [if_neg h, if_neg (fun z => h ((lc0 a b).mp z))]
def isV (P : Pgm) (hp : List Ob) (d : Nat) : Vl → Int32
  | .inr (some i) => if P.isA hp i (some d) = true then 1 else 0
  | _ => 0
/-- is the object of the class? -/
theorem e5_isof {P : Pgm} {D : List Int32 → Prop} {num : List Int32 → Nat} {A : Nat → Nat} {L : List Nat} {g h : pH} {G : Gs} {N d : Nat} {x : Vl} {w : Int64} (hN : 1100 ≤ N) (hct : CT P D num g) (hcp : CPr P g) (ho : HO P G.1) (hb : Bse g G A L h) (hd : d < P.n) (hw : Ww A L w x) (hx : x = .inr none ∨ ∃ i c fs, x = .inr (some i) ∧ G.1[i]? = some (some c, fs)) : fX5_isOfClass N 128 w (Int32.ofNat d) h = some (isV P G.1 d x, h) := by
  have sg := hb.1.1
  unfold fX5_isOfClass
  rw [if_pos (o_128 sg), lc_if, hw.1]
  rcases hx with rfl | ⟨i, c, fs, rfl, hi⟩
  · exact if_pos rfl
  · have hc := ho.cls hi
    have hio := hw.2 i rfl
    show (if wO (A i) = 0 then _ else _) = _
    rw [if_neg (wO_ne _), R_128_0 sg, Option.bind_some, R_128_4 sg, Option.bind_some]
    show ((fX3_classOf N 129 (wO (A i)) h).bind _) = _
    rw [e3_cls ho hb hio hi, Option.bind_some]
    dsimp only
    rw [clW_to]
    have e := CT.isSub (N := N) (t := 10 + c) (u := 10 + d) (hct.st hb.1) (hcp.st hb.1) hN (Or.inr ⟨by omega, by omega⟩) (Or.inr ⟨by omega, by omega⟩) (by omega) (by omega)
    rw [ctI_cls (by omega), ctI_cls (by omega), show 10 + c - 10 = c by omega, show 10 + d - 10 = d by omega, sub_und] at e
    rw [e, Option.bind_some]
    dsimp only
    have ei : P.isA G.1 i (some d) = P.und c d := by
      unfold Pgm.isA obC
      rw [hi]
    show _ = some (if P.isA G.1 i (some d) = true then (1 : Int32) else 0, h)
    rw [ei]
    cases P.und c d <;> rfl
