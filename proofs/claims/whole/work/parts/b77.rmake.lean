/-! ===== THE REFERENCE'S STEPS: new objects ===== -/
theorem LyR.app {hp : List Ob} {ob : Ob} {B O : Nat → Nat} {x y : Nat} : ∀ {L : List Nat} {n a : Nat}, LyR hp B O L n a → 5 ≤ hp.length → x = n + L.length → y = a + totL hp L → LyR (hp ++ [ob]) (fun j => if j = hp.length then x else B j) (fun j => if j = hp.length then y else O j) (L ++ [hp.length]) n a
  | [], n, a, _, h5, hx, hy => by
    refine ⟨?_, ?_, fun z => (by cases z), h5, by rw [List.length_append]; exact Nat.lt_succ_self _, trivial⟩
    · exact (if_pos rfl).trans hx
    · exact (if_pos rfl).trans hy
  | i :: L, n, a, q, h5, hx, hy => by
    obtain ⟨q1, q2, q3, q4, q5, q6⟩ := q
    have hne : i ≠ hp.length := by omega
    have e : obL (hp ++ [ob]) i = obL hp i := obL_app q5
    have hy : y = a + (obL hp i + totL hp L) := hy
    refine ⟨(if_neg hne).trans q1, (if_neg hne).trans q2, fun z => ?_, q4, by rw [List.length_append]; omega, ?_⟩
    · rcases List.mem_append.mp z with z | z
      · exact q3 z
      · exact hne (List.mem_singleton.mp z)
    · rw [e]
      exact LyR.app q6 h5 (by rw [List.length_cons] at hx; omega) (by omega)
theorem totL_hp {hp : List Ob} {ob : Ob} : ∀ {L : List Nat}, (∀ i, i ∈ L → i < hp.length) → totL (hp ++ [ob]) L = totL hp L
  | [], _ => rfl
  | i :: L, h => by
    show obL (hp ++ [ob]) i + totL (hp ++ [ob]) L = obL hp i + totL hp L
    rw [obL_app (h i (List.mem_cons_self ..)), totL_hp (fun j hj => h j (List.mem_cons_of_mem _ hj))]
theorem totL_app (hp : List Ob) : ∀ (L M : List Nat), totL hp (L ++ M) = totL hp L + totL hp M
  | [], M => (Nat.zero_add _).symm
  | i :: L, M => by
    show obL hp i + totL hp (L ++ M) = obL hp i + totL hp L + totL hp M
    rw [totL_app hp L M]
    omega
section MKO
variable {P : Pgm} {S : Tks} {D : List Int32 → Prop} {num : List Int32 → Nat} {N : Nat} {g h : pH} {G : Gs} {i : Nat × Nat × Nat} {lo : List Vl} {ops : List (Bool × Vl)} {E : EnvV} {xs : List Xi} {ks : List Si} {fs : List Fm} {t1 t2 t3 : List It} {B O : Nat → Nat} {L : List Nat} {lb pb : Nat} {tr' : List (Nat × Nat)}
def rmA2 (a k : Nat) : Prop := swA a k ∨ (a = 138 ∧ k = 74)
theorem ROp.made {oc : Option Nat} {n : Nat} (hN : 400000 ≤ N) (hst : Stw P S D num g) (q : ROp P S num g h G i lo ops E xs ks fs t1 t2 t3 B O L lb pb tr') (ho : HO P G.1) (hr : tot G.1 L + (2 + n) ≤ G.2.2.2.2) (hoc : ∀ c, oc = some c → c < P.n ∧ n = P.nf c) : ∃ h2, fX12_object N 138 (clV oc) (Int32.ofNat n) h = some (Int32.ofNat (5 + L.length), h2) ∧ ROp P S num g h2 (G.1 ++ [(oc, obW P oc n)], G.2.1, G.2.2.1, (G.2.2.2.1.1, G.2.2.2.1.2.1 + (2 + n), G.2.2.2.1.2.2), G.2.2.2.2) i lo ops E xs ks fs t1 t2 t3 (fun j => if j = G.1.length then 5 + L.length else B j) (fun j => if j = G.1.length then totL G.1 L else O j) (L ++ [G.1.length]) lb pb tr' ∧ Chg rmA2 h h2 := by
  obtain ⟨⟨q1, q2, q3⟩, q4, q5, q6, q7, q8, q9, q10, q11, q12, q13⟩ := q
  obtain ⟨st, cn, h69, hp⟩ := q3
  have hLl := L_len hp
  obtain ⟨p1, p2, p3, p4, p5, p6, p7, p8, p9⟩ := hp
  have hts := totL_tot G.1 L
  have cn2 := cn.2.1
  have h5l : 5 ≤ G.1.length := by
    have := (List.getElem?_eq_some_iff.mp (ho.1 4 (by omega))).1
    omega
  obtain ⟨h2, a1, a2, a3, a4, a5, a6, a7, a8, a9, a10, a11, a12⟩ := r_object (N := N) (oc := oc) (k := 5 + L.length) (n := n) (T := totL G.1 L) (by omega) hst st (by omega) p3 p4 (by omega) p5 cn2 hoc
  have hno : G.1.length ∉ L := fun z => by have := (p2.bd _ z).2.2.2.2.2; omega
  have hmono : ∀ i, i ∈ L ∨ i < 5 → (i ∈ L ++ [G.1.length] ∨ i < 5) ∧ (fun j => if j = G.1.length then 5 + L.length else B j) i = B i := fun i hi => by
    refine ⟨hi.imp (fun z => List.mem_append_left _ z) id, if_neg ?_⟩
    rcases hi with z | z
    · exact fun y => hno (y ▸ z)
    · omega
  have hcm : ∀ a j, onA (5 + L.length) (totL G.1 L) n a j → rmA2 a j := fun a j z => by
    unfold onA at z
    unfold rmA2 swA
    omega
  have nn : ∀ a j, ¬ onA (5 + L.length) (totL G.1 L) n a j → rd h2 a j = rd h a j := fun a j z => a3.2.2.1 _ _ z
  have hobr : ∀ i, i ∈ L ∨ i < 5 → ObR G.1 B O L h i → ObR (G.1 ++ [(oc, obW P oc n)]) (fun j => if j = G.1.length then 5 + L.length else B j) (fun j => if j = G.1.length then totL G.1 L else O j) (L ++ [G.1.length]) h2 i := fun i hi qo ob hob => by
    have hil : i < G.1.length := by
      rcases hi with z | z
      · exact (p2.bd _ z).2.2.2.2.2
      · omega
    rw [List.getElem?_append_left hil] at hob
    obtain ⟨o1, o2, o3, o4⟩ := qo ob hob
    have hobl : obL G.1 i = ob.2.length := by unfold obL; rw [hob]
    have hb : B i < 5 + L.length ∧ (ob.2.length = 0 ∨ O i + ob.2.length ≤ totL G.1 L) := by
      rcases Nat.lt_or_ge i 5 with z | z
      · rw [(p1 i z).1]
        have := ho.1 i z
        rw [hob] at this
        have := Option.some.inj this
        exact ⟨by omega, Or.inl (by rw [this]; rfl)⟩
      · have := p2.bd i (hi.resolve_right (by omega))
        exact ⟨by omega, Or.inr (by omega)⟩
    have hne : i ≠ G.1.length := by omega
    dsimp only
    rw [if_neg hne, if_neg hne, nn _ _ (by unfold onA; omega), nn _ _ (by unfold onA; omega), nn _ _ (by unfold onA; omega)]
    refine ⟨o1, o2, o3, fun j v hj => ?_⟩
    have hjl := (List.getElem?_eq_some_iff.mp hj).1
    rw [nn _ _ (by unfold onA; omega), nn _ _ (by unfold onA; omega)]
    exact (o4 j v hj).mono hmono
  refine ⟨h2, a1, ⟨⟨(nn _ _ (by unfold onA; omega)).trans q1, (nn _ _ (by unfold onA; omega)).trans q2, a2, ?_, (nn _ _ (by unfold onA; omega)).trans h69, ?_⟩, (q4.chg a3 (fun a _ _ => by unfold onA; omega) (fun a k _ _ _ => by unfold onA; omega) (fun a k _ _ _ => by unfold onA; omega)).mono hmono, (q5.chg a3 (fun a n _ _ _ => by unfold onA; omega) (fun a k _ _ => by unfold onA; omega) (fun a k _ _ => by unfold onA; omega)).mono hmono, (nn _ _ (by unfold onA; omega)).trans q6, (nn _ _ (by unfold onA; omega)).trans q7, q8.chg a3 (by unfold onA; omega) (fun a k z _ => by unfold onA; omega), q9.chg a3 (by unfold onA; omega) (fun a k z _ => by unfold onA; omega), q10, q11, q12, q13⟩, a3.mono hcm⟩
  · obtain ⟨b1, b2, b3, b4, b5, b6, b7, b8⟩ := cn
    exact ⟨(nn _ _ (by unfold onA; omega)).trans b1, a10, (nn _ _ (by unfold onA; omega)).trans b3, (nn _ _ (by unfold onA; omega)).trans b4, fun j x j1 j2 => (nn _ _ (by unfold onA; omega)).trans (b5 j x j1 j2), (nn _ _ (by unfold onA; omega)).trans b6, b7, fun j x j2 => (nn _ _ (by unfold onA; omega)).trans (b8 j x j2)⟩
  · have hmem : ∀ i, i ∈ L → i < G.1.length := fun i hi => (p2.bd i hi).2.2.2.2.2
    have e1 : obL (G.1 ++ [(oc, obW P oc n)]) G.1.length = n := by
      unfold obL
      rw [app_get]
      exact a11
    refine ⟨fun i hi => ⟨?_, ?_, hobr i (Or.inr hi) (p1 i hi).2.2⟩, p2.app h5l rfl (Nat.zero_add _).symm, ?_, ?_, ?_, ?_, p7, (nn _ _ (by unfold onA; omega)).trans p8, fun i hi => ?_⟩
    · dsimp only
      rw [if_neg (by omega)]; exact (p1 i hi).1
    · dsimp only
      rw [if_neg (by omega)]; exact (p1 i hi).2.1
    · rw [a7, List.length_append]
      rfl
    · rw [a8, totL_app, totL_hp hmem]
      show _ = Int32.ofNat (totL G.1 L + (obL (G.1 ++ [(oc, obW P oc n)]) G.1.length + 0))
      rw [e1, Nat.add_zero]
    · rw [a9, tot_app, tot_hp hmem]
      show _ = Int32.ofNat (tot G.1 L + (2 + obL (G.1 ++ [(oc, obW P oc n)]) G.1.length + 0))
      rw [e1, Nat.add_zero]
    · rw [tot_app, tot_hp hmem]
      show tot G.1 L + (2 + obL (G.1 ++ [(oc, obW P oc n)]) G.1.length + 0) ≤ _
      rw [e1, Nat.add_zero]
      exact hr
    · rcases List.mem_append.mp hi with hi | hi
      · exact hobr i (Or.inl hi) (p9 i hi)
      · obtain rfl := List.mem_singleton.mp hi
        intro ob hob
        rw [app_get] at hob
        obtain rfl := Option.some.inj hob
        dsimp only
        rw [if_pos rfl, if_pos rfl]
        exact ⟨a4, a5, by rw [a6, a11], fun j v hj => a12 _ _ j v hj⟩
/-- is there room? -/
theorem ROp.room {n : Nat} (hN : 400000 ≤ N) (q : ROp P S num g h G i lo ops E xs ks fs t1 t2 t3 B O L lb pb tr') (ho : HO P G.1) (hn : n ≤ 90000) (hfs : fs.length + 1 ≤ 100) : ∃ h1 B' O' L', fX12_hasRoom N 138 (Int32.ofNat (2 + n)) h = some (if rcl G.1 ((i, lo, ops, E, xs, ks) :: fs) + (2 + n) ≤ G.2.2.2.2 then 1 else 0, h1) ∧ ROp P S num g h1 G i lo ops E xs ks fs t1 t2 t3 B' O' L' lb pb tr' ∧ (rcl G.1 ((i, lo, ops, E, xs, ks) :: fs) + (2 + n) ≤ G.2.2.2.2 → tot G.1 L' + (2 + n) ≤ G.2.2.2.2) ∧ Chg swA h h1 := by
  obtain ⟨⟨q1, q2, q3⟩, q4, q5, q6, q7, q8, q9, q10, q11, q12, q13⟩ := q
  obtain ⟨st, cn, h69, hp⟩ := q3
  have hLw : LwR B L h ((i, lo, ops, E, xs, ks) :: fs) (lb + lo.length) (pb + (um ops).length) (tyE pb ks ++ tr') := ⟨lb, pb, tr', q4, rfl, rfl, rfl, q5⟩
  obtain ⟨h1, B', O', L', a1, a2, a3, a4, a5, a6⟩ := r_room (N := N) (need := 2 + n) hN ho st.1 hp hLw q6 q7 (by rw [List.length_cons]; omega) (by omega)
  have nn : ∀ a j, ¬ swA a j → rd h1 a j = rd h a j := fun a j z => a6.2.2.1 _ _ z
  obtain ⟨lb', pb', tr'', F, e1, e2, e3, hL'⟩ := a4
  obtain rfl : lb = lb' := by
    have e1 : lb + lo.length = lb' + lo.length := e1
    omega
  obtain rfl : pb = pb' := by
    have e2 : pb + (um ops).length = pb' + (um ops).length := e2
    omega
  obtain rfl : tr' = tr'' := List.append_cancel_left e3
  refine ⟨h1, B', O', L', a1, ⟨⟨(nn _ _ (by unfold swA; omega)).trans q1, (nn _ _ (by unfold swA; omega)).trans q2, st.chg a6 (fun a k z => by unfold swA; omega), cn.chg a6 (fun a k z => by unfold swA; omega), (nn _ _ (by unfold swA; omega)).trans h69, a3⟩, F, hL', (nn _ _ (by unfold swA; omega)).trans q6, (nn _ _ (by unfold swA; omega)).trans q7, q8.chg a6 (by unfold swA; omega) (fun a k z _ => by unfold swA; omega), q9.chg a6 (by unfold swA; omega) (fun a k z _ => by unfold swA; omega), q10, q11, q12, q13⟩, a5, a6⟩
def mdB (a k : Nat) : Prop := fmA a k ∨ rmA2 a k
theorem leaf_13 {j v w u : Nat} (hN : 400000 ≤ N) (hst : Stw P S D num g) (q : ROp P S num g h G i lo ops E xs ks fs t1 t2 t3 B O L lb pb tr') (ho : HO P G.1) (ht : P.opT i.1 E 13 w [] = some [u]) (hj : j < 3200) (e144 : rd g 144 j = (P.rnK num i.1 E 13 v w nl []).1) (e147 : rd g 147 j = (P.rnK num i.1 E 13 v w nl []).2) (hl : ops.length + 1 ≤ 1999) (hfs : fs.length + 1 ≤ 100) : ∃ h2, fX12_leaf N 138 (Int32.ofNat j) h = some h2 ∧ RRs P S num g h2 (P.actX G i lo ops E 13 v w [] xs ks fs) ∧ Chg mdB h h2 := by
  have st := q.st
  have sg := st.1
  have ha := hst.1.1.1
  have e144 : rd g 144 j = 5 := e144
  have ht : P.clsT (P.1 w) = some [u] := ht
  obtain ⟨c, hc, -⟩ := clsT_some ht
  have e147 : rd g 147 j = Int32.ofNat c := by
    have e : rd g 147 j = oI (-1) (P.fnd (P.1 w)) := e147
    rw [hc] at e
    exact e
  have hcn : c < P.n := (Pgm.fnd_lt hc).1
  have hPn := hst.1.2.1.2.2.2.2.2.1
  have h166 := (hst.2.1.1.2.2.2.2 c hcn).1
  have hnf : P.nf c ≤ 1000 := by
    have := nf_ms ha hcn
    have := hst.1.2.1.2.2.2.2.2.2.2.2.2.2.1
    have := P.ms_len
    omega
  have hlen : ((P.fts c).map dfl).length = P.nf c := by rw [List.length_map, Pgm.fts_len ha _ _ rfl hcn]
  have hact : P.actX G i lo ops E 13 v w [] xs ks fs = mkO G i lo ops E xs ks fs (P.fnd (P.1 w), (P.fts ((P.fnd (P.1 w)).getD 0)).map dfl) := rfl
  rw [hact, hc]
  show ∃ h2, _ ∧ RRs P S num g h2 (mkO G i lo ops E xs ks fs (some c, (P.fts c).map dfl)) ∧ Chg mdB h h2
  unfold mkO
  rw [hlen]
  obtain ⟨h1, B1, O1, L1, a1, a2, a3, a4⟩ := q.room (N := N) (n := P.nf c) hN ho (by omega) hfs
  have st1 := a2.st
  have e246 : fX12_leaf N 138 (Int32.ofNat j) h = (fX12_hasRoom N 138 (Int32.ofNat (2 + P.nf c)) h).bind fun q5 =>
  if q5.1 = 0 then (
  (fX12_ends N 138 (3 : Int32) q5.2).bind fun h7 =>
  some h7) else (
  (getR q5.2 138 12 19).bind fun t8 =>
  (ldI q5.2 t8 (Int32.ofNat j)).bind fun t9 =>
  (fX12_object N 138 t9 (Int32.ofNat (P.nf c)) q5.2).bind fun q10 =>
  (fX12_push N 138 q10.1 (1 : Int32) q10.2).bind fun h11 =>
  some h11) := by
    unfold fX12_leaf
    rw [if_pos (o_138 sg), g_138_93 sg, Option.bind_some, R_138_16 sg, Option.bind_some, L_144 sg hj, Option.bind_some, st.2.1 144 j (by omega) (by omega), e144, if_neg (by decide), if_neg (by decide), if_neg (by decide), if_neg (by decide), if_neg (by decide), if_pos rfl]
    unfold fX12_leaf_246
    rw [R_138_42 sg, Option.bind_some, R_138_19 sg, Option.bind_some, L_147 sg hj, Option.bind_some, st.2.1 147 j (by omega) (by omega), e147, L_166 sg (by omega), Option.bind_some, st.2.1 166 c (by omega) (by omega), h166, show (2 : Int32) = Int32.ofNat 2 from rfl, ← Int32.ofNat_add]
  rw [e246, a1, Option.bind_some]
  dsimp only
  by_cases hr : rcl G.1 ((i, lo, ops, E, xs, ks) :: fs) + (2 + P.nf c) ≤ G.2.2.2.2
  · rw [if_pos hr, if_neg (by decide), if_pos hr]
    obtain ⟨h2, b1, b2, b3⟩ := a2.made (N := N) (oc := some c) (n := P.nf c) hN hst ho (a3 hr) (fun c' z => by injection z with z; subst z; exact ⟨hcn, rfl⟩)
    have b1 : fX12_object N 138 (Int32.ofNat c) (Int32.ofNat (P.nf c)) h1 = some (Int32.ofNat (5 + L1.length), h2) := b1
    obtain ⟨h3, d1, d2, d3⟩ := b2.one (N := N) (x := Int32.ofNat (5 + L1.length)) (f := 1) (v := .inr (some G.1.length)) ⟨by dsimp only; rw [if_pos rfl], rfl, Or.inl (List.mem_append_right _ (List.mem_singleton.mpr rfl))⟩ hl hfs
    refine ⟨h3, ?_, d2, ((a4.mono (fun a k z => Or.inr (Or.inl z))).trans (b3.mono (fun a k z => Or.inr z))).trans (d3.mono (fun a k z => Or.inl z))⟩
    rw [R_138_19 st1.1, Option.bind_some, L_147 st1.1 hj, Option.bind_some, st1.2.1 147 j (by omega) (by omega), e147, b1, Option.bind_some]
    dsimp only
    rw [d1, Option.bind_some]
  · rw [if_neg hr, if_pos rfl, if_neg hr]
    obtain ⟨h2, r1, r2, r3⟩ := r_end (P := P) (S := S) (num := num) (N := N) (k := 3) st1 a2.1.2.2.2.1 a2.1.2.2.2.2.1 a2.1.2.1 (by omega) (by omega)
    have r1 : fX12_ends N 138 3 h1 = some h2 := r1
    rw [r1, Option.bind_some]
    exact ⟨h2, rfl, r2, (a4.mono (fun a k z => Or.inr (Or.inl z))).trans (r3.mono (fun a k z => Or.inl z))⟩
theorem rcl_int {hp : List Ob} {n : Int32} : rcl hp ((i, lo, (false, .inl n) :: ops, E, xs, ks) :: fs) = rcl hp ((i, lo, ops, E, xs, ks) :: fs) := by
  have hroot : ∀ f j, (f ∈ ((i, lo, (false, .inl n) :: ops, E, xs, ks) :: fs : List Fm) ∧ rootF f j) → ∃ f', f' ∈ ((i, lo, ops, E, xs, ks) :: fs : List Fm) ∧ rootF f' j := fun f j z => by
    obtain ⟨z1, z2⟩ := z
    rcases List.mem_cons.mp z1 with rfl | z1
    · refine ⟨_, List.mem_cons_self .., ?_⟩
      rcases z2 with z2 | z2 | ⟨b, z2⟩
      · exact Or.inl z2
      · exact Or.inr (Or.inl z2)
      · rcases List.mem_cons.mp z2 with y | y
        · injection y with y1 y2
          cases y2
        · exact Or.inr (Or.inr ⟨b, y⟩)
    · exact ⟨f, List.mem_cons_of_mem _ z1, z2⟩
  have hroot' : ∀ f j, (f ∈ ((i, lo, ops, E, xs, ks) :: fs : List Fm) ∧ rootF f j) → ∃ f', f' ∈ ((i, lo, (false, .inl n) :: ops, E, xs, ks) :: fs : List Fm) ∧ rootF f' j := fun f j z => by
    obtain ⟨z1, z2⟩ := z
    rcases List.mem_cons.mp z1 with rfl | z1
    · refine ⟨_, List.mem_cons_self .., ?_⟩
      rcases z2 with z2 | z2 | ⟨b, z2⟩
      · exact Or.inl z2
      · exact Or.inr (Or.inl z2)
      · exact Or.inr (Or.inr ⟨b, List.mem_cons_of_mem _ z2⟩)
    · exact ⟨f, List.mem_cons_of_mem _ z1, z2⟩
  unfold rcl
  refine cellN_congr (fun k _ _ => ⟨fun z T h1 h2 => z T (fun f hf j hj => ?_) h2, fun z T h1 h2 => z T (fun f hf j hj => ?_) h2⟩)
  · obtain ⟨f', y1, y2⟩ := hroot f j ⟨hf, hj⟩
    exact h1 f' y1 j y2
  · obtain ⟨f', y1, y2⟩ := hroot' f j ⟨hf, hj⟩
    exact h1 f' y1 j y2
def mtB (a k : Nat) : Prop := mdB a k ∨ thA a k
theorem work_14 {v w j u t : Nat} {s : Bool} {a : Tr} {a0 : List (Bool × Nat)} {pre : List (Bool × Nat)} (hN : 400000 ≤ N) (hst : Stw P S D num g) (q : ROp P S num g h G i lo ops E xs ks fs t1 t2 t3 B O L lb pb tr') (ho : HO P G.1) (hfk : FK P S G.1 (i, lo, ops, E, xs, ks)) (hfs' : FsT P S G.1 fs pre) (hops : OT P G.1 ops (popT 14 s [t] ++ a0)) (ht : P.opT i.1 E 14 w [t] = some [u]) (hj : j < 3200) (e144 : rd g 144 j = (P.rnK num i.1 E 14 v w a [t]).1) (hfs : fs.length + 1 ≤ 100) : ∃ h2, fX12_work N 138 (Int32.ofNat j) h = some h2 ∧ RRs P S num g h2 (P.actX G i lo ops E 14 v w [t] xs ks fs) ∧ Chg mtB h h2 := by
  have e12 : rd g 144 j = 12 := e144
  have ht : eqT [t] [0] 2 = some [u] := ht
  obtain ⟨-, e2⟩ := eqT_one ht
  injection e2 with e3 e4
  subst e3
  rw [popT_1 (by omega)] at hops
  match ops, hops, q, hfk with
  | (z1, y) :: ops', hops, q, hfk =>
    obtain ⟨hz1, hy, -⟩ := hops
    obtain rfl : z1 = false := hz1
    have hy : VT P G.1 y 0 := hy
    obtain ⟨n, rfl⟩ := hy.int
    have st := q.st
    have sg := st.1
    obtain ⟨h100, ty, hb, hol⟩ := q.tp hfs
    have hact : P.actX G i lo ((false, .inl n) :: ops') E 14 v w [0] xs ks fs = if n < 0 then P.thr G 4 ((i, lo, (false, .inl n) :: ops', E, xs, ks) :: fs) else mkO G i lo ops' E xs ks fs (none, List.replicate n.toNatClampNeg (.inl 0)) := rfl
    rw [hact]
    have h72 := q.1.2.2.2.2.2.2.2.2.2.2.2.2.1
    have hH := q.1.2.2.2.2.2.2.2.2.2.2.2.1
    have hpre : fX12_work N 138 (Int32.ofNat j) h = if 0 ≤ n then (if Int32.ofNat G.2.2.2.2 < n then fX12_work_371 N 138 h else (
  (fX12_hasRoom N 138 ((2 : Int32) + n) h).bind fun q98 =>
  if q98.1 = 0 then (
  fX12_work_371 N 138 q98.2) else (
  (getI q98.2 138 12 100).bind fun t100 =>
  (putI q98.2 138 12 100 (t100 - (1 : Int32))).bind fun h101 =>
  (fX12_object N 138 (-1 : Int32) n h101).bind fun q102 =>
  (fX12_push N 138 q102.1 (1 : Int32) q102.2).bind fun h103 =>
  some h103))) else (
  (fX12_faults N 138 (4 : Int32) h).bind fun h104 =>
  some h104) := by
      unfold fX12_work
      rw [if_pos (o_138 sg), g_138_100 sg, Option.bind_some, h100, i_sub1, R_138_16 sg, Option.bind_some, L_144 sg hj, Option.bind_some, st.2.1 144 j (by omega) (by omega), e12, if_neg (by decide), if_neg (by decide), if_neg (by decide), if_neg (by decide), if_neg (by decide), if_neg (by decide), if_pos rfl, R_138_101 sg, Option.bind_some, L_199 sg (by omega), Option.bind_some, ty.1, g_138_72 sg, Option.bind_some, h72]
    rw [hpre]
    have e371 : ∀ h', StV g h' → CnR G h' → rd h' 138 69 = 1 → rd h' 138 77 = 0 → ∃ h2, fX12_work_371 N 138 h' = some h2 ∧ RRs P S num g h2 (G, .inr (3, 0)) ∧ Chg fmA h' h2 := fun h' st' c' x1 x2 => by
      obtain ⟨h2, r1, r2, r3⟩ := r_end (P := P) (S := S) (num := num) (N := N) (k := 3) st' c' x1 x2 (by omega) (by omega)
      have r1 : fX12_ends N 138 3 h' = some h2 := r1
      refine ⟨h2, ?_, r2, r3⟩
      unfold fX12_work_371
      rw [r1, Option.bind_some]
    by_cases hn : n < 0
    · rw [if_neg (Int32.not_le.mpr hn), if_pos hn]
      obtain ⟨h2, r1, r2, r3⟩ := r_flt (n := 4) hN hst.1 q ho (by omega) hfk hfs' hfs
      have r1 : fX12_faults N 138 4 h = some h2 := r1
      rw [r1, Option.bind_some]
      exact ⟨h2, rfl, r2, r3.mono (fun a k z => Or.inr z)⟩
    · obtain ⟨d1, d2⟩ := i_ncl hn
      rw [if_pos (Int32.not_lt.mp hn), if_neg hn]
      generalize hm : n.toNatClampNeg = m at *
      subst d1
      unfold mkO
      rw [show ((none, List.replicate m (Sum.inl 0)) : Ob).2.length = m from List.length_replicate .., ← rcl_int (n := Int32.ofNat m)]
      by_cases hHm : G.2.2.2.2 < m
      · rw [if_pos (show Int32.ofNat G.2.2.2.2 < Int32.ofNat m by rw [iLt (by omega) (by omega)]; exact hHm), if_neg (by omega)]
        obtain ⟨h2, r1, r2, r3⟩ := e371 h st q.1.2.2.2.1 q.1.2.2.2.2.1 q.1.2.1
        exact ⟨h2, r1, r2, r3.mono (fun a k z => Or.inl (Or.inl z))⟩
      · rw [if_neg (show ¬ Int32.ofNat G.2.2.2.2 < Int32.ofNat m by rw [iLt (by omega) (by omega)]; exact hHm), show (2 : Int32) = Int32.ofNat 2 from rfl, ← Int32.ofNat_add]
        obtain ⟨h1, B1, O1, L1, a1, a2, a3, a4⟩ := q.room (N := N) (n := m) hN ho (by omega) hfs
        have st1 := a2.st
        rw [a1, Option.bind_some]
        dsimp only
        by_cases hr : rcl G.1 ((i, lo, (false, .inl (Int32.ofNat m)) :: ops', E, xs, ks) :: fs) + (2 + m) ≤ G.2.2.2.2
        · rw [if_pos hr, if_neg (by decide), if_pos hr]
          have h100' : rd h1 138 100 = Int32.ofNat (pb + (um ops').length + 1) := a2.2.2.2.1
          have s2 := st1.1.wr 138 100 (Int32.ofNat (pb + (um ops').length))
          have a5 : ROp P S num g (wr h1 138 100 (Int32.ofNat (pb + (um ops').length))) G i lo ops' E xs ks fs t1 t2 t3 B1 O1 L1 lb pb tr' := a2.cut (j := 1) (Chg.wr h1 138 100 _ ⟨rfl, rfl⟩) (w_138_100 st1.1 _) a2.2.2.2.2.2.2.2.1
          obtain ⟨h2, b1, b2, b3⟩ := a5.made (N := N) (oc := none) (n := m) hN hst ho (a3 hr) (fun c' z => by cases z)
          have b1 : fX12_object N 138 (-1) (Int32.ofNat m) (wr h1 138 100 (Int32.ofNat (pb + (um ops').length))) = some (Int32.ofNat (5 + L1.length), h2) := b1
          obtain ⟨h3, f1, f2, f3⟩ := b2.one (N := N) (x := Int32.ofNat (5 + L1.length)) (f := 1) (v := .inr (some G.1.length)) ⟨by dsimp only; rw [if_pos rfl], rfl, Or.inl (List.mem_append_right _ (List.mem_singleton.mpr rfl))⟩ hol hfs
          refine ⟨h3, ?_, f2, (((a4.mono (fun a k z => Or.inl (Or.inr (Or.inl z)))).trans (Chg.wr h1 138 100 _ (Or.inl (Or.inl (by unfold fmA; omega))))).trans (b3.mono (fun a k z => Or.inl (Or.inr z)))).trans (f3.mono (fun a k z => Or.inl (Or.inl z)))⟩
          rw [g_138_100 st1.1, Option.bind_some, h100', i_sub1, p_138_100 st1.1, Option.bind_some, b1, Option.bind_some]
          dsimp only
          rw [f1, Option.bind_some]
        · rw [if_neg hr, if_pos rfl, if_neg hr]
          obtain ⟨h2, r1, r2, r3⟩ := e371 h1 st1 a2.1.2.2.2.1 a2.1.2.2.2.2.1 a2.1.2.1
          exact ⟨h2, r1, r2, (a4.mono (fun a k z => Or.inl (Or.inr (Or.inl z)))).trans (r3.mono (fun a k z => Or.inl (Or.inl z)))⟩
  | [], hops, q, hfk => exact hops.elim
end MKO
