/-! ===== THE CLASS' TYPER: what fits ===== -/
theorem Pgm.sub_5 {P : Pgm} {t : Nat} (h : t ≠ 5) : P.sub t 5 = false := by
  unfold Pgm.sub
  by_cases z : t = 4
  · rw [if_pos z]; rfl
  · rw [if_neg z, decide_eq_false (fun y => h y.1), decide_eq_false (fun y => by omega)]
    rfl
theorem CK.fits {P : Pgm} {D : List Int32 → Prop} {num : List Int32 → Nat} {N t u : Nat} {h : pH} (hN : 1100 ≤ N) (q : CK P D num h) (ht : P.tOk t) (hu : P.tOk u) (h5 : t ≠ 5) : fX9_fits N 51 (ctI t) (ctI u) h = some (kI (P.sub t u), h) := by
  have hn : P.n ≤ 400 := by have := q.1.2.2.2.2.2.1; omega
  unfold fX9_fits
  rw [if_pos (o_51 q.1.1)]
  by_cases z : u = 5
  · rw [if_pos ((ctI_5 hn hu).mpr z), z, Pgm.sub_5 h5]
    rfl
  · rw [if_neg (fun y => z ((ctI_5 hn hu).mp y)), R_51_0 q.1.1, Option.bind_some, q.1.isSub q.2.1 hN ht hu h5 z, Option.bind_some]
    dsimp only
    rw [kI_if]
    cases P.sub t u <;> rfl
