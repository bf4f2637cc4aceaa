/-! ===== falls answers alike ===== -/
def S1 (d i : Nat) (i' j' : Nat) : Prop := i' < i ∧ j' ≤ d
def S2 (d i j : Nat) (i' j' : Nat) : Prop := i' < i ∧ j' ≤ d ∨ i' = i ∧ j' ≤ j
theorem r_falls65 {P : Pm} {s φ : Mm} {d i : Nat} {K : Int32 → Mm → Option (Int32 × Mm)} {Q : Int32 × Mm → Prop} (hd : d ≤ 30) (hi : i < d) (hb : ∀ j, j ≤ d → 0 ≤ bdI P s j ∧ bdI P s j ≤ 20) (h5 : ∀ j, j ≤ d → φ 725 j = dys P s j 0 0) (h6 : ∀ j, j < d → φ 726 (j + 1) = (if (dU P 0 (dys P s j)).1 = 0 then 1 else 0))
    {v : Int32} (hv : IsFl (bdI P s) (jmP P s) (S1 d i) v.toInt) (hK : ∀ w, IsFl (bdI P s) (jmP P s) (S1 d (i + 1)) w.toInt → Ok (K w φ) Q) : Ok (zfX12_falls_L65 (nI d) K (nI i) NF v (nI (i + 1)) φ) Q := by
  refine ok_up (F := fun fu (x : Int32 × Int32) => zfX12_falls_L65 (nI d) K (nI i) fu x.1 x.2 φ) d (fun j x => i ≤ j ∧ x.2 = nI (j + 1) ∧ NoJ (jmP P s) i j ∧ IsFl (bdI P s) (jmP P s) (S2 d i j) x.1.toInt) ?_ ?_ i NF (v, nI (i + 1)) ⟨Nat.le_refl _, rfl, fun k h1 h2 => by omega, ?_⟩ (by omega) (by unfold NF; omega)
  · rintro j fu ⟨w, y⟩ hj ⟨g0, hy, g1, g2⟩ hk
    have hy : y = nI (j + 1) := hy
    subst hy
    have g2 : IsFl (bdI P s) (jmP P s) (S2 d i j) w.toInt := g2
    have g0 : i ≤ j := g0
    show Ok (zfX12_falls_L65 (nI d) K (nI i) (fu + 1) w (nI (j + 1)) φ) Q
    unfold zfX12_falls_L65
    have hin : inb (nI (j + 1)) 61 := (n_in (by omega)).mpr (by omega)
    rw [if_neg (by rw [n_lt (by omega) (by omega)]; omega), ck_t hin, n_ix (by omega), h6 j hj]
    by_cases c : (dU P 0 (dys P s j)).1 = 0
    · rw [if_pos c, if_neg (by decide)]
      refine hK w (g2.add (Int.le_refl _) (fun i' j' x => ?_) (fun i' j' x1 x2 x3 => ?_) (Or.inl rfl))
      · rcases x with ⟨x1, x2⟩ | ⟨x1, x2⟩
        · exact ⟨by omega, x2⟩
        · exact ⟨by omega, by omega⟩
      · obtain ⟨y1, y2⟩ := x1
        by_cases e : i' = i
        · by_cases e2 : j' ≤ j
          · exact Or.inl (Or.inr ⟨e, e2⟩)
          · exact absurd c (x3 j (by omega) (by omega))
        · exact Or.inl (Or.inl ⟨by omega, y2⟩)
    · rw [if_neg c, if_pos rfl, ck_t ((n_in (by omega)).mpr (by omega)), ck_t hin, n_ix (by omega), h5 i (by omega), h5 (j + 1) (by omega)]
      refine ok_lg (fun w2 e2 => ?_)
      refine ok_lg (fun y2 e3 => ?_)
      rw [show nI (j + 1) + 1 = nI (j + 1 + 1) from n_add _ 1] at e3
      subst e3
      have hn : NoJ (jmP P s) i (j + 1) := fun k k1 k2 => by
        by_cases e : k = j
        · rw [e]; exact c
        · exact g1 k k1 (by omega)
      have hw : w2.toInt = max w.toInt (bdI P s i - bdI P s (j + 1)) := by
        rw [e2, zmax_ti, sub_ti (hb i (by omega)) (hb (j + 1) (by omega))]; rfl
      refine hk (w2, nI (j + 1 + 1)) ⟨by omega, rfl, hn, ?_⟩
      dsimp only
      rw [hw]
      refine g2.add (by omega) (fun i' j' x => ?_) (fun i' j' x1 x2 x3 => ?_) ?_
      · rcases x with x | ⟨x1, x2⟩
        · exact Or.inl x
        · exact Or.inr ⟨x1, by omega⟩
      · rcases x1 with x | ⟨y1, y2⟩
        · exact Or.inl (Or.inl x)
        · by_cases e : j' = j + 1
          · right; rw [y1, e]; omega
          · exact Or.inl (Or.inr ⟨y1, by omega⟩)
      · by_cases c2 : bdI P s i - bdI P s (j + 1) ≤ w.toInt
        · exact Or.inl (by omega)
        · exact Or.inr ⟨i, j + 1, Or.inr ⟨rfl, Nat.le_refl _⟩, by omega, hn, by omega⟩
  · rintro fu ⟨w, y⟩ ⟨g0, hy, g1, g2⟩
    have hy : y = nI (d + 1) := hy
    subst hy
    have g2 : IsFl (bdI P s) (jmP P s) (S2 d i d) w.toInt := g2
    show Ok (zfX12_falls_L65 (nI d) K (nI i) (fu + 1) w (nI (d + 1)) φ) Q
    unfold zfX12_falls_L65
    rw [if_pos (by rw [n_lt (by omega) (by omega)]; omega)]
    refine hK w (g2.add (Int.le_refl _) (fun i' j' x => ?_) (fun i' j' x1 x2 x3 => ?_) (Or.inl rfl))
    · rcases x with ⟨x1, x2⟩ | ⟨x1, x2⟩
      · exact ⟨by omega, x2⟩
      · exact ⟨by omega, x2⟩
    · obtain ⟨y1, y2⟩ := x1
      by_cases e : i' = i
      · exact Or.inl (Or.inr ⟨e, y2⟩)
      · exact Or.inl (Or.inl ⟨by omega, y2⟩)
  · dsimp only
    refine hv.add (Int.le_refl _) (fun i' j' x => Or.inl x) (fun i' j' x1 x2 x3 => ?_) (Or.inl rfl)
    rcases x1 with x | ⟨y1, y2⟩
    · exact Or.inl x
    · omega
theorem r_falls53 {P : Pm} {s φ : Mm} {d : Nat} {K : Int32 → Mm → Option (Int32 × Mm)} {Q : Int32 × Mm → Prop} (hd : d ≤ 30) (hb : ∀ j, j ≤ d → 0 ≤ bdI P s j ∧ bdI P s j ≤ 20) (h5 : ∀ j, j ≤ d → φ 725 j = dys P s j 0 0) (h6 : ∀ j, j < d → φ 726 (j + 1) = (if (dU P 0 (dys P s j)).1 = 0 then 1 else 0))
    (hK : ∀ w, IsFl (bdI P s) (jmP P s) (SD d) w.toInt → Ok (K w φ) Q) : Ok (zfX12_falls_L53 (nI d) K NF 0 0 φ) Q := by
  refine ok_up (F := fun fu (x : Int32 × Int32) => zfX12_falls_L53 (nI d) K fu x.1 x.2 φ) d (fun i x => x.2 = nI i ∧ IsFl (bdI P s) (jmP P s) (S1 d i) x.1.toInt) ?_ ?_ 0 NF (0, 0) ⟨rfl, show (0 : Int) ≤ (0 : Int32).toInt by decide, fun i j x => absurd x.1 (Nat.not_lt_zero i), Or.inl rfl⟩ (by omega) (by unfold NF; omega)
  · rintro i fu ⟨w, y⟩ hi ⟨hy, g⟩ hk
    have hy : y = nI i := hy
    subst hy
    have g : IsFl (bdI P s) (jmP P s) (S1 d i) w.toInt := g
    show Ok (zfX12_falls_L53 (nI d) K (fu + 1) w (nI i) φ) Q
    unfold zfX12_falls_L53
    rw [if_neg (by rw [n_le (by omega) (by omega)]; omega)]
    refine ok_lg (fun x5 e5 => ?_)
    rw [show nI i + 1 = nI (i + 1) from n_add _ 1] at e5
    subst e5
    refine ok_lg (fun J hJ => ?_)
    refine r_falls65 hd hi hb h5 h6 g (fun w2 h2 => ?_)
    simp only [hJ]
    refine ok_lg (fun x4 e4 => ?_)
    rw [show nI i + 1 = nI (i + 1) from n_add _ 1] at e4
    subst e4
    exact hk (w2, nI (i + 1)) ⟨rfl, h2⟩
  · rintro fu ⟨w, y⟩ ⟨hy, g⟩
    have hy : y = nI d := hy
    subst hy
    have g : IsFl (bdI P s) (jmP P s) (S1 d d) w.toInt := g
    show Ok (zfX12_falls_L53 (nI d) K (fu + 1) w (nI d) φ) Q
    unfold zfX12_falls_L53
    rw [if_pos (Int32.le_refl _)]
    exact hK w (g.add (Int.le_refl _) (fun i j x => x.2) (fun i j x1 x2 x3 => Or.inl ⟨by have : j ≤ d := x1
                                                                                         omega, x1⟩) (Or.inl rfl))
