/-! ===== the reference tries days ===== -/
theorem nar_b (c : Prop) [Decidable c] : vp_nar .boolean (if c then 1 else 0 : Int32) = if c then 1 else 0 := by
  by_cases h : c
  · rw [if_pos h]; decide
  · rw [if_neg h]; decide
/-- what tried days may change -/
def FrT (σ τ : Mm) : Prop := (∀ x, (x < 5 ∨ x = 6 ∨ x = 7 ∨ x = 15 ∨ x = 16 ∨ 17 < x ∧ x ≠ 45 ∧ x ≠ 46) → τ 703 x = σ 703 x) ∧
  ∀ c, c ≠ 703 → c ≠ 707 → c ≠ 714 → c ≠ 718 → c ≠ 719 → c ≠ 720 → c ≠ 721 → c ≠ 722 → c ≠ 723 → c ≠ 724 → c ≠ 725 → c ≠ 726 → τ c = σ c
theorem FrT.refl {σ : Mm} : FrT σ σ := ⟨fun _ _ => rfl, fun _ _ _ _ _ _ _ _ _ _ _ _ _ => rfl⟩
theorem FrT.trans {σ τ υ : Mm} (h : FrT σ τ) (h2 : FrT τ υ) : FrT σ υ :=
  ⟨fun x a => (h2.1 x a).trans (h.1 x a), fun c a1 a2 a3 a4 a5 a6 a7 a8 a9 a10 a11 a12 => (h2.2 c a1 a2 a3 a4 a5 a6 a7 a8 a9 a10 a11 a12).trans (h.2 c a1 a2 a3 a4 a5 a6 a7 a8 a9 a10 a11 a12)⟩
theorem FrT.c {σ τ : Mm} (h : FrT σ τ) {c : Nat} (hc : c < 703 ∨ 703 < c ∧ c < 707 ∨ 707 < c ∧ c < 714 ∨ 714 < c ∧ c < 718 ∨ 726 < c) : τ c = σ c :=
  h.2 c (by omega) (by omega) (by omega) (by omega) (by omega) (by omega) (by omega) (by omega) (by omega) (by omega) (by omega) (by omega)
theorem PmR.fr {P : Pm} {s s2 σ τ : Mm} (h : PmR P s σ) (f : FrT σ τ) (e3 : s2 0 3 = s 0 3) (e6 : s2 6 = s 6) : PmR P s2 τ := by
  obtain ⟨h1, h2, h3, h4, h5, h6, h7⟩ := h
  refine ⟨by rw [f.1 24 (by omega)]; exact h1, by rw [f.1 25 (by omega)]; exact h2, by rw [f.1 41 (by omega), e3]; exact h3, by rw [f.1 42 (by omega)]; exact h4, by rw [f.c (by omega)]; exact h5, fun k hk => ?_, fun i hi => ?_⟩
  · rw [f.c (c := 708) (by omega), f.c (c := 717) (by omega), f.c (c := 716) (by omega), e6]; exact h6 k hk
  · rw [f.c (c := 709) (by omega)]; exact h7 i hi
theorem RuR.of {P : Pm} {rc : Nat} {σ τ : Mm} (h : RuR P rc σ) (f5 : τ 705 = σ 705) (f6 : ∀ r, r < rc → τ 706 r = σ 706 r) : RuR P rc τ := fun r hr υ h1 h2 => by rw [f6 r hr]; exact h r hr υ (fun k hk => (h1 k hk).trans (by rw [f5])) h2
theorem RuR.fr {P : Pm} {rc : Nat} {σ τ : Mm} (h : RuR P rc σ) (f : FrT σ τ) : RuR P rc τ := h.of (f.c (by omega)) (fun r _ => by rw [f.c (c := 706) (by omega)])
theorem r_tries {P : Pm} {s σ : Mm} {rc d B : Nat} (hP : WFp P) (hPw : WFw P) (hs : WFs P s) (hB : sm B (s 0 1)) (hB2 : B < 900000) (hRs : RuS P rc s) (hh : ∀ k, pn P ≤ k → k < 6 → ¬ hob (s 0 3) k) (hA : RRs P σ s) (hC : PmR P s σ) (hN : pN P = pn P) (h43 : σ 703 43 = 0) (hR : RuR P rc σ) (hd : d ≤ 60) :
    Ok (zfX12_tries (nI d) σ) (fun τ => RRs P τ (dys P s d) ∧ (∀ j, j ≤ d → τ 725 j = dys P s j 0 0) ∧ (∀ j, j < d → τ 726 (j + 1) = (if (dU P 0 (dys P s j)).1 = 0 then 1 else 0)) ∧
      (∀ i, i < pm P → τ 723 i = σ 723 i - s 8 i + dys P s d 8 i ∧ τ 724 i = σ 724 i - s 9 i + dys P s d 9 i) ∧ FrT σ τ) := by
  unfold zfX12_tries
  refine ok_lg (fun t1 h1 => ?_)
  refine ok_lg (fun t2 h2 => ?_)
  refine ok_lg (fun K hK => ?_)
  have e2 : ∀ c, c ≠ 725 → c ≠ 726 → t2 c = σ c := fun c a b => by rw [h2, zst_n b, h1, zst_n a]
  have f2 : FrT σ t2 := ⟨fun x _ => by rw [e2 703 (by omega) (by omega)], fun c _ _ _ _ _ _ _ _ _ _ a b => e2 c a b⟩
  have A2 : RRs P t2 s := by
    unfold RRs
    rw [e2 714 (by omega) (by omega)]; exact hA
  have z0 : t2 725 0 = s 0 0 := by rw [h2, zst_n (by omega), h1, show ix 0 = 0 by decide, zst_v, show ix 54 = 54 by decide]; exact hA.2.1
  refine ok_up (F := fun fu (s : Int32 × Mm) => zfX12_tries_L22 (nI d) K fu s.1 s.2) d (fun i x => x.1 = nI (i + 1) ∧ RRs P x.2 (dys P s i) ∧ (∀ j, j ≤ i → x.2 725 j = dys P s j 0 0) ∧ (∀ j, j < i → x.2 726 (j + 1) = (if (dU P 0 (dys P s j)).1 = 0 then 1 else 0)) ∧ (∀ k, k < pm P → x.2 723 k = σ 723 k - s 8 k + dys P s i 8 k ∧ x.2 724 k = σ 724 k - s 9 k + dys P s i 9 k) ∧ FrT σ x.2) ?_ ?_ 0 NF (1, t2)
    ⟨rfl, A2, fun j hj => by have : j = 0 := by omega
                             subst this; exact z0, fun j hj => absurd hj (Nat.not_lt_zero j), fun k hk => ⟨by dsimp only; rw [e2 723 (by omega) (by omega)]; show _ = _ - _ + s 8 k; grind, by dsimp only; rw [e2 724 (by omega) (by omega)]; show _ = _ - _ + s 9 k; grind⟩, f2⟩ (by omega) (by unfold NF; omega)
  · rintro i fu ⟨y, τ⟩ hi ⟨hy, i1, i2, i3, i4, i5⟩ hk
    have hy : y = nI (i + 1) := hy
    subst hy
    have i1 : RRs P τ (dys P s i) := i1
    have i2 : ∀ j, j ≤ i → τ 725 j = dys P s j 0 0 := i2
    have i3 : ∀ j, j < i → τ 726 (j + 1) = (if (dU P 0 (dys P s j)).1 = 0 then 1 else 0) := i3
    have i4 : ∀ k, k < pm P → τ 723 k = σ 723 k - s 8 k + dys P s i 8 k ∧ τ 724 k = σ 724 k - s 9 k + dys P s i 9 k := i4
    have i5 : FrT σ τ := i5
    show Ok (zfX12_tries_L22 (nI d) K (fu + 1) (nI (i + 1)) τ) _
    unfold zfX12_tries_L22
    rw [if_neg (by rw [n_lt (by omega) (by omega)]; omega), ok_bd]
    refine ok_mono (r_day (f := 0) (rc := rc) hP hPw (dys_wf hP hs hB hB2 i (by omega)).1 (dys_ru hRs i) (by rw [dys_3]; exact hh) i1 (hC.fr i5 (dys_3 i) (dys_6 i)) (Or.inl ⟨hN, by rw [i5.1 43 (by omega)]; exact h43⟩) (hR.fr i5)) (fun φ hφ => ?_)
    obtain ⟨g1, g2, g3, g4, g5, g6, g7⟩ := hφ
    have hin : inb (nI (i + 1)) 61 := (n_in (by omega)).mpr (by omega)
    rw [ck_t hin]
    refine ok_lg (fun φ1 k1 => ?_)
    rw [ck_t hin]
    refine ok_lg (fun φ2 k2 => ?_)
    refine ok_lg (fun x hx => ?_)
    rw [show nI (i + 1) + 1 = nI (i + 1 + 1) from n_add _ 1] at hx
    subst hx
    rw [n_ix (by omega)] at k1 k2
    have c2 : ∀ c, c ≠ 725 → c ≠ 726 → φ2 c = φ c := fun c a b => by rw [k2, zst_n b, k1, zst_n a]
    have v5 : ∀ j, φ2 725 j = if j = i + 1 then dys P s (i + 1) 0 0 else τ 725 j := fun j => by
      rw [k2, zst_n (by omega), k1]
      by_cases e : j = i + 1
      · subst e; rw [zst_v, if_pos rfl, show ix 54 = 54 by decide]; exact g1.2.1
      · rw [zst_k e, if_neg e, g7 725 (by omega) (by omega) (by omega) (by omega) (by omega) (by omega) (by omega) (by omega) (by omega) (by omega)]
    have v6 : ∀ j, φ2 726 j = if j = i + 1 then (if (dU P 0 (dys P s i)).1 = 0 then 1 else 0) else τ 726 j := fun j => by
      rw [k2]
      by_cases e : j = i + 1
      · subst e; rw [zst_v, if_pos rfl, k1, zst_n (by omega), g2, nar_b]
      · rw [zst_k e, if_neg e, k1, zst_n (by omega), g7 726 (by omega) (by omega) (by omega) (by omega) (by omega) (by omega) (by omega) (by omega) (by omega) (by omega)]
    refine hk (nI (i + 1 + 1), φ2) ⟨rfl, ?_, fun j hj => ?_, fun j hj => ?_, fun k hk => ⟨?_, ?_⟩, ?_⟩
    · dsimp only
      unfold RRs
      rw [c2 714 (by omega) (by omega)]; exact g1
    · dsimp only
      rw [v5 j]
      by_cases e : j = i + 1
      · rw [if_pos e, e]
      · rw [if_neg e]; exact i2 j (by omega)
    · dsimp only
      rw [v6 (j + 1)]
      by_cases e : j = i
      · subst e; rw [if_pos rfl]
      · rw [if_neg (by omega)]; exact i3 j (by omega)
    · dsimp only
      rw [c2 723 (by omega) (by omega), (g5 k hk).1, (i4 k hk).1]
      show _ = _ + dayS P 0 (dys P s i) 8 k
      grind
    · dsimp only
      rw [c2 724 (by omega) (by omega), (g5 k hk).2, (i4 k hk).2]
      show _ = _ + dayS P 0 (dys P s i) 9 k
      grind
    · refine i5.trans ⟨fun x hx => ?_, fun c a1 a2 a3 a4 a5 a6 a7 a8 a9 a10 a11 a12 => ?_⟩
      · dsimp only
        rw [c2 703 (by omega) (by omega)]; exact g6 x hx
      · dsimp only
        rw [c2 c a11 a12]; exact g7 c a1 a2 a3 a4 a5 a6 a7 a8 a9 a10
  · rintro fu ⟨y, τ⟩ ⟨hy, i1, i2, i3, i4, i5⟩
    have hy : y = nI (d + 1) := hy
    subst hy
    show Ok (zfX12_tries_L22 (nI d) K (fu + 1) (nI (d + 1)) τ) _
    unfold zfX12_tries_L22
    rw [if_pos (by rw [n_lt (by omega) (by omega)]; omega), hK, ok_s]
    exact ⟨i1, i2, i3, i4, i5⟩
/-- how often the board jumped -/
noncomputable def jct (P : Pm) (s : Mm) : Nat → Nat
  | 0 => 0
  | j + 1 => jct P s j + (if (dU P 0 (dys P s j)).1 = 0 then 1 else 0)
theorem jct_le {P : Pm} {s : Mm} : ∀ j, jct P s j ≤ j := by
  intro j
  induction j with
  | zero => exact Nat.le_refl _
  | succ j ih => unfold jct; split <;> omega
theorem r_jumps {P : Pm} {s σ : Mm} {d : Nat} (hd : d ≤ 60) (h : ∀ j, j < d → σ 726 (j + 1) = (if (dU P 0 (dys P s j)).1 = 0 then 1 else 0)) : Ok (zfX12_jumpMany (nI d) σ) (fun a => a = nI (jct P s d)) := by
  unfold zfX12_jumpMany
  refine ok_lg (fun K hK => ?_)
  refine ok_up (F := fun fu (s : Int32 × Int32) => zfX12_jumpMany_L4 (nI d) K σ fu s.1 s.2) d (fun i x => x.1 = nI (jct P s i) ∧ x.2 = nI (i + 1)) ?_ ?_ 0 NF (0, 1) ⟨rfl, rfl⟩ (by omega) (by unfold NF; omega)
  · rintro i fu ⟨x, y⟩ hi ⟨hx, hy⟩ hk
    have hx : x = nI (jct P s i) := hx
    subst hx
    have hy : y = nI (i + 1) := hy
    subst hy
    show Ok (zfX12_jumpMany_L4 (nI d) K σ (fu + 1) (nI (jct P s i)) (nI (i + 1))) _
    unfold zfX12_jumpMany_L4
    rw [if_neg (by rw [n_lt (by omega) (by omega)]; omega), ck_t ((n_in (by omega)).mpr (by omega)), n_ix (by omega), h i hi]
    refine ok_lg (fun J hJ => ?_)
    have go : ∀ v : Nat, jct P s (i + 1) = jct P s i + v → Ok (J (nI v)) (fun a => a = nI (jct P s d)) := fun v hv => by
      simp only [hJ]
      refine ok_lg (fun a ha => ?_)
      refine ok_lg (fun b hb => ?_)
      rw [n_add] at ha
      rw [show nI (i + 1) + 1 = nI (i + 1 + 1) from n_add _ 1] at hb
      subst ha
      subst hb
      exact hk (nI (jct P s i + v), nI (i + 1 + 1)) ⟨by dsimp only; rw [hv], rfl⟩
    by_cases c : (dU P 0 (dys P s i)).1 = 0
    · rw [if_pos c, if_neg (by decide)]
      exact go 1 (by rw [jct, if_pos c])
    · rw [if_neg c, if_pos rfl]
      exact go 0 (by rw [jct, if_neg c])
  · rintro fu ⟨x, y⟩ ⟨hx, hy⟩
    have hx : x = nI (jct P s d) := hx
    subst hx
    have hy : y = nI (d + 1) := hy
    subst hy
    show Ok (zfX12_jumpMany_L4 (nI d) K σ (fu + 1) (nI (jct P s d)) (nI (d + 1))) _
    unfold zfX12_jumpMany_L4
    rw [if_pos (by rw [n_lt (by omega) (by omega)]; omega), hK, ok_s]
