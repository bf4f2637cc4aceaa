/-! ===== a market begins ===== -/
theorem c_cl22 {q0 : Nat} {K : Mm → Option Mm} {Q : Mm → Prop} {σ : Mm} (hK : ∀ τ, (∀ a j, τ a j = if q0 + 1 ≤ a ∧ a ≤ q0 + 6 ∧ j < 6 then (if a = q0 + 4 ∨ a = q0 + 6 then -1 else 0) else σ a j) → Ok (K τ) Q) : Ok (zfX8_clear_L22 K q0 NF 0 σ) Q := by
  refine ok_up (F := fun fu (s : Int32 × Mm) => zfX8_clear_L22 K q0 fu s.1 s.2) 6 (fun i s => s.1 = nI i ∧ ∀ a j, s.2 a j = if q0 + 1 ≤ a ∧ a ≤ q0 + 6 ∧ j < i then (if a = q0 + 4 ∨ a = q0 + 6 then -1 else 0) else σ a j) ?_ ?_ 0 NF (0, σ) ⟨rfl, fun a j => by rw [if_neg (by omega)]⟩ (by omega) (by unfold NF; omega)
  · rintro i fu ⟨y, τ⟩ hi ⟨hy, h1⟩ hk
    have hy : y = nI i := hy
    subst hy
    have h1 : ∀ a j, τ a j = if q0 + 1 ≤ a ∧ a ≤ q0 + 6 ∧ j < i then (if a = q0 + 4 ∨ a = q0 + 6 then -1 else 0) else σ a j := h1
    show Ok (zfX8_clear_L22 K q0 (fu + 1) (nI i) τ) _
    unfold zfX8_clear_L22
    have hin : inb (nI i) 6 := (n_in (by omega)).mpr (by omega)
    rw [if_neg (by rw [show (6 : Int32) = nI 6 from rfl, n_le (by decide) (by omega)]; omega), ck_t hin]
    refine ok_lg (fun φ1 e1 => ?_)
    rw [ck_t hin]
    refine ok_lg (fun φ2 e2 => ?_)
    rw [ck_t hin]
    refine ok_lg (fun φ3 e3 => ?_)
    rw [ck_t hin]
    refine ok_lg (fun φ4 e4 => ?_)
    rw [ck_t hin]
    refine ok_lg (fun φ5 e5 => ?_)
    rw [ck_t hin]
    refine ok_lg (fun φ6 e6 => ?_)
    refine ok_lg (fun x ex => ?_)
    rw [show nI i + 1 = nI (i + 1) from n_add _ 1] at ex
    subst ex
    rw [n_ix (by omega)] at e1 e2 e3 e4 e5 e6
    refine hk (nI (i + 1), φ6) ⟨rfl, fun a j => ?_⟩
    dsimp only
    rw [e6, e5, e4, e3, e2, e1]
    simp only [zst_a, h1]
    by_cases ej : j = i
    · subst ej
      by_cases g1 : a = q0 + 1
      · subst g1
        rw [if_neg (by omega), if_neg (by omega), if_neg (by omega), if_neg (by omega), if_neg (by omega), if_pos (by omega), if_pos (by omega), if_neg (by omega)]
      by_cases g2 : a = q0 + 2
      · subst g2
        rw [if_neg (by omega), if_neg (by omega), if_neg (by omega), if_neg (by omega), if_pos (by omega), if_pos (by omega), if_neg (by omega)]
      by_cases g3 : a = q0 + 3
      · subst g3
        rw [if_neg (by omega), if_neg (by omega), if_neg (by omega), if_pos (by omega), if_pos (by omega), if_neg (by omega)]
      by_cases g4 : a = q0 + 4
      · subst g4
        rw [if_neg (by omega), if_neg (by omega), if_pos (by omega), if_pos (by omega), if_pos (by omega)]
      by_cases g5 : a = q0 + 5
      · subst g5
        rw [if_neg (by omega), if_pos (by omega), if_pos (by omega), if_neg (by omega)]
      by_cases g6 : a = q0 + 6
      · subst g6
        rw [if_pos (by omega), if_pos (by omega), if_pos (by omega)]
      rw [if_neg (by omega), if_neg (by omega), if_neg (by omega), if_neg (by omega), if_neg (by omega), if_neg (by omega), if_neg (by omega), if_neg (by omega)]
    · rw [if_neg (by omega), if_neg (by omega), if_neg (by omega), if_neg (by omega), if_neg (by omega), if_neg (by omega)]
      by_cases c : q0 + 1 ≤ a ∧ a ≤ q0 + 6 ∧ j < i
      · rw [if_pos c, if_pos (show q0 + 1 ≤ a ∧ a ≤ q0 + 6 ∧ j < i + 1 by omega)]
      · rw [if_neg c, if_neg (by omega)]
  · rintro fu ⟨y, τ⟩ ⟨hy, h1⟩
    have hy : y = nI 6 := hy
    subst hy
    show Ok (zfX8_clear_L22 K q0 (fu + 1) (nI 6) τ) _
    unfold zfX8_clear_L22
    rw [if_pos (by decide)]
    exact hK τ h1
theorem c_cl78 {q0 : Nat} {K : Mm → Option Mm} {Q : Mm → Prop} {σ : Mm} (hK : ∀ τ, (∀ a j, τ a j = if a = q0 + 7 ∧ j < 24 then 0 else σ a j) → Ok (K τ) Q) : Ok (zfX8_clear_L78 K q0 NF 0 σ) Q := by
  refine ok_up (F := fun fu (s : Int32 × Mm) => zfX8_clear_L78 K q0 fu s.1 s.2) 24 (fun i s => s.1 = nI i ∧ ∀ a j, s.2 a j = if a = q0 + 7 ∧ j < i then 0 else σ a j) ?_ ?_ 0 NF (0, σ) ⟨rfl, fun a j => by rw [if_neg (by omega)]⟩ (by omega) (by unfold NF; omega)
  · rintro i fu ⟨y, τ⟩ hi ⟨hy, h1⟩ hk
    have hy : y = nI i := hy
    subst hy
    have h1 : ∀ a j, τ a j = if a = q0 + 7 ∧ j < i then 0 else σ a j := h1
    show Ok (zfX8_clear_L78 K q0 (fu + 1) (nI i) τ) _
    unfold zfX8_clear_L78
    have hin : inb (nI i) 24 := (n_in (by omega)).mpr (by omega)
    rw [if_neg (by rw [show (24 : Int32) = nI 24 from rfl, n_le (by decide) (by omega)]; omega), ck_t hin]
    refine ok_lg (fun φ1 e1 => ?_)
    refine ok_lg (fun x ex => ?_)
    rw [show nI i + 1 = nI (i + 1) from n_add _ 1] at ex
    subst ex
    rw [n_ix (by omega)] at e1
    refine hk (nI (i + 1), φ1) ⟨rfl, fun a j => ?_⟩
    dsimp only
    rw [e1, zst_a, h1]
    by_cases c : a = q0 + 7 ∧ j = i
    · rw [if_pos c, if_pos (by omega)]
    · rw [if_neg c]
      by_cases c2 : a = q0 + 7 ∧ j < i
      · rw [if_pos c2, if_pos (by omega)]
      · rw [if_neg c2, if_neg (by omega)]
  · rintro fu ⟨y, τ⟩ ⟨hy, h1⟩
    have hy : y = nI 24 := hy
    subst hy
    show Ok (zfX8_clear_L78 K q0 (fu + 1) (nI 24) τ) _
    unfold zfX8_clear_L78
    rw [if_pos (by decide)]
    exact hK τ h1
theorem c_cl102 {q0 : Nat} {K : Mm → Option Mm} {Q : Mm → Prop} {σ : Mm} (hK : ∀ τ, (∀ a j, τ a j = if q0 + 8 ≤ a ∧ a ≤ q0 + 9 ∧ j < 6 then 0 else σ a j) → Ok (K τ) Q) : Ok (zfX8_clear_L102 K q0 NF 0 σ) Q := by
  refine ok_up (F := fun fu (s : Int32 × Mm) => zfX8_clear_L102 K q0 fu s.1 s.2) 6 (fun i s => s.1 = nI i ∧ ∀ a j, s.2 a j = if q0 + 8 ≤ a ∧ a ≤ q0 + 9 ∧ j < i then 0 else σ a j) ?_ ?_ 0 NF (0, σ) ⟨rfl, fun a j => by rw [if_neg (by omega)]⟩ (by omega) (by unfold NF; omega)
  · rintro i fu ⟨y, τ⟩ hi ⟨hy, h1⟩ hk
    have hy : y = nI i := hy
    subst hy
    have h1 : ∀ a j, τ a j = if q0 + 8 ≤ a ∧ a ≤ q0 + 9 ∧ j < i then 0 else σ a j := h1
    show Ok (zfX8_clear_L102 K q0 (fu + 1) (nI i) τ) _
    unfold zfX8_clear_L102
    have hin : inb (nI i) 6 := (n_in (by omega)).mpr (by omega)
    rw [if_neg (by rw [show (6 : Int32) = nI 6 from rfl, n_le (by decide) (by omega)]; omega), ck_t hin]
    refine ok_lg (fun φ1 e1 => ?_)
    rw [ck_t hin]
    refine ok_lg (fun φ2 e2 => ?_)
    refine ok_lg (fun x ex => ?_)
    rw [show nI i + 1 = nI (i + 1) from n_add _ 1] at ex
    subst ex
    rw [n_ix (by omega)] at e1 e2
    refine hk (nI (i + 1), φ2) ⟨rfl, fun a j => ?_⟩
    dsimp only
    rw [e2, e1, zst_a, zst_a, h1]
    by_cases c : a = q0 + 9 ∧ j = i
    · rw [if_pos c, if_pos (by omega)]
    · rw [if_neg c]
      by_cases c3 : a = q0 + 8 ∧ j = i
      · rw [if_pos c3, if_pos (by omega)]
      · rw [if_neg c3]
        by_cases c2 : q0 + 8 ≤ a ∧ a ≤ q0 + 9 ∧ j < i
        · rw [if_pos c2, if_pos (by omega)]
        · rw [if_neg c2, if_neg (by omega)]
  · rintro fu ⟨y, τ⟩ ⟨hy, h1⟩
    have hy : y = nI 6 := hy
    subst hy
    show Ok (zfX8_clear_L102 K q0 (fu + 1) (nI 6) τ) _
    unfold zfX8_clear_L102
    rw [if_pos (by decide)]
    exact hK τ h1
/-- a state as a market begins -/
def st0 (v d1 d2 : Int32) : Mm := fun i k => if i = 0 then (if k = 0 then v else if k = 4 then d1 else if k = 204 then d2 else 0) else if i = 4 ∨ i = 6 then -1 else 0
theorem c_clear8 {v : Int32} {σ : Mm} : Ok (zfX8_clear 27 v σ) (fun τ => AgS 27 τ (st0 v (σ 27 4) (σ 27 204)) ∧ ∀ c, (c < 27 ∨ 36 < c) → τ c = σ c) := by
  unfold zfX8_clear
  refine ok_lg (fun τ1 h1 => ?_)
  refine ok_lg (fun τ2 h2 => ?_)
  refine ok_lg (fun τ3 h3 => ?_)
  refine ok_lg (fun τ4 h4 => ?_)
  refine ok_lg (fun K1 hK1 => ?_)
  refine c_cl22 (fun φ1 g1 => ?_)
  simp only [hK1]
  refine ok_lg (fun K2 hK2 => ?_)
  refine c_cl78 (fun φ2 g2 => ?_)
  simp only [hK2]
  refine ok_lg (fun K3 hK3 => ?_)
  refine c_cl102 (fun φ3 g3 => ?_)
  simp only [hK3]
  rw [ok_s]
  have g : ∀ a j, φ3 a j = if 35 ≤ a ∧ a ≤ 36 ∧ j < 6 then 0 else if a = 34 ∧ j < 24 then 0 else if 28 ≤ a ∧ a ≤ 33 ∧ j < 6 then (if a = 31 ∨ a = 33 then -1 else 0) else τ4 a j := fun a j => by rw [g3, g2, g1]
  have g0 : ∀ j, φ3 27 j = τ4 27 j := fun j => by rw [g, if_neg (by omega), if_neg (by omega), if_neg (by omega)]
  have q4 : ∀ c, c ≠ 27 → τ4 c = σ c := fun c hc => by rw [h4, zst_n hc, h3, zst_n hc, h2, zst_n hc, h1, zst_n hc]
  refine ⟨⟨fun k hk => ?_, ?_, ?_, fun i k hi hk => ?_, fun k hk => ?_⟩, fun c hc => ?_⟩
  · rw [g0]
    have : k = 0 ∨ k = 1 ∨ k = 2 ∨ k = 3 := by omega
    rcases this with rfl | rfl | rfl | rfl
    · rw [h4, zst_k (by omega), h3, zst_k (by omega), h2, zst_k (by omega), h1, zst_v]; rfl
    · rw [h4, zst_k (by omega), h3, zst_k (by omega), h2, zst_v]; rfl
    · rw [h4, zst_k (by omega), h3, zst_v]; rfl
    · rw [h4, zst_v]; rfl
  · rw [g0, h4, zst_k (by omega), h3, zst_k (by omega), h2, zst_k (by omega), h1, zst_k (by omega)]; rfl
  · rw [g0, h4, zst_k (by omega), h3, zst_k (by omega), h2, zst_k (by omega), h1, zst_k (by omega)]; rfl
  · rw [g]
    unfold st0
    rw [if_neg (show ¬ i = 0 by omega)]
    by_cases c : 8 ≤ i
    · rw [if_pos (by omega), if_neg (by omega)]
    · rw [if_neg (by omega), if_neg (by omega), if_pos (by omega)]
      by_cases c2 : i = 4 ∨ i = 6
      · rw [if_pos (by omega), if_pos c2]
      · rw [if_neg (by omega), if_neg c2]
  · rw [g, if_neg (by omega), if_pos (by omega)]
    unfold st0
    rw [if_neg (by omega), if_neg (by omega)]
  · funext j
    rw [g, if_neg (by omega), if_neg (by omega), if_neg (by omega), q4 c (by omega)]
