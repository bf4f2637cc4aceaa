/-! ===== buyers ===== -/
def cw (f : Nat → Int32) : Nat → Int32
  | 0 => 0
  | j + 1 => cw f j + f j
theorem c_wait {q i : Nat} {σ : Mm} {f : Nat → Int32} (hi : i < 6) (hf : ∀ j, j < 3 → σ (q + 7) (4 * i + (j + 1)) = f j) : Ok (zfX8_waiting q (nI i) σ) (fun r => r = cw f 3) := by
  unfold zfX8_waiting
  refine ok_lg (fun K hK => ?_)
  refine ok_up (F := fun fu (x : Int32 × Int32) => zfX8_waiting_L4 K (nI i) σ q fu x.1 x.2) 3 (fun j x => x.1 = cw f j ∧ x.2 = nI (j + 1)) ?_ ?_ 0 NF (0, 1) ⟨rfl, rfl⟩ (by omega) (by unfold NF; omega)
  · rintro j fu ⟨a, y⟩ hj ⟨ha, hy⟩ hk
    have ha : a = cw f j := ha
    subst ha
    have hy : y = nI (j + 1) := hy
    subst hy
    show Ok (zfX8_waiting_L4 K (nI i) σ q (fu + 1) (cw f j) (nI (j + 1))) _
    unfold zfX8_waiting_L4
    rw [if_neg (by rw [show (4 : Int32) = nI 4 from rfl, n_le (by omega) (by omega)]; omega)]
    refine ok_lg (fun p hp => ?_)
    rw [show nI i * 4 + nI (j + 1) = nI (4 * i + (j + 1)) by rw [show nI i * 4 = nI (i * 4) from n_mul i 4, n_add, Nat.mul_comm]] at hp
    subst hp
    refine ok_lg (fun J hJ => ?_)
    rw [if_neg (n_nlt0 (by omega)), if_neg (by rw [show (24 : Int32) = nI 24 from rfl, n_le (by omega) (by omega)]; omega), ck_t ((n_in (by omega)).mpr (by omega)), n_ix (by omega), hf j hj]
    refine ok_lg (fun a2 ea => ?_)
    simp only [hJ]
    refine ok_lg (fun y2 ey => ?_)
    rw [show nI (j + 1) + 1 = nI (j + 1 + 1) from n_add _ 1] at ey
    exact hk (a2, y2) ⟨ea, ey⟩
  · rintro fu ⟨a, y⟩ ⟨ha, hy⟩
    have ha : a = cw f 3 := ha
    have hy : y = nI 4 := hy
    subst hy
    show Ok (zfX8_waiting_L4 K (nI i) σ q (fu + 1) a (nI 4)) _
    unfold zfX8_waiting_L4
    rw [if_pos (by decide), hK, ok_s]
    exact ha
theorem r_wait {i : Nat} {σ : Mm} {f : Nat → Int32} (hi : i < 6) (hf : ∀ j, j < 4 → σ 714 (30 + (4 * i + j)) = f j) : Ok (zfX12_waitingOf (nI i) σ) (fun r => r = cw f 4) := by
  unfold zfX12_waitingOf
  refine ok_lg (fun K hK => ?_)
  refine ok_up (F := fun fu (x : Int32 × Int32) => zfX12_waitingOf_L4 K (nI i) σ fu x.1 x.2) 4 (fun j x => x.1 = cw f j ∧ x.2 = nI j) ?_ ?_ 0 NF (0, 0) ⟨rfl, rfl⟩ (by omega) (by unfold NF; omega)
  · rintro j fu ⟨a, y⟩ hj ⟨ha, hy⟩ hk
    have ha : a = cw f j := ha
    subst ha
    have hy : y = nI j := hy
    subst hy
    show Ok (zfX12_waitingOf_L4 K (nI i) σ (fu + 1) (cw f j) (nI j)) _
    unfold zfX12_waitingOf_L4
    rw [if_neg (by rw [show (4 : Int32) = nI 4 from rfl, n_le (by omega) (by omega)]; omega), show (30 : Int32) + 4 * nI i + nI j = nI (30 + (4 * i + j)) by rw [show (4 : Int32) * nI i = nI (4 * i) from n_mul 4 i, show (30 : Int32) + nI (4 * i) = nI (30 + 4 * i) from n_add 30 _, n_add, Nat.add_assoc], ck_t ((n_in (by omega)).mpr (by omega)), n_ix (by omega), hf j hj]
    refine ok_lg (fun a2 ea => ?_)
    refine ok_lg (fun y2 ey => ?_)
    rw [show nI j + 1 = nI (j + 1) from n_add _ 1] at ey
    exact hk (a2, y2) ⟨ea, ey⟩
  · rintro fu ⟨a, y⟩ ⟨ha, hy⟩
    have ha : a = cw f 4 := ha
    have hy : y = nI 4 := hy
    subst hy
    show Ok (zfX12_waitingOf_L4 K (nI i) σ (fu + 1) a (nI 4)) _
    unfold zfX12_waitingOf_L4
    rw [if_pos (by decide), hK, ok_s]
    exact ha
theorem cw_eq {f : Nat → Int32} {w : Nat} (hw : w ≤ 3) (h0 : ∀ j, w ≤ j → j < 3 → f j = 0) : cw f 3 = cw (fun k => if k < w then f (w - (k + 1)) else 0) 4 := by
  have : w = 0 ∨ w = 1 ∨ w = 2 ∨ w = 3 := by omega
  rcases this with rfl | rfl | rfl | rfl
  · have a := h0 0 (by omega) (by omega); have b := h0 1 (by omega) (by omega); have c := h0 2 (by omega) (by omega)
    simp [cw, a, b, c]
  · have b := h0 1 (by omega) (by omega); have c := h0 2 (by omega) (by omega)
    simp [cw, b, c]
  · have c := h0 2 (by omega) (by omega)
    simp [cw, c]; grind
  · simp [cw]; grind
