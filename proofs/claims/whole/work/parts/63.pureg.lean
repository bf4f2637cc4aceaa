/-! ===== the reference serves a sort, whole ===== -/
section
variable {n N : Nat} {h0 : Int32} {hd : Nat → Prop} {g0 : Nat → Nat} {ask ga wo : Nat → Int32} {σ0 : Mm}
theorem sAge_wt_n {i a k : Nat} {X : Sx} (h : k ≠ 4 * i + a) : (sAge N hd g0 ask wo i a X).2.2.1 k = X.2.2.1 k := by
  unfold sAge
  dsimp only
  rw [updN_n h]
theorem SR.cg {σ : Mm} {d : Nat → Nat} {sur : Int32} {bm gm ww bm2 gm2 ww2 : Nat → Int32} (h : SR n N g0 ask ga σ0 σ d sur bm gm ww) (h1 : ∀ i, i < 6 → bm i = bm2 i) (h2 : ∀ i, i < 6 → gm i = gm2 i) (h3 : ∀ j, j < 24 → ww j = ww2 j) : SR n N g0 ask ga σ0 σ d sur bm2 gm2 ww2 := by
  obtain ⟨s1, s2, s3, s4, s5, s6, s7, s8, s9, s10⟩ := h
  exact ⟨s1, s2, s3, fun i hi => ⟨(s4 i hi).1.trans (h1 i hi), (s4 i hi).2.trans (h2 i hi)⟩, fun j hj => (s5 j hj).trans (h3 j hj), s6, s7, s8, s9, s10⟩
/-- one age of a sort, by how many days more it waits -/
noncomputable def sK (N : Nat) (hd : Nat → Prop) (g0 : Nat → Nat) (ask wo : Nat → Int32) (i w k : Nat) (X : Sx) : Sx := if k ≤ w then sAge N hd g0 ask wo i (w - k) X else X
def fK (i w k : Nat) (wt : Nat → Nat) : Nat := if k ≤ w then wt (4 * i + (w - k)) else 0
theorem sK_all {i w : Nat} {X : Sx} (hw : w ≤ 3) (hz : ∀ a, a < 4 → w < a → X.2.2.1 (4 * i + a) = 0) : sK N hd g0 ask wo i w 3 (sK N hd g0 ask wo i w 2 (sK N hd g0 ask wo i w 1 (sK N hd g0 ask wo i w 0 X))) = sSort N hd g0 ask wo i X := by
  have : w = 0 ∨ w = 1 ∨ w = 2 ∨ w = 3 := by omega
  unfold sSort
  rcases this with rfl | rfl | rfl | rfl
  · rw [sAge_0 (hz 3 (by omega) (by omega)), sAge_0 (hz 2 (by omega) (by omega)), sAge_0 (hz 1 (by omega) (by omega))]; rfl
  · rw [sAge_0 (hz 3 (by omega) (by omega)), sAge_0 (hz 2 (by omega) (by omega))]; rfl
  · rw [sAge_0 (hz 3 (by omega) (by omega))]; rfl
  · rfl
theorem r_ageK {K : Mm → Option Mm} {Q : Mm → Prop} {i k w fu : Nat} {b0 gm ww : Nat → Int32} {X : Sx} {σ : Mm} (hK : SRk n N h0 g0 ask σ0) (hi : i < 6) (hk : k < 4) (hwo : σ0 709 (3 * i) = wo i) (hX : ∀ k, X.2.2.1 k ≤ 1000) (hw : w ≤ 3) (hcm : σ0 721 (4 * i + k) = nI (fK i w k X.2.2.1))
    (hS : SR n N g0 ask ga σ0 σ X.1 X.2.1 (fun j => b0 j + X.2.2.2 j) gm ww)
    (hQ : ∀ σ', SR n N g0 ask ga σ0 σ' (sK N (hob h0) g0 ask wo i w k X).1 (sK N (hob h0) g0 ask wo i w k X).2.1 (fun j => b0 j + (sK N (hob h0) g0 ask wo i w k X).2.2.2 j) (gmk gm i k (fK i w k (sK N (hob h0) g0 ask wo i w k X).2.2.1)) (wwk ww i k (fK i w k (sK N (hob h0) g0 ask wo i w k X).2.2.1)) → Ok (zfX12_serve_L2 K (nI i) fu (nI (k + 1)) σ') Q) :
    Ok (zfX12_serve_L2 K (nI i) (fu + 1) (nI k) σ) Q := by
  unfold zfX12_serve_L2
  have e : (4 : Int32) * nI i + nI k = nI (4 * i + k) := by rw [show (4 : Int32) * nI i = nI (4 * i) from n_mul 4 i, n_add]
  rw [if_neg (by rw [show (4 : Int32) = nI 4 from rfl, n_le (by decide) (by omega)]; omega), e, ok_ck]
  refine ⟨(n_in (by omega)).mpr (by omega), ?_⟩
  refine ok_lg (fun many hmany => ?_)
  rw [n_ix (by omega), hS.2.2.2.2.2.2.2.2.2 721 (by decide) (by decide) (by decide) (by decide) (by decide), hcm] at hmany
  subst hmany
  refine ok_lg (fun k94 h94 => ?_)
  have hle : fK i w k X.2.2.1 ≤ 1000 := by unfold fK; split; · exact hX _
                                           · omega
  have L := r_L21 (K := k94) (Q := Q) (many := fK i w k X.2.2.1) hK hi hk hle hwo (fK i w k X.2.2.1) NF σ X.1 X.2.1 (fun j => b0 j + X.2.2.2 j) gm ww (Nat.le_refl _) (by unfold NF; omega) hS (fun σ' hσ' => ?_)
  · rw [Nat.sub_self, n_0] at L; exact L
  · rw [h94, ok_lt, show nI k + 1 = nI (k + 1) from n_add _ 1]
    refine hQ σ' ?_
    unfold sK fK at *
    by_cases c : k ≤ w
    · simp only [c, if_true] at hσ' ⊢
      unfold sAge
      dsimp only
      rw [updN_s]
      refine hσ'.cg (fun j hj => ?_) (fun _ _ => rfl) (fun _ _ => rfl)
      by_cases e : j = i
      · subst e; rw [upd_s, upd_s]; grind
      · rw [upd_n e, upd_n e]
    · simp only [c, if_false] at hσ' ⊢
      have e0 : buyN N (hob h0) g0 ask (wo i) 0 X.1 X.2.1 = (X.1, X.2.1, 0) := rfl
      rw [e0] at hσ'
      dsimp only at hσ'
      refine hσ'.cg (fun j hj => ?_) (fun _ _ => rfl) (fun _ _ => rfl)
      by_cases e : j = i
      · subst e; rw [upd_s, n_0]; grind
      · rw [upd_n e]
theorem r_serve {i w : Nat} {b0 gm ww : Nat → Int32} {X : Sx} {σ : Mm} (hK : SRk n N h0 g0 ask σ0) (hi : i < 6) (hwo : σ0 709 (3 * i) = wo i) (hX : ∀ k, X.2.2.1 k ≤ 1000) (hw : w ≤ 3) (hz : ∀ a, a < 4 → w < a → X.2.2.1 (4 * i + a) = 0) (hcm : ∀ k, k < 4 → σ0 721 (4 * i + k) = nI (fK i w k X.2.2.1))
    (hS : SR n N g0 ask ga σ0 σ X.1 X.2.1 (fun j => b0 j + X.2.2.2 j) gm ww) :
    Ok (zfX12_serve (nI i) σ) (fun σ' => SR n N g0 ask ga σ0 σ' (sSort N (hob h0) g0 ask wo i X).1 (sSort N (hob h0) g0 ask wo i X).2.1 (fun j => b0 j + (sSort N (hob h0) g0 ask wo i X).2.2.2 j)
      (fun j => if j = i then gm j + nI ((sSort N (hob h0) g0 ask wo i X).2.2.1 (4 * i + w)) else gm j)
      (fun j => if 4 * i ≤ j ∧ j < 4 * i + 3 then ww j + nI (fK i w (j - 4 * i + 1) (sSort N (hob h0) g0 ask wo i X).2.2.1) else ww j)) := by
  unfold zfX12_serve
  rw [lt_p]
  obtain ⟨M, hM⟩ : ∃ M, NF = M + 1 + 1 + 1 + 1 + 1 := ⟨19995, rfl⟩
  rw [hM, ← n_0, ← sK_all hw hz]
  -- later ages leave the rows of earlier ones
  have sk_n : ∀ k m (Y : Sx), k < m → m ≤ 3 → fK i w k (sK N (hob h0) g0 ask wo i w m Y).2.2.1 = fK i w k Y.2.2.1 := by
    intro k m Y hkm hm
    unfold fK sK
    by_cases c : k ≤ w
    · rw [if_pos c, if_pos c]
      by_cases c2 : m ≤ w
      · rw [if_pos c2, sAge_wt_n (by omega)]
      · rw [if_neg c2]
    · rw [if_neg c, if_neg c]
  have sk_p : ∀ k m (Y : Sx), m < k → fK i w k (sK N (hob h0) g0 ask wo i w m Y).2.2.1 = fK i w k Y.2.2.1 := by
    intro k m Y hkm
    unfold fK sK
    by_cases c : k ≤ w
    · rw [if_pos c, if_pos c, if_pos (by omega), sAge_wt_n (by omega)]
    · rw [if_neg c, if_neg c]
  have sk_le : ∀ m (Y : Sx), (∀ k, Y.2.2.1 k ≤ 1000) → ∀ k, (sK N (hob h0) g0 ask wo i w m Y).2.2.1 k ≤ 1000 := by
    intro m Y hY k
    unfold sK
    split
    · exact Nat.le_trans sAge_wt (hY k)
    · exact hY k
  have h0' := sk_le 0 X hX
  have h1' := sk_le 1 _ h0'
  have h2' := sk_le 2 _ h1'
  refine r_ageK (wo := wo) (w := w) hK hi (by omega) hwo hX hw (hcm 0 (by omega)) hS (fun σ1 g1 => ?_)
  refine r_ageK (wo := wo) (w := w) hK hi (by omega) hwo h0' hw (by rw [sk_p 1 0 X (by omega)]; exact hcm 1 (by omega)) g1 (fun σ2 g2 => ?_)
  refine r_ageK (wo := wo) (w := w) hK hi (by omega) hwo h1' hw (by rw [sk_p 2 1 _ (by omega), sk_p 2 0 _ (by omega)]; exact hcm 2 (by omega)) g2 (fun σ3 g3 => ?_)
  refine r_ageK (wo := wo) (w := w) hK hi (by omega) hwo h2' hw (by rw [sk_p 3 2 _ (by omega), sk_p 3 1 _ (by omega), sk_p 3 0 _ (by omega)]; exact hcm 3 (by omega)) g3 (fun σ4 g4 => ?_)
  unfold zfX12_serve_L2
  rw [if_pos (by decide), ok_s]
  refine g4.cg (fun _ _ => rfl) (fun j hj => ?_) (fun j hj => ?_)
  · have e0 : fK i w 0 (sK N (hob h0) g0 ask wo i w 0 X).2.2.1 = (sK N (hob h0) g0 ask wo i w 3 (sK N (hob h0) g0 ask wo i w 2 (sK N (hob h0) g0 ask wo i w 1 (sK N (hob h0) g0 ask wo i w 0 X)))).2.2.1 (4 * i + w) := by
      rw [← sk_n 0 1 _ (by omega) (by omega), ← sk_n 0 2 _ (by omega) (by omega), ← sk_n 0 3 _ (by omega) (by omega)]
      unfold fK
      rw [if_pos (Nat.zero_le _), Nat.sub_zero]
    rw [← e0]
    unfold gmk
    simp only [show ¬ (1 : Nat) = 0 by omega, show ¬ (2 : Nat) = 0 by omega, show ¬ (3 : Nat) = 0 by omega, if_true, if_false]
    by_cases e : j = i
    · subst e; rw [upd_s, if_pos rfl]
    · rw [upd_n e, if_neg e]
  · have e1 : fK i w 1 (sK N (hob h0) g0 ask wo i w 1 (sK N (hob h0) g0 ask wo i w 0 X)).2.2.1 = fK i w 1 (sK N (hob h0) g0 ask wo i w 3 (sK N (hob h0) g0 ask wo i w 2 (sK N (hob h0) g0 ask wo i w 1 (sK N (hob h0) g0 ask wo i w 0 X)))).2.2.1 := by
      rw [← sk_n 1 2 _ (by omega) (by omega), ← sk_n 1 3 _ (by omega) (by omega)]
    have e2 : fK i w 2 (sK N (hob h0) g0 ask wo i w 2 (sK N (hob h0) g0 ask wo i w 1 (sK N (hob h0) g0 ask wo i w 0 X))).2.2.1 = fK i w 2 (sK N (hob h0) g0 ask wo i w 3 (sK N (hob h0) g0 ask wo i w 2 (sK N (hob h0) g0 ask wo i w 1 (sK N (hob h0) g0 ask wo i w 0 X)))).2.2.1 := by
      rw [← sk_n 2 3 _ (by omega) (by omega)]
    rw [e1, e2]
    generalize (sK N (hob h0) g0 ask wo i w 3 (sK N (hob h0) g0 ask wo i w 2 (sK N (hob h0) g0 ask wo i w 1 (sK N (hob h0) g0 ask wo i w 0 X)))).2.2.1 = wt
    unfold wwk
    simp only [show ¬ (1 : Nat) = 0 by omega, show ¬ (2 : Nat) = 0 by omega, show ¬ (3 : Nat) = 0 by omega, if_true, if_false]
    by_cases c3 : j = 4 * i + 3 - 1
    · rw [c3, upd_s, upd_n (by omega), upd_n (by omega), if_pos (by omega), show 4 * i + 3 - 1 - 4 * i + 1 = 3 by omega]
    · rw [upd_n c3]
      by_cases c2 : j = 4 * i + 2 - 1
      · rw [c2, upd_s, upd_n (by omega), if_pos (by omega), show 4 * i + 2 - 1 - 4 * i + 1 = 2 by omega]
      · rw [upd_n c2]
        by_cases c1 : j = 4 * i + 1 - 1
        · rw [c1, upd_s, if_pos (by omega), show 4 * i + 1 - 1 - 4 * i + 1 = 1 by omega]
        · rw [upd_n c1, if_neg (by omega)]
end
