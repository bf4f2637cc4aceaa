/-! ===== the reference reads a market ===== -/
theorem RDa.rm {σ : Mm} {D : MD} {a f d : Int32} (h : RDa σ D) : RDa (RM σ a f d) D := by
  obtain ⟨b1, b2, b3, h1, h2, h3, h4, h5, h6⟩ := h
  exact ⟨b1, b2, b3, by rw [RM_k (by decide)]; exact h1, by rw [RM_k (by decide)]; exact h2, by rw [RM_k (by decide)]; exact h3, fun k hk => by rw [RM_c (by decide)]; exact h4 k hk, fun k hk => by rw [RM_c (by decide)]; exact h5 k hk, fun k hk => by rw [RM_c (by decide)]; exact h6 k hk⟩
def kM (σ110 : Mm) : Option Mm := if (σ110 703 11) = (-1) then (bd2 (zfX12_look σ110) (fun r119 σ119 => lt (fun (σ140 : Mm) => bd2 (zfX12_fails σ140) (fun r141 σ141 => some σ141)) (fun j140 => if r119 = (-1) then (if (σ119 703 26) = 0 then (j140 σ119) else (if (σ119 703 27) = 0 then (j140 σ119) else (some σ119))) else (j140 σ119)))) else (some σ110)
theorem kM_f {σ : Mm} {a f d : Int32} (hf : f ≠ -1) : kM (RM σ a f d) = some (RM σ a f d) := by
  unfold kM; rw [RM_f, if_neg hf]
theorem kM_s {σ : Mm} {t : Nat → Int32} {n p : Nat} {d : Int32} {D : MD} (h : RT σ t n) (hp : p ≤ n) (hD : RDa σ D) : kM (RM σ (nI p) (-1) d) =
    if sg t n (skp t n p) = -1 ∧ 0 < D.1.1 ∧ 0 < D.1.2.1 then some (RM σ (nI (skp t n p)) (-1) d) else some (RM σ (nI (skp t n p)) (nI (skp t n p)) d) := by
  obtain ⟨b1, b2, b3, h1, h2, -⟩ := hD
  unfold kM
  rw [RM_f, if_pos rfl, r_lk h hp, bd2_some]
  simp only [lt_p]
  rw [RM_k (by decide), RM_k (by decide), h1, h2, r_fails, if_pos rfl, bd2_some]
  have q1 : (nI D.1.1 = 0) ↔ D.1.1 = 0 := by rw [show (0 : Int32) = nI 0 from rfl, n_eq (by omega) (by decide)]
  have q2 : (nI D.1.2.1 = 0) ↔ D.1.2.1 = 0 := by rw [show (0 : Int32) = nI 0 from rfl, n_eq (by omega) (by decide)]
  simp only [q1, q2]
  by_cases o : sg t n (skp t n p) = -1
  · rw [if_pos o]
    by_cases c1 : D.1.1 = 0
    · rw [if_pos c1, if_neg (fun q => by have := q.2.1; omega)]
    · rw [if_neg c1]
      by_cases c2 : D.1.2.1 = 0
      · rw [if_pos c2, if_neg (fun q => by have := q.2.2; omega)]
      · rw [if_neg c2, if_pos ⟨o, by omega, by omega⟩]
  · rw [if_neg o, if_neg (fun q => o q.1)]
theorem r_mk {t : Nat → Int32} {n : Nat} (ht : ∀ k, k < n → 0 ≤ (t k).toInt ∧ (t k).toInt < 256) (hn : n ≤ 160) {d : Int32} : ∀ F p fu (σ : Mm) (D : MD), RT σ t n → p ≤ n → RDa σ D → n - p < F → n - p + 2 ≤ fu →
    Ok (zfX12_readMarket_L54 kM fu 1 (RM σ (nI p) (-1) d)) (fun τ => match mkS t n F p D with
      | .error e => τ 703 11 = nI e ∧ e ≤ n ∧ FrN σ τ
      | .ok D1 => τ 703 11 = -1 ∧ RDa τ D1 ∧ FrN σ τ) := by
  intro F
  induction F with
  | zero => intro p fu σ D _ _ _ hF; omega
  | succ F ih =>
  intro p fu σ D h hp hD hF hf
  obtain ⟨fu, rfl⟩ : ∃ g, fu = g + 1 + 1 := ⟨fu - 2, by omega⟩
  have hlt : ∀ k, sg t n k ≠ -1 → k < n := fun k q => Classical.byContradiction fun q2 => q (if_neg q2)
  have stop : ∀ S, zfX12_readMarket_L54 kM (fu + 1) 0 S = kM S := by
    intro S; unfold zfX12_readMarket_L54; rw [if_pos rfl]
  rw [show zfX12_readMarket_L54 kM (fu + 1 + 1) 1 (RM σ (nI p) (-1) d) = bd (zfX12_readClause (RM σ (nI p) (-1) d)) (fun σ67 => if (σ67 703 11) = (-1) then (bd2 (zfX12_look σ67) (fun r79 σ79 => if r79 = 59 then zfX12_readMarket_L54 kM (fu + 1) 1 (zst σ79 703 10 ((σ79 703 10) + 1)) else kM σ79)) else kM σ67) by
    conv => lhs; unfold zfX12_readMarket_L54
    simp only [lt_p, RM_f, if_true, show ¬ (1 : Int32) = 0 by decide, if_false, stop]]
  rw [ok_bd]
  refine ok_mono (r_clm ht hn h hp hD) (fun a ha => ?_)
  unfold mkS
  cases hc : clS t n p D with
  | error e =>
    rw [hc] at ha
    obtain ⟨a1, a2, a3⟩ := ha
    dsimp only
    have hne : ¬ a 703 11 = -1 := by rw [a1]; exact n_ne1 (by omega)
    rw [if_neg hne]
    unfold kM
    rw [if_neg hne, ok_s]
    exact ⟨a1, a2, a3⟩
  | ok y =>
    obtain ⟨p1, D1⟩ := y
    rw [hc] at ha
    obtain ⟨σ', rfl, a3, a4, a5, a6⟩ := ha
    dsimp only
    have hT1 : RT σ' t n := a6.rt h
    have hs1 : p1 ≤ skp t n p1 := skp_ge
    have hs2 : skp t n p1 ≤ n := skp_le a4
    rw [RM_f, if_pos rfl, r_lk hT1 a4, bd2_some]
    by_cases o : sg t n (skp t n p1) = 59
    · have hl := hlt _ (by rw [o]; decide)
      rw [if_pos o, if_pos o, RM_at, RM_sa, show nI (skp t n p1) + 1 = nI (skp t n p1 + 1) from n_add _ 1]
      refine ok_mono (ih (skp t n p1 + 1) (fu + 1) σ' D1 hT1 (by omega) a5 (by omega) (by omega)) (fun b hb => ?_)
      cases hm : mkS t n F (skp t n p1 + 1) D1 with
      | error e => rw [hm] at hb; exact ⟨hb.1, hb.2.1, a6.tr hb.2.2⟩
      | ok D2 => rw [hm] at hb; exact ⟨hb.1, hb.2.1, a6.tr hb.2.2⟩
    · rw [if_neg o, if_neg o, kM_s hT1 hs2 a5, skp_skp]
      by_cases c : sg t n (skp t n p1) = -1 ∧ 0 < D1.1.1 ∧ 0 < D1.1.2.1
      · rw [if_pos c, if_pos c, ok_s]
        exact ⟨RM_f, a5.rm, a6.rm⟩
      · rw [if_neg c, if_neg c, ok_s]
        exact ⟨RM_f, hs2, a6.rm⟩
def FrO (σ τ : Mm) : Prop := (∀ c, c ≠ 703 → c ≠ 711 → c ≠ 712 → c ≠ 713 → τ c = σ c) ∧ (∀ k, (k < 5 ∨ k = 6 ∨ k = 7 ∨ 12 < k ∧ k < 26 ∨ 28 < k) → τ 703 k = σ 703 k)
theorem r_market {t : Nat → Int32} {n : Nat} {σ : Mm} (ht : ∀ k, k < n → 0 ≤ (t k).toInt ∧ (t k).toInt < 256) (hn : n ≤ 160) (h6 : σ 703 6 = nI n) (hT : Tp t (σ 704) n) :
    Ok (zfX12_readMarket σ) (fun τ => match mkS t n 400 0 D0 with
      | .error e => τ 703 11 = nI e ∧ e ≤ n ∧ FrO σ τ
      | .ok D1 => τ 703 11 = -1 ∧ RDa τ D1 ∧ FrO σ τ) := by
  unfold zfX12_readMarket zfX12_opens
  have hNF : 400 < NF := by unfold NF; omega
  generalize NF = N at hNF ⊢
  simp only [lt_p, bd_some]
  rw [h6, show ix 0 = 0 by decide, show ix 1 = 1 by decide]
  generalize hS : zst (zst (zst (zst (zst (zst (zst (zst (zst (zst σ 703 5 (nI 704)) 703 8 0) 703 9 (nI n)) 703 10 0) 703 11 (-1)) 703 26 0) 703 27 0) 703 28 0) 713 0 (zfX12_usual 108 0)) 713 1 (zfX12_usual 108 1) = S
  have c1 : ∀ c, c ≠ 703 → c ≠ 713 → S c = σ c := fun c a b => by rw [← hS]; simp only [zst_n a, zst_n b]
  have g : ∀ k, S 703 k = zst (zst (zst (zst (zst (zst (zst (zst σ 703 5 (nI 704)) 703 8 0) 703 9 (nI n)) 703 10 0) 703 11 (-1)) 703 26 0) 703 27 0) 703 28 0 703 k := fun k => by rw [← hS, zst_n (by decide), zst_n (by decide)]
  have k5 : S 703 5 = nI 704 := by rw [g, zst_k (by decide), zst_k (by decide), zst_k (by decide), zst_k (by decide), zst_k (by decide), zst_k (by decide), zst_k (by decide), zst_v]
  have k8 : S 703 8 = nI 0 := by rw [g, zst_k (by decide), zst_k (by decide), zst_k (by decide), zst_k (by decide), zst_k (by decide), zst_k (by decide), zst_v]; rfl
  have k9 : S 703 9 = nI n := by rw [g, zst_k (by decide), zst_k (by decide), zst_k (by decide), zst_k (by decide), zst_k (by decide), zst_v]
  have k10 : S 703 10 = nI 0 := by rw [g, zst_k (by decide), zst_k (by decide), zst_k (by decide), zst_k (by decide), zst_v]; rfl
  have k11 : S 703 11 = -1 := by rw [g, zst_k (by decide), zst_k (by decide), zst_k (by decide), zst_v]
  have k26 : S 703 26 = nI 0 := by rw [g, zst_k (by decide), zst_k (by decide), zst_v]; rfl
  have k27 : S 703 27 = nI 0 := by rw [g, zst_k (by decide), zst_v]; rfl
  have k28 : S 703 28 = nI 0 := by rw [g, zst_v]; rfl
  have r0 : S 713 0 = zus 6 := by rw [← hS, zst_k (by decide), zst_v]; decide
  have r1 : S 713 1 = zus 7 := by rw [← hS, zst_v]; decide
  have hR : RT S t n := ⟨704, 0, k5, Or.inl ⟨rfl, by omega⟩, k8, k9, fun k hk => by
    have := hT k hk
    rw [c1 704 (by decide) (by decide)]; simp only [Nat.zero_add]; exact this⟩
  have hD : RDa S D0 := ⟨by decide, by decide, by decide, k26, k27, k28, fun k hk => absurd hk (Nat.not_lt_zero k), fun k hk => absurd hk (Nat.not_lt_zero k), fun k hk => by
    have : k = 0 ∨ k = 1 := by omega
    rcases this with rfl | rfl
    · exact r0
    · exact r1⟩
  have hS2 : S = RM S (nI 0) (-1) (S 703 12) := by rw [← k10, ← k11]; exact RM_self.symm
  have hfr : FrO σ S := ⟨fun c a1 a2 a3 a4 => c1 c a1 a4, fun k hk => by
    rw [g]
    rw [zst_k (by omega), zst_k (by omega), zst_k (by omega), zst_k (by omega), zst_k (by omega), zst_k (by omega), zst_k (by omega), zst_k (by omega)]⟩
  have L := r_mk ht hn (d := S 703 12) 400 0 N S D0 hR (by omega) hD (by omega) (by omega)
  rw [← hS2] at L
  refine ok_mono L (fun τ hτ => ?_)
  have tr : FrN S τ → FrO σ τ := fun h => ⟨fun c a1 a2 a3 a4 => (h.1 c a1 a2 a3 a4).trans (hfr.1 c a1 a2 a3 a4), fun k hk => (h.2 k (by omega)).trans (hfr.2 k hk)⟩
  cases hm : mkS t n 400 0 D0 with
  | error e => rw [hm] at hτ; exact ⟨hτ.1, hτ.2.1, tr hτ.2.2⟩
  | ok D2 => rw [hm] at hτ; exact ⟨hτ.1, hτ.2.1, tr hτ.2.2⟩
