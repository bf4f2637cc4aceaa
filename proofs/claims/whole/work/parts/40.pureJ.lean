/-! ===== reading a rule, as a whole ===== -/
theorem read_c {σ : Mm} {q : Nat} (hq : zIsR q) : zfX5_read q σ = CL NF 0 (CM (zst σ 46 3 (nI q)) q (nI 0) (-1) (nI 0) (σ (q + 1))) := by
  have hq' := hq
  unfold zIsR at hq'
  unfold zfX5_read zfX3_beginReading_46 CL
  generalize NF = N
  simp only [lt_p, bd_some]
  have e : zst (zst (zst (zst σ 46 1 0) 46 2 (-1)) 46 3 (nI q)) q 2 0 = CM (zst σ 46 3 (nI q)) q (nI 0) (-1) (nI 0) (σ (q + 1)) := by
    refine (CM_ext (σ := zst σ 46 3 (nI q)) hq (fun c h1 h2 h3 => ?_) (fun k h1 h2 => ?_) (fun k h => ?_)).trans ?_
    · rw [zst_n h2, zst_n h1, zst_n h1, zst_n h1, zst_n h1]
    · rw [zst_n (by omega)]
      by_cases h : k = 3
      · subst h; rw [zst_v, zst_v]
      · rw [zst_k h, zst_k h2, zst_k h1, zst_k h]
    · rw [zst_k h, zst_n (by omega), zst_n (by omega), zst_n (by omega), zst_n (by omega)]
    · have a1 : (zst (zst (zst (zst σ 46 1 0) 46 2 (-1)) 46 3 (nI q)) q 2 0) 46 1 = 0 := by rw [zst_n (show 46 ≠ q by omega), zst_k (by decide), zst_k (by decide), zst_v]
      have a2 : (zst (zst (zst (zst σ 46 1 0) 46 2 (-1)) 46 3 (nI q)) q 2 0) 46 2 = -1 := by rw [zst_n (show 46 ≠ q by omega), zst_k (by decide), zst_v]
      have a3 : (zst (zst (zst (zst σ 46 1 0) 46 2 (-1)) 46 3 (nI q)) q 2 0) q 2 = 0 := zst_v
      have a4 : (zst (zst (zst (zst σ 46 1 0) 46 2 (-1)) 46 3 (nI q)) q 2 0) (q + 1) = σ (q + 1) := by rw [zst_n (show q + 1 ≠ q by omega), zst_n (show q + 1 ≠ 46 by omega), zst_n (show q + 1 ≠ 46 by omega), zst_n (show q + 1 ≠ 46 by omega)]
      rw [a1, a2, a3, a4, n_0]
  rw [e, n_0]
def gst (σ : Mm) (c : Nat) (b n : Int32) : Mm := zst (zst (zst (zst (zst (zst σ 703 5 (nI c)) 703 8 b) 703 9 n) 703 13 121) 703 17 0) 703 14 0
theorem gst_c {σ : Mm} {c a : Nat} {b n : Int32} (h : a ≠ 703) : gst σ c b n a = σ a := by
  unfold gst; rw [zst_n h, zst_n h, zst_n h, zst_n h, zst_n h, zst_n h]
theorem gst_k {σ : Mm} {c k : Nat} {b n : Int32} (h : k ≠ 5) (h2 : k ≠ 8) (h3 : k ≠ 9) (h4 : k ≠ 13) (h5 : k ≠ 17) (h6 : k ≠ 14) : gst σ c b n 703 k = σ 703 k := by
  unfold gst; rw [zst_k h6, zst_k h5, zst_k h4, zst_k h3, zst_k h2, zst_k h]
theorem go_r {σ : Mm} {c : Nat} {b n : Int32} : zfX12_goThrough c b n σ = GL NF (RM (gst σ c b n) (nI 0) (-1) (nI 0)) := by
  unfold zfX12_goThrough zfX12_opens GL kG
  generalize NF = N
  simp only [lt_p, bd_some]
  have e : zst (zst (zst (zst (zst (zst (zst (zst (zst σ 703 5 (nI c)) 703 8 b) 703 9 n) 703 10 0) 703 11 (-1)) 703 13 121) 703 12 0) 703 17 0) 703 14 0 = RM (gst σ c b n) (nI 0) (-1) (nI 0) := by
    refine (RM_ext (σ := gst σ c b n) (fun a h => ?_) (fun k h => ?_)).trans ?_
    · rw [gst_c h]; simp only [zst_n h]
    · unfold gst
      by_cases e14 : k = 14
      · subst e14; rw [zst_v, zst_v]
      by_cases e17 : k = 17
      · subst e17; rw [zst_k e14, zst_v, zst_k e14, zst_v]
      by_cases e13 : k = 13
      · subst e13; rw [zst_k e14, zst_k e17, zst_k (by omega), zst_v, zst_k e14, zst_k e17, zst_v]
      rw [zst_k e14, zst_k e17, zst_k (by omega), zst_k e13, zst_k (by omega), zst_k (by omega), zst_k e14, zst_k e17, zst_k e13]
    · have e1 : zst (zst (zst (zst (zst (zst (zst (zst (zst σ 703 5 (nI c)) 703 8 b) 703 9 n) 703 10 0) 703 11 (-1)) 703 13 121) 703 12 0) 703 17 0) 703 14 0 703 10 = nI 0 := by
        rw [zst_k (by decide), zst_k (by decide), zst_k (by decide), zst_k (by decide), zst_k (by decide), zst_v]; rfl
      have e2 : zst (zst (zst (zst (zst (zst (zst (zst (zst σ 703 5 (nI c)) 703 8 b) 703 9 n) 703 10 0) 703 11 (-1)) 703 13 121) 703 12 0) 703 17 0) 703 14 0 703 11 = -1 := by
        rw [zst_k (by decide), zst_k (by decide), zst_k (by decide), zst_k (by decide), zst_v]
      have e3 : zst (zst (zst (zst (zst (zst (zst (zst (zst σ 703 5 (nI c)) 703 8 b) 703 9 n) 703 10 0) 703 11 (-1)) 703 13 121) 703 12 0) 703 17 0) 703 14 0 703 12 = nI 0 := by
        rw [zst_k (by decide), zst_k (by decide), zst_v]; rfl
      rw [e1, e2, e3]
  rw [e]
/-- what the reference's reading of a whole text leaves as it was -/
def FrG (σ τ : Mm) : Prop := (∀ c, c ≠ 703 → τ c = σ c) ∧ ∀ k, (k < 5 ∨ k = 6 ∨ k = 7 ∨ k = 15 ∨ k = 16 ∨ 17 < k) → τ 703 k = σ 703 k
theorem FrR.gst {σ τ : Mm} {c : Nat} {b n : Int32} (h : FrR (gst σ c b n) τ) : FrG σ τ :=
  ⟨fun a ha => (h.1 a ha).trans (gst_c ha), fun k hk => (h.2 k (by omega)).trans (gst_k (by omega) (by omega) (by omega) (by omega) (by omega) (by omega))⟩
theorem lamR_gst {σ : Mm} {c : Nat} {b n : Int32} : lamR (gst σ c b n) = lamR σ := by
  funext k; unfold lamR; rw [gst_c (by decide)]
/-- a text of a rule, read by both: a fault at one place, or clauses -/
def RuleT (t : Nat → Int32) (n : Nat) : Prop :=
  (∃ e, e ≤ n ∧ (∀ σ q, CT σ t n → zIsR q → ∃ τ, zfX5_read q σ = some (nI e, τ) ∧ ∀ c, c ≠ 46 → c ≠ q → c ≠ q + 1 → τ c = σ c) ∧ (∀ σ c b, RT (gst σ c b (nI n)) t n → ∃ τ, zfX12_goThrough c b (nI n) σ = some τ ∧ τ 703 11 = nI e ∧ FrG σ τ)) ∨
  (∃ cs, plen cs ≤ n ∧ (∀ σ q, CT σ t n → zIsR q → ∃ τ, zfX5_read q σ = some (-1, τ) ∧ (∀ c, c ≠ 46 → c ≠ q → c ≠ q + 1 → τ c = σ c) ∧ τ q 2 = nI (plen cs) ∧ τ (q + 1) = wrs (σ (q + 1)) 0 (prg 0 cs)) ∧
    (∀ σ c b, RT (gst σ c b (nI n)) t n → ∃ τ, zfX12_goThrough c b (nI n) σ = some τ ∧ τ 703 11 = -1 ∧ FrG σ τ ∧ (LO σ → PV (lamR σ) cs (τ 703 14))))
theorem rule_rel {t : Nat → Int32} {n : Nat} (ht : ∀ k, k < n → 0 ≤ (t k).toInt ∧ (t k).toInt < 256) (hn : n ≤ 160) : RuleT t n := by
  have h13 : ∀ σ c b, gst σ c b (nI n) 703 13 = 121 := fun σ c b => by unfold gst; rw [zst_k (by decide), zst_k (by decide), zst_v]
  have h17 : ∀ σ c b, gst σ c b (nI n) 703 17 = 0 := fun σ c b => by unfold gst; rw [zst_k (by decide), zst_v]
  have h14 : ∀ σ c b, gst σ c b (nI n) 703 14 = 0 := fun σ c b => by unfold gst; rw [zst_v]
  have hCT : ∀ σ q, CT σ t n → CT (zst σ 46 3 (nI q)) t n := fun σ q h => h.of (zst_n (by decide)) (zst_n (by decide))
  rcases read_loop ht hn n 0 rfl (by omega) 0 NF NF (by omega) (by unfold NF; omega) (by unfold NF; omega) with ⟨e, he, hc, hr⟩ | ⟨cs, hl, hc, hr⟩
  · refine Or.inl ⟨e, he, fun σ q hT hq => ?_, fun σ c b hR => ?_⟩
    · obtain ⟨a, l', f', hE⟩ := hc (zst σ 46 3 (nI q)) q (-1) 0 (σ (q + 1)) (hCT σ q hT) hq zst_v (by omega)
      exact ⟨_, by rw [read_c hq]; exact hE, fun c h1 h2 h3 => by rw [CM_c h1 h2 h3, zst_n h1]⟩
    · obtain ⟨τ, hE, hτ, hF⟩ := hr (gst σ c b (nI n)) hR (h13 σ c b)
      exact ⟨τ, by rw [go_r]; exact hE, hτ, hF.gst⟩
  · refine Or.inr ⟨cs, by omega, fun σ q hT hq => ?_, fun σ c b hR => ?_⟩
    · obtain ⟨a, hE⟩ := hc (zst σ 46 3 (nI q)) q (-1) 0 (σ (q + 1)) (hCT σ q hT) hq zst_v (by omega)
      rw [Nat.zero_add] at hE
      exact ⟨_, by rw [read_c hq]; exact hE, fun c h1 h2 h3 => by rw [CM_c h1 h2 h3, zst_n h1], CM_l hq, CM_f⟩
    · obtain ⟨τ, hE, hτ, hF, hV⟩ := hr (gst σ c b (nI n)) hR (h13 σ c b)
      refine ⟨τ, by rw [go_r]; exact hE, hτ, hF.gst, fun hL => ?_⟩
      have := (hV (fun k hk => by rw [lamR_gst]; exact hL k hk)).2 (h17 σ c b) (h14 σ c b)
      rw [lamR_gst] at this
      exact this
