/-! ===== fault ===== -/
theorem iv_tape {σ : Mm} (h : IvT σ) : ∃ (n : Nat) (t : Nat → Int32), n ≤ 160 ∧ σ 1 1 = nI n ∧ σ 703 6 = nI n ∧ (∀ k, k < n → 0 ≤ (t k).toInt ∧ (t k).toInt < 256) ∧ (∀ τ, τ 1 = σ 1 → τ 2 = σ 2 → CT τ t n) ∧ Tp t (σ 704) n ∧ (∀ τ, τ 704 = σ 704 → RT (gst τ 704 0 (nI n)) t n) := by
  obtain ⟨n, t, h1, h2, h3, h4, h5⟩ := h
  refine ⟨n, t, h1, h2, h3, fun k hk => ⟨(h4 k hk).1, (h4 k hk).2.1⟩, fun τ e1 e2 => ⟨by rw [e1]; exact h2, h1, fun k hk => by rw [e2]; exact (h4 k hk).2.2⟩, h5, fun τ e => ⟨704, 0, ?_, Or.inl ⟨rfl, by omega⟩, ?_, ?_, fun k hk => ?_⟩⟩
  · unfold gst; rw [zst_k (by omega), zst_k (by omega), zst_k (by omega), zst_k (by omega), zst_k (by omega), zst_v]
  · unfold gst; rw [zst_k (by omega), zst_k (by omega), zst_k (by omega), zst_k (by omega), zst_v]; rfl
  · unfold gst; rw [zst_k (by omega), zst_k (by omega), zst_k (by omega), zst_v]
  · dsimp only
    rw [gst_c (by omega), e, Nat.zero_add]; exact h5 k hk
theorem q_sort01 {x : Int32} : (zfX12_isIn x.toInt64 0 1 = 0 ↔ (x ≠ 0 ∧ x ≠ 1)) := by
  have hin : zfX12_isIn x.toInt64 0 1 = if x < 0 ∨ 1 < x then 0 else 1 := r_isIn (a := 0) (b := 1)
  rw [hin]
  have e0 : x < 0 ↔ x.toInt < 0 := by rw [Int32.lt_iff_toInt_lt]; exact Iff.rfl
  have e2 : (1 : Int32) < x ↔ 1 < x.toInt := by rw [Int32.lt_iff_toInt_lt]; exact Iff.rfl
  have z0 : x = 0 ↔ x.toInt = 0 := by rw [← Int32.toInt_inj]; exact Iff.rfl
  have z1 : x = 1 ↔ x.toInt = 1 := by rw [← Int32.toInt_inj]; exact Iff.rfl
  by_cases c : x.toInt < 0 ∨ 1 < x.toInt
  · rw [if_pos (by rw [e0, e2]; exact c)]; exact ⟨fun _ => ⟨fun h => by have := z0.mp h; omega, fun h => by have := z1.mp h; omega⟩, fun _ => rfl⟩
  · rw [if_neg (by rw [e0, e2]; exact c)]
    refine ⟨fun h => absurd h (by decide), fun h => ?_⟩
    have h0 : ¬ x.toInt = 0 := fun e => h.1 (z0.mpr e)
    have h1 : ¬ x.toInt = 1 := fun e => h.2 (z1.mpr e)
    omega
theorem FrX.s {σ τ : Mm} (h : FrX 47 σ τ) : FrS σ τ :=
  ⟨fun c hc => h c (by omega) (by omega) (by omega) (by omega), fun k _ => by rw [h 714 (by omega) (by omega) (by omega) (by omega)], fun k _ => by rw [h 703 (by omega) (by omega) (by omega) (by omega)]⟩
theorem FrO.s {σ τ : Mm} (h : FrO σ τ) : FrS σ τ :=
  ⟨fun c hc => h.1 c (by omega) (by omega) (by omega) (by omega), fun k _ => by rw [h.1 714 (by omega) (by omega) (by omega) (by omega)], fun k hk => h.2 k (by omega)⟩
theorem FrG.s {σ τ : Mm} (h : FrG σ τ) : FrS σ τ :=
  ⟨fun c hc => h.1 c (by omega), fun k _ => by rw [h.1 714 (by omega)], fun k hk => h.2 k (by omega)⟩
theorem r_fault0 {n : Nat} {t : Nat → Int32} {σ : Mm} (ht : ∀ k, k < n → 0 ≤ (t k).toInt ∧ (t k).toInt < 256) (hn : n ≤ 160) (h6 : σ 703 6 = nI n) (hT : Tp t (σ 704) n) :
    Ok (zfX12_fault 0 σ) (fun b => match mkS t n 400 0 D0 with
      | .error e => b.1 = nI e ∧ e ≤ n ∧ FrO (zst σ 703 0 0) b.2
      | .ok D1 => b.1 = -1 ∧ RDa b.2 D1 ∧ FrO (zst σ 703 0 0) b.2) := by
  unfold zfX12_fault
  refine ok_lg (fun υ e => ?_)
  rw [if_neg (fun h => (q_sort01.mp h).1 rfl)]
  refine ok_lg (fun J hJ => ?_)
  rw [if_pos rfl, ok_bd]
  refine ok_mono (r_market (σ := υ) ht hn (by rw [e, zst_k (by omega)]; exact h6) (by rw [e, zst_n (by omega)]; exact hT)) (fun τ hτ => ?_)
  simp only [hJ]
  rw [ok_s]
  dsimp only
  rw [← e]
  cases hm : mkS t n 400 0 D0 with
  | error e => rw [hm] at hτ; exact hτ
  | ok D => rw [hm] at hτ; exact hτ
theorem q_fault {B : Nat} (x : Int32) : Qy B (zfX11_fault x) (zfX12_fault x) := by
  refine q_pure (fun P rc s σ hI => ?_)
  obtain ⟨n, t, hn, h1, h6, ht, hc, hT, hR⟩ := iv_tape hI.1
  unfold zfX11_fault
  by_cases c0 : x = 0
  · subst c0
    rw [if_pos rfl, ok_bd2]
    refine ok_mono (c_market (q := 47) ht (Or.inr rfl) (hc σ rfl rfl)) (fun a ha => ?_)
    rw [ok_s]
    have fr : FrX 47 σ a.2 := by
      cases hm : mkS t n 400 0 D0 with
      | error e => rw [hm] at ha; exact ha.2.2
      | ok D => rw [hm] at ha; exact ha.2.2
    refine ⟨fr.s, fun υ hυ e => ?_⟩
    dsimp only at e ⊢
    refine ok_mono (r_fault0 (σ := a.2) ht hn (by rw [fr 703 (by omega) (by omega) (by omega) (by omega)]; exact h6) (by rw [fr 704 (by omega) (by omega) (by omega) (by omega)]; exact hT)) (fun b hb => ?_)
    rw [← e] at hb
    cases hm : mkS t n 400 0 D0 with
    | error e => rw [hm] at ha hb; exact ⟨hb.1.trans ha.1.symm, hb.2.2.s⟩
    | ok D => rw [hm] at ha hb; exact ⟨hb.1.trans ha.1.symm, hb.2.2.s⟩
  rw [if_neg c0]
  by_cases c1 : x = 1
  · subst c1
    rw [if_pos rfl, ok_bd2]
    have hRu := rule_rel ht hn
    have key : ∀ (v : Int32) (τ : Mm), (∀ c, c ≠ 46 → c ≠ 55 → c ≠ 55 + 1 → τ c = σ c) → (∀ υ, υ 704 = σ 704 → ∃ φ, zfX12_goThrough 704 0 (nI n) υ = some φ ∧ φ 703 11 = v ∧ FrG υ φ) → FrS σ τ ∧ ∀ υ, Ivx B P rc s υ → υ = zst τ 703 0 0 → Ok (zfX12_fault 1 τ) (fun b => b.1 = v ∧ FrS υ b.2) := fun v τ fr h => by
      refine ⟨⟨fun c hc => fr c (by omega) (by omega) (by omega), fun k _ => by rw [fr 714 (by omega) (by omega) (by omega)], fun k _ => by rw [fr 703 (by omega) (by omega) (by omega)]⟩, fun υ hυ e => ?_⟩
      unfold zfX12_fault
      refine ok_lg (fun υ' e' => ?_)
      have : υ' = υ := e'.trans e.symm
      subst this
      rw [if_neg (fun h => (q_sort01.mp h).2 rfl)]
      refine ok_lg (fun J hJ => ?_)
      rw [if_neg (by decide), show υ' 703 6 = nI n by rw [e, zst_k (by omega), fr 703 (by omega) (by omega) (by omega)]; exact h6, ok_bd]
      obtain ⟨φ, k1, k2, k3⟩ := h υ' (by rw [e, zst_n (by omega), fr 704 (by omega) (by omega) (by omega)])
      rw [k1, ok_s]
      simp only [hJ]
      rw [ok_s]
      exact ⟨k2, k3.s⟩
    rcases hRu with ⟨e, he, r1, r2⟩ | ⟨cs, hl, r1, r2⟩
    · obtain ⟨τ, k1, k2⟩ := r1 σ 55 (hc σ rfl rfl) (by decide)
      rw [k1, ok_s, ok_s]
      exact key _ τ k2 (fun υ hυ => r2 υ 704 0 (hR υ hυ))
    · obtain ⟨τ, k1, k2, k3⟩ := r1 σ 55 (hc σ rfl rfl) (by decide)
      rw [k1, ok_s, ok_s]
      refine key _ τ k2 (fun υ hυ => ?_)
      obtain ⟨φ, l1, l2, l3, l4⟩ := r2 υ 704 0 (hR υ hυ)
      exact ⟨φ, l1, l2, l3⟩
  rw [if_neg c1, ok_s]
  refine ⟨FrS.refl, fun υ hυ e => ?_⟩
  dsimp only at e ⊢
  unfold zfX12_fault
  refine ok_lg (fun υ' e' => ?_)
  have : υ' = υ := e'.trans e.symm
  subst this
  rw [if_pos (q_sort01.mpr ⟨c0, c1⟩), ok_s]
  exact ⟨rfl, FrS.refl⟩
