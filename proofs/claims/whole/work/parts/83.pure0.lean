/-! ===== served ===== -/
theorem Kp.fr {P : Pm} {rc B : Nat} {s τ0 τ : Mm} (h : Kp P rc B s τ0) (f : FrT τ0 τ) : Kp P rc B s τ := by
  obtain ⟨h1, h2, h3, h4, h5, h6, h7, h8, h9⟩ := h
  exact ⟨h1, h2, h3, h4, h5, h6, h7.fr f rfl rfl, by rw [f.1 43 (by omega)]; exact h8, h9.fr f⟩
theorem Kp.tries {P : Pm} {rc B d : Nat} {s τ0 : Mm} (h : Kp P rc B s τ0) (hA : RRs P τ0 s) (hd : d ≤ 60) :
    Ok (zfX12_tries (nI d) τ0) (fun τ => RRs P τ (dys P s d) ∧ (∀ j, j ≤ d → τ 725 j = dys P s j 0 0) ∧ (∀ j, j < d → τ 726 (j + 1) = (if (dU P 0 (dys P s j)).1 = 0 then 1 else 0)) ∧
      (∀ i, i < pm P → τ 723 i = τ0 723 i - s 8 i + dys P s d 8 i ∧ τ 724 i = τ0 724 i - s 9 i + dys P s d 9 i) ∧ FrT τ0 τ) := by
  obtain ⟨h1, h2, h3, h4, h5, h6, h7, h8, h9⟩ := h
  exact r_tries h1.1 h1.2.1 h2 h3 h4 h5 h6 hA h7 h1.2.2.1 h8 h9 hd
theorem RRs.fr14 {P : Pm} {σ τ s : Mm} (h : RRs P σ s) (e : τ 714 = σ 714) : RRs P τ s := by
  unfold RRs
  rw [e]; exact h
theorem q_sort {σ τ : Mm} {m : Nat} {x : Int32} (hm : m ≤ 6) (h1 : σ 3 1 = nI m) (h2 : τ 703 25 = nI m) :
    (¬ zfX11_isSort x σ = 0 → (¬ zfX12_isIn x.toInt64 0 (Int32.toInt64 ((τ 703 25) - 1)) = 0) ∧ ∃ i, i < m ∧ x = nI i) ∧ (zfX11_isSort x σ = 0 → zfX12_isIn x.toInt64 0 (Int32.toInt64 ((τ 703 25) - 1)) = 0) := by
  unfold zfX11_isSort
  simp only [lt_p]
  rw [h1, h2, show (0 : Int64) = Int32.toInt64 0 from rfl, r_isIn]
  have e0 : x < 0 ↔ x.toInt < 0 := by rw [Int32.lt_iff_toInt_lt]; exact Iff.rfl
  have em : nI m ≤ x ↔ (m : Int) ≤ x.toInt := by rw [Int32.le_iff_toInt_le, n_ti (by omega)]
  have em2 : nI m - 1 < x ↔ (m : Int) - 1 < x.toInt := by
    have : (nI m - 1).toInt = (m : Int) - 1 := by
      have e : ((2 ^ 32 : Nat) : Int) = 4294967296 := rfl
      have e1 : (1 : Int32).toInt = 1 := rfl
      rw [Int32.toInt_sub, n_ti (by omega), e1, Int.bmod_eq_of_le (by omega) (by omega)]
    rw [Int32.lt_iff_toInt_lt, this]
  by_cases c1 : x < 0
  · rw [if_pos c1, if_pos (Or.inl c1)]
    exact ⟨fun h => absurd rfl h, fun _ => rfl⟩
  · rw [if_neg c1]
    have h0 : ¬ x.toInt < 0 := fun h => c1 (e0.mpr h)
    by_cases c2 : nI m ≤ x
    · have h4 : nI m - 1 < x := em2.mpr (by have := em.mp c2; omega)
      rw [if_pos c2, if_pos (Or.inr h4)]
      exact ⟨fun h => absurd rfl h, fun _ => rfl⟩
    · have h3 : ¬ (m : Int) ≤ x.toInt := fun h => c2 (em.mpr h)
      have h4 : ¬ nI m - 1 < x := fun h => by have := em2.mp h; omega
      rw [if_neg c2, if_neg (by rintro (h | h); exact c1 h; exact h4 h)]
      refine ⟨fun _ => ⟨by decide, ix x, ?_, n_of (by omega)⟩, fun h => absurd h (by decide)⟩
      unfold ix Int32.toNatClampNeg; omega
theorem q_served {B : Nat} (hB : B < 900000) (w x y : Int32) : Qy B (zfX11_served w x y) (zfX12_served w x y) := by
  refine q_pure (fun P rc s σ hI => ?_)
  have hd := fun (τ : Mm) (hτ : Ivx B P rc s τ) => q_days2 (σ := σ) (τ := τ) (x := x) hI.n.1 hI.n.2.1 hτ.n.2.2
  have hw := q_what1 (x := y)
  have hm := hI.2.1.1.2.1
  have hs := fun (τ : Mm) (hτ : Ivx B P rc s τ) => q_sort (σ := σ) (τ := τ) (x := w) hm hI.2.2.1.2.1 hτ.2.2.1.2.2.2.1
  have no : (zfX11_isSort w σ = 0 ∨ ¬ zfX11_noDays x σ = 0 ∨ ¬ zfX11_noWhat y 1 = 0) → ∀ υ, Ivx B P rc s υ → υ = zst σ 703 0 0 → Ok (zfX12_served w x y σ) (fun b => b.1 = -1 ∧ FrS υ b.2) := fun h υ hυ e => by
    unfold zfX12_served
    refine ok_lg (fun υ' e' => ?_)
    have : υ' = υ := e'.trans e.symm
    subst this
    refine ok_lg (fun J hJ => ?_)
    have fin : Ok (J υ') (fun b => b.1 = -1 ∧ FrS υ' b.2) := by
      simp only [hJ]
      rw [ok_s]
      exact ⟨rfl, FrS.refl⟩
    by_cases c : zfX12_isReady x υ' = 0
    · rw [if_pos c]; exact fin
    · rw [if_neg c]
      have c1 : zfX11_noDays x σ = 0 := Classical.byContradiction fun h => c ((hd υ' hυ).2 h)
      by_cases c2 : zfX12_isIn w.toInt64 0 (Int32.toInt64 ((υ' 703 25) - 1)) = 0
      · rw [if_pos c2]; exact fin
      · rw [if_neg c2]
        have c3 : ¬ zfX11_isSort w σ = 0 := fun h => c2 ((hs υ' hυ).2 h)
        have c4 : ¬ zfX11_noWhat y 1 = 0 := (h.resolve_left c3).resolve_left (fun h => h c1)
        rw [if_pos (hw.2 c4)]; exact fin
  unfold zfX11_served
  refine ok_lg (fun J hJ => ?_)
  have fin : (zfX11_isSort w σ = 0 ∨ ¬ zfX11_noDays x σ = 0 ∨ ¬ zfX11_noWhat y 1 = 0) → Ok (J σ) (fun a => FrS σ a.2 ∧ ∀ τ, Ivx B P rc s τ → τ = zst a.2 703 0 0 → Ok (zfX12_served w x y a.2) (fun b => b.1 = a.1 ∧ FrS τ b.2)) := fun h => by
    simp only [hJ]
    rw [ok_s]
    exact ⟨FrS.refl, no h⟩
  by_cases c0 : zfX11_isSort w σ = 0
  case pos => rw [if_pos c0]; exact fin (Or.inl c0)
  case neg =>
  rw [if_neg c0]
  by_cases c1 : zfX11_noDays x σ = 0
  case neg => rw [if_neg c1]; exact fin (Or.inr (Or.inl c1))
  case pos =>
  rw [if_pos c1]
  by_cases c2 : zfX11_noWhat y 1 = 0
  case neg => rw [if_neg c2]; exact fin (Or.inr (Or.inr c2))
  case pos =>
  rw [if_pos c2]
  obtain ⟨_, h0, d, d1, d2, d3⟩ := (hd σ hI).1 c1
  subst d3
  obtain ⟨_, i, i1, i2⟩ := (hs σ hI).1 c0
  subst i2
  refine cq_walk hB hI h0 d2 (fun τ t1 t2 t3 => ?_)
  have hin : inb (nI i) 6 := (n_in (by omega)).mpr (by omega)
  have e8 : τ 77 i - τ 35 i = dys P s d 8 i - s 8 i := by
    rw [t3.1 35 (Or.inr (Or.inl ⟨by omega, by omega, stk_n (by omega)⟩)), t1.2.2.2.1 8 i (by omega) (by omega), hI.2.2.2.2.1.1.1.2.2.2.1 8 i (by omega) (by omega)]
  have e9 : τ 78 i - τ 36 i = dys P s d 9 i - s 9 i := by
    rw [t3.1 36 (Or.inr (Or.inl ⟨by omega, by omega, stk_n (by omega)⟩)), t1.2.2.2.1 9 i (by omega) (by omega), hI.2.2.2.2.1.1.1.2.2.2.1 9 i (by omega) (by omega)]
  have yes : ∀ v : Int32, v = (if y = 0 then dys P s d 8 i - s 8 i else dys P s d 9 i - s 9 i) → ∀ υ, Ivx B P rc s υ → υ = zst τ 703 0 0 → Ok (zfX12_served (nI i) (nI d) y τ) (fun b => b.1 = v ∧ FrS υ b.2) := fun v hv υ hυ e => by
    unfold zfX12_served
    refine ok_lg (fun υ' e' => ?_)
    have : υ' = υ := e'.trans e.symm
    subst this
    refine ok_lg (fun J hJ => ?_)
    rw [if_neg ((hd υ' hυ).1 c1).1, if_neg ((hs υ' hυ).1 c0).1, if_neg (hw.1 c2).1]
    refine rq_kept hB hυ h0 (fun τ0 k1 k2 k3 k4 k5 => ?_)
    rw [ck_t hin]
    refine ok_lg (fun τ1 u1 => ?_)
    rw [ck_t hin]
    refine ok_lg (fun τ2 u2 => ?_)
    rw [n_ix (by omega)] at u1 u2
    have f2 : FrT τ0 τ2 := ⟨fun x _ => by rw [u2, zst_n (by omega), u1, zst_n (by omega)], fun c _ _ _ _ _ _ _ _ a b _ _ => by rw [u2, zst_n b, u1, zst_n a]⟩
    rw [ok_bd]
    refine ok_mono ((k1.fr f2).tries (k2.fr14 (by rw [u2, zst_n (by omega), u1, zst_n (by omega)])) (show d ≤ 60 by omega)) (fun φ hφ => ?_)
    obtain ⟨g1, g2, g3, g4, g5⟩ := hφ
    rw [ok_bd]
    refine ok_mono (rq_back k4 k3 (f2.trans g5)) (fun ψ hψ => ?_)
    obtain ⟨m1, m2⟩ := hψ
    have z3 : τ2 723 i = 0 := by rw [u2, zst_n (by omega), u1, zst_v]
    have z4 : τ2 724 i = 0 := by rw [u2, zst_v]
    rw [hv]
    by_cases c : y = 0
    · rw [if_pos c, if_pos c, ck_t hin, ok_s, n_ix (by omega), m2 723 (by omega), (g4 i i1).1, z3]
      exact ⟨by dsimp only; grind, m1⟩
    · rw [if_neg c, if_neg c, ck_t hin, ok_s, n_ix (by omega), m2 724 (by omega), (g4 i i1).2, z4]
      exact ⟨by dsimp only; grind, m1⟩
  by_cases c : y = 0
  · rw [if_pos c, ck_t hin, ck_t hin, ok_s, n_ix (by omega)]
    exact ⟨t3, yes _ (by rw [if_pos c]; exact e8)⟩
  · rw [if_neg c, ck_t hin, ck_t hin, ok_s, n_ix (by omega)]
    exact ⟨t3, yes _ (by rw [if_neg c]; exact e9)⟩
