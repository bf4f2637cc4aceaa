/-! ===== gates, and falls ===== -/
theorem q_days2 {σ τ : Mm} {n : Nat} {x : Int32} (hn : n ≤ 5) (h1 : σ 3 0 = nI n) (h2 : τ 703 24 = nI n) : (zfX11_noDays x σ = 0 → (¬ zfX12_isReady x τ = 0) ∧ 0 < n ∧ ∃ d, 1 ≤ d ∧ d ≤ 30 ∧ x = nI d) ∧ (¬ zfX11_noDays x σ = 0 → zfX12_isReady x τ = 0) := by
  rcases q_days x hn h1 h2 with ⟨a, b, c⟩ | ⟨a, b⟩
  · exact ⟨fun _ => ⟨b, c⟩, fun h => absurd a h⟩
  · exact ⟨fun h => absurd h a, fun _ => b⟩
theorem q_what2 {x : Int32} (m : Nat) (hm : m < 100) : (zfX11_noWhat x (nI m) = 0 → (¬ zfX12_isIn x.toInt64 (Int32.toInt64 0) (Int32.toInt64 (nI m)) = 0) ∧ ∃ d, d ≤ m ∧ x = nI d) ∧ (¬ zfX11_noWhat x (nI m) = 0 → zfX12_isIn x.toInt64 (Int32.toInt64 0) (Int32.toInt64 (nI m)) = 0) := by
  rcases q_what x m hm with ⟨a, b, c⟩ | ⟨a, b⟩
  · exact ⟨fun _ => ⟨b, c⟩, fun h => absurd a h⟩
  · exact ⟨fun h => absurd h a, fun _ => b⟩
theorem q_what1 {x : Int32} : (zfX11_noWhat x 1 = 0 → (¬ zfX12_isIn x.toInt64 0 1 = 0) ∧ (x = 0 ∨ x = 1)) ∧ (¬ zfX11_noWhat x 1 = 0 → zfX12_isIn x.toInt64 0 1 = 0) := by
  have h := q_what2 (x := x) 1 (by omega)
  refine ⟨fun g => ⟨(h.1 g).1, ?_⟩, h.2⟩
  obtain ⟨d, h1, h2⟩ := (h.1 g).2
  have : d = 0 ∨ d = 1 := by omega
  rcases this with rfl | rfl
  · exact Or.inl h2
  · exact Or.inr h2
theorem Ivx.n {B : Nat} {P : Pm} {rc : Nat} {s σ : Mm} (h : Ivx B P rc s σ) : pn P ≤ 5 ∧ σ 3 0 = nI (pn P) ∧ σ 703 24 = nI (pn P) := ⟨h.2.1.1.1, h.2.2.1.1, h.2.2.1.2.2.1⟩
theorem Ivx.st {B : Nat} {P : Pm} {rc : Nat} {s σ : Mm} (h : Ivx B P rc s σ) : WFp P ∧ WFs P s ∧ sm B (s 0 1) := ⟨h.2.1.1, h.2.2.2.2.1.1.2.2.1, h.2.2.2.2.1.1.2.2.2.2.1⟩
theorem q_falls {B : Nat} (hB : B < 900000) (x y : Int32) : Qy B (zfX11_falls x y) (zfX12_falls x y) := by
  refine q_pure (fun P rc s σ hI => ?_)
  have hd := fun (τ : Mm) (hτ : Ivx B P rc s τ) => q_days2 (σ := σ) (τ := τ) (x := x) hI.n.1 hI.n.2.1 hτ.n.2.2
  have hw := q_what1 (x := y)
  have no : (¬ zfX11_noDays x σ = 0 ∨ ¬ zfX11_noWhat y 1 = 0) → ∀ υ, Ivx B P rc s υ → υ = zst σ 703 0 0 → Ok (zfX12_falls x y σ) (fun b => b.1 = -1 ∧ FrS υ b.2) := fun h υ hυ e => by
    unfold zfX12_falls
    refine ok_lg (fun υ' e' => ?_)
    have : υ' = υ := e'.trans e.symm
    subst this
    refine ok_lg (fun J hJ => ?_)
    have fin : Ok (J υ') (fun b => b.1 = -1 ∧ FrS υ' b.2) := by
      simp only [hJ]
      rw [ok_s]
      exact ⟨rfl, FrS.refl⟩
    by_cases c : zfX12_isReady x υ' = 0
    · rw [if_pos c]; exact fin
    · rw [if_neg c]
      have c1 : zfX11_noDays x σ = 0 := Classical.byContradiction fun h => c ((hd υ' hυ).2 h)
      have c2 : ¬ zfX11_noWhat y 1 = 0 := h.resolve_left (fun h => h c1)
      rw [if_pos (hw.2 c2)]; exact fin
  unfold zfX11_falls
  refine ok_lg (fun J hJ => ?_)
  have fin : (¬ zfX11_noDays x σ = 0 ∨ ¬ zfX11_noWhat y 1 = 0) → Ok (J σ) (fun a => FrS σ a.2 ∧ ∀ τ, Ivx B P rc s τ → τ = zst a.2 703 0 0 → Ok (zfX12_falls x y a.2) (fun b => b.1 = a.1 ∧ FrS τ b.2)) := fun h => by
    simp only [hJ]
    rw [ok_s]
    exact ⟨FrS.refl, no h⟩
  by_cases c1 : zfX11_noDays x σ = 0
  case neg => rw [if_neg c1]; exact fin (Or.inl c1)
  case pos =>
  rw [if_pos c1]
  by_cases c2 : zfX11_noWhat y 1 = 0
  case neg => rw [if_neg c2]; exact fin (Or.inr c2)
  case pos =>
  rw [if_pos c2]
  obtain ⟨_, h0, d, d1, d2, d3⟩ := (hd σ hI).1 c1
  subst d3
  refine cq_walk hB hI h0 d2 (fun τ t1 t2 t3 => ?_)
  have hst := hI.st
  have nf := n_falls (R := σ 68) hst.1 hst.2.1 hst.2.2 hB d (by omega)
  have hbd : ∀ j, j ≤ d → 0 ≤ bdI P s j ∧ bdI P s j ≤ 20 := fun j hj => by
    have h := sm_to (B := 20) (dys_wf hst.1 hst.2.1 hst.2.2 hB j (by omega)).1.1 (by omega); exact ⟨h.1, h.2⟩
  have yes : ∀ v : Int32, (y = 0 → v = nI (jct P s d)) → (y ≠ 0 → v = nts P s (n0 (s 0 0) (σ 68)) d 5) → ∀ υ, Ivx B P rc s υ → υ = zst τ 703 0 0 → Ok (zfX12_falls (nI d) y τ) (fun b => b.1 = v ∧ FrS υ b.2) := fun v v0 v1 υ hυ e => by
    unfold zfX12_falls
    refine ok_lg (fun υ' e' => ?_)
    have : υ' = υ := e'.trans e.symm
    subst this
    refine ok_lg (fun J hJ => ?_)
    rw [if_neg ((hd υ' hυ).1 c1).1, if_neg (hw.1 c2).1]
    refine rq_walk hB hυ h0 d2 (fun φ f1 f2 f3 f4 => ?_)
    by_cases c : y = 0
    · rw [if_pos c, ok_bd]
      refine ok_mono (r_jumps (P := P) (s := s) (by omega) f2) (fun r hr => ?_)
      rw [ok_s]
      exact ⟨by rw [hr, v0 c], f4⟩
    · rw [if_neg c]
      refine ok_lg (fun K hK => ?_)
      refine r_falls53 d2 hbd f1 f2 (fun w h => ?_)
      simp only [hK]
      rw [ok_s]
      refine ⟨?_, f4⟩
      rw [v1 c]
      exact Int32.toInt_inj.mp (h.uniq nf.2.1 (fun i j _ => Iff.rfl))
  by_cases c : y = 0
  · rw [if_pos c, ok_s]
    exact ⟨t3, fun υ hυ e => yes _ (fun _ => by rw [t2]; exact nf.1) (fun h => absurd c h) υ hυ e⟩
  · rw [if_neg c, ok_s]
    exact ⟨t3, fun υ hυ e => yes _ (fun h => absurd h c) (fun _ => by rw [t2]) υ hυ e⟩
