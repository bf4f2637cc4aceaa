/-! ===== questions that leave all as it is ===== -/
/-- a call of both: the same answer, and all that stays stays -/
def Qy (B : Nat) (F G : Mm → Option (Int32 × Mm)) : Prop := ∀ σ, Iv B σ → Ok (F σ) (fun a => Ok (G a.2) (fun b => b.1 = a.1 ∧ Iv (B + 31) b.2))
theorem q_pure {B : Nat} {F G : Mm → Option (Int32 × Mm)} (h : ∀ P rc s σ, Ivx B P rc s σ → Ok (F σ) (fun a => FrS σ a.2 ∧ ∀ τ, Ivx B P rc s τ → τ = zst a.2 703 0 0 → Ok (G a.2) (fun b => b.1 = a.1 ∧ FrS τ b.2))) : Qy B F G := by
  rintro σ ⟨P, rc, s, hI⟩
  refine ok_mono (h P rc s σ hI) (fun a ha => ?_)
  have fz : FrS a.2 (zst a.2 703 0 0) := ⟨fun c hc => zst_n (by omega), fun k _ => by rw [zst_n (by omega)], fun k hk => zst_k (by omega)⟩
  have hz : Ivx B P rc s (zst a.2 703 0 0) := (hI.fr ha.1).fr fz
  refine ok_mono (ha.2 _ hz rfl) (fun b hb => ⟨hb.1, ?_⟩)
  exact Iv.up ⟨P, rc, s, hz.fr hb.2⟩ (by omega)
theorem cq_walk {B : Nat} {P : Pm} {rc d : Nat} {s σ : Mm} {β : Type} {K : Mm → Option β} {Q : β → Prop} (hB : B < 900000) (hI : Ivx B P rc s σ) (h0 : 0 < pn P) (hd : d ≤ 30)
    (hK : ∀ τ, AgS 69 τ (dys P s d) → τ 68 = nts P s (n0 (s 0 0) (σ 68)) d → FrS σ τ → Ok (K τ) Q) : Ok (bd (zfX10_begin σ) (fun σ14 => bd (zfX10_pass (nI d) σ14) K)) Q := by
  obtain ⟨h1, h2, h3, ⟨r1, r2, r3, r4, r5⟩, ⟨hS, s4⟩, h6⟩ := hI
  rw [ok_bd]
  refine ok_mono (cq_begin h2 h3 r4 hS h0) (fun τ hτ => ?_)
  obtain ⟨b1, b2, b3, b4, b5⟩ := hτ
  obtain ⟨s1, s2, s3, t4, t5, t6⟩ := hS
  rw [ok_bd]
  refine ok_mono (c_pass h2.1 s3 t5 hB t4 b1 b3 b4 (show d ≤ 1000 by omega)) (fun υ hυ => ?_)
  obtain ⟨c1, c2, c3⟩ := hυ
  exact hK υ c1 (by rw [c2, b2]) (b5.trans c3.s)
theorem rq_walk {B : Nat} {P : Pm} {rc d : Nat} {s σ : Mm} {β : Type} {K : Mm → Option β} {Q : β → Prop} (hB : B < 900000) (hI : Ivx B P rc s σ) (h0 : 0 < pn P) (hd : d ≤ 30)
    (hK : ∀ φ, (∀ j, j ≤ d → φ 725 j = dys P s j 0 0) → (∀ j, j < d → φ 726 (j + 1) = (if (dU P 0 (dys P s j)).1 = 0 then 1 else 0)) → (∀ i, i < pm P → φ 723 i = σ 723 i - s 8 i + dys P s d 8 i ∧ φ 724 i = σ 724 i - s 9 i + dys P s d 9 i) → FrS σ φ → Ok (K φ) Q) :
    Ok (bd (zfX12_keep σ) (fun σ16 => bd (zfX12_tries (nI d) σ16) (fun σ21 => bd (zfX12_putBack σ21) K))) Q := by
  obtain ⟨h1, h2, h3, ⟨r1, r2, r3, r4, r5⟩, ⟨hS, s4, s5, s6⟩, h6⟩ := hI
  rw [ok_bd]
  refine ok_mono (rq_keep h2 h3 r5 hS s4 s5 h0) (fun τ hτ => ?_)
  obtain ⟨b1, b2, b3, b4, b5, b6, b7, b8⟩ := hτ
  obtain ⟨s1, s2, s3, t4, t5, t6⟩ := hS
  rw [ok_bd]
  refine ok_mono (r_tries h2.1 h2.2.1 s3 t5 hB t4 t6 b1 b3 h2.2.2.1 b4 b5 (show d ≤ 60 by omega)) (fun υ hυ => ?_)
  obtain ⟨c1, c2, c3, c4, c5⟩ := hυ
  rw [ok_bd]
  refine ok_mono (rq_back b6 b2 c5) (fun φ hφ => ?_)
  obtain ⟨d1, d2⟩ := hφ
  refine hK φ (fun j hj => by rw [d2 725 (by omega)]; exact c2 j hj) (fun j hj => by rw [d2 726 (by omega)]; exact c3 j hj) (fun i hi => ?_) d1
  rw [d2 723 (by omega), d2 724 (by omega), (c4 i hi).1, (c4 i hi).2, b8 723 (by omega) (by omega) (by omega), b8 724 (by omega) (by omega) (by omega)]
  exact ⟨rfl, rfl⟩
theorem q_ahead {B : Nat} (hB : B < 900000) (x : Int32) : Qy B (zfX11_ahead x) (zfX12_ahead x) := by
  refine q_pure (fun P rc s σ hI => ?_)
  unfold zfX11_ahead
  rcases q_days (σ := σ) (τ := σ) x hI.2.1.1.1 hI.2.2.1.1 hI.2.2.1.2.2.1 with ⟨g1, g2, g3, d, g4, g5, g6⟩ | ⟨g1, g2⟩
  · rw [if_pos g1]
    subst g6
    refine cq_walk hB hI g3 g5 (fun τ t1 t2 t3 => ?_)
    rw [ok_s]
    refine ⟨t3, fun υ hυ e => ?_⟩
    unfold zfX12_ahead
    refine ok_lg (fun υ' e' => ?_)
    dsimp only at e e'
    have : υ' = υ := e'.trans e.symm
    subst this
    rcases q_days (σ := υ') (τ := υ') (nI d) hυ.2.1.1.1 hυ.2.2.1.1 hυ.2.2.1.2.2.1 with ⟨k1, k2, _⟩ | ⟨k1, k2⟩
    · rw [if_neg k2]
      refine rq_walk hB hυ g3 g5 (fun φ f1 f2 f3 f4 => ?_)
      rw [ck_t ((n_in (by omega)).mpr (by omega)), ok_s, n_ix (by omega)]
      exact ⟨by rw [f1 d (by omega), t1.1 0 (by omega)], f4⟩
    · exact absurd k2 (by
        rcases q_days (σ := σ) (τ := υ') (nI d) hI.2.1.1.1 hI.2.2.1.1 hυ.2.2.1.2.2.1 with ⟨_, z, _⟩ | ⟨z, _⟩
        · exact z
        · exact absurd g1 z)
  · rw [if_neg g1, ok_s]
    refine ⟨FrS.refl, fun υ hυ e => ?_⟩
    unfold zfX12_ahead
    refine ok_lg (fun υ' e' => ?_)
    dsimp only at e e'
    have : υ' = υ := e'.trans e.symm
    subst this
    rcases q_days (σ := σ) (τ := υ') x hI.2.1.1.1 hI.2.2.1.1 hυ.2.2.1.2.2.1 with ⟨z, _⟩ | ⟨_, z⟩
    · exact absurd z g1
    · rw [if_pos z, ok_s]
      exact ⟨rfl, FrS.refl⟩
