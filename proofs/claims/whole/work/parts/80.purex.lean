/-! ===== questions of days and a what; spread ===== -/
theorem q_gate1 {B : Nat} (x y : Int32) {F G C R : Mm → Option (Int32 × Mm)}
    (hF : ∀ σ, F σ = lt (fun (σ16 : Mm) => some ((-1), σ16)) (fun j16 => if (zfX11_noDays x σ) = 0 then (if (zfX11_noWhat y 1) = 0 then C σ else (j16 σ)) else (j16 σ)))
    (hG : ∀ σ, G σ = lt (zst σ 703 0 0) (fun σ2 => lt (fun (σ23 : Mm) => some ((-1), σ23)) (fun j23 => if (zfX12_isReady x σ2) = 0 then (j23 σ2) else (if (zfX12_isIn (Int32.toInt64 y) 0 1) = 0 then (j23 σ2) else R σ2))))
    (h : ∀ P rc s σ d, Ivx B P rc s σ → 0 < pn P → 1 ≤ d → d ≤ 30 → x = nI d → (y = 0 ∨ y = 1) → Ok (C σ) (fun a => FrS σ a.2 ∧ ∀ υ, Ivx B P rc s υ → Ok (R υ) (fun b => b.1 = a.1 ∧ FrS υ b.2))) : Qy B F G := by
  refine q_pure (fun P rc s σ hI => ?_)
  have hd := fun (τ : Mm) (hτ : Ivx B P rc s τ) => q_days2 (σ := σ) (τ := τ) (x := x) hI.n.1 hI.n.2.1 hτ.n.2.2
  have hw := q_what1 (x := y)
  have no : (¬ zfX11_noDays x σ = 0 ∨ ¬ zfX11_noWhat y 1 = 0) → ∀ υ, Ivx B P rc s υ → υ = zst σ 703 0 0 → Ok (G σ) (fun b => b.1 = -1 ∧ FrS υ b.2) := fun h υ hυ e => by
    rw [hG]
    refine ok_lg (fun υ' e' => ?_)
    have : υ' = υ := e'.trans e.symm
    subst this
    refine ok_lg (fun J hJ => ?_)
    have fin : Ok (J υ') (fun b => b.1 = -1 ∧ FrS υ' b.2) := by
      simp only [hJ]
      rw [ok_s]
      exact ⟨rfl, FrS.refl⟩
    by_cases c : zfX12_isReady x υ' = 0
    · rw [if_pos c]; exact fin
    · rw [if_neg c]
      have c1 : zfX11_noDays x σ = 0 := Classical.byContradiction fun h => c ((hd υ' hυ).2 h)
      have c2 : ¬ zfX11_noWhat y 1 = 0 := h.resolve_left (fun h => h c1)
      rw [if_pos (hw.2 c2)]; exact fin
  rw [hF]
  refine ok_lg (fun J hJ => ?_)
  have fin : (¬ zfX11_noDays x σ = 0 ∨ ¬ zfX11_noWhat y 1 = 0) → Ok (J σ) (fun a => FrS σ a.2 ∧ ∀ τ, Ivx B P rc s τ → τ = zst a.2 703 0 0 → Ok (G a.2) (fun b => b.1 = a.1 ∧ FrS τ b.2)) := fun h => by
    simp only [hJ]
    rw [ok_s]
    exact ⟨FrS.refl, no h⟩
  by_cases c1 : zfX11_noDays x σ = 0
  case neg => rw [if_neg c1]; exact fin (Or.inl c1)
  case pos =>
  rw [if_pos c1]
  by_cases c2 : zfX11_noWhat y 1 = 0
  case neg => rw [if_neg c2]; exact fin (Or.inr c2)
  case pos =>
  rw [if_pos c2]
  obtain ⟨_, h0, d, d1, d2, d3⟩ := (hd σ hI).1 c1
  refine ok_mono (h P rc s σ d hI h0 d1 d2 d3 (hw.1 c2).2) (fun a ha => ⟨ha.1, fun υ hυ e => ?_⟩)
  rw [hG]
  refine ok_lg (fun υ' e' => ?_)
  have : υ' = υ := e'.trans e.symm
  subst this
  refine ok_lg (fun J hJ => ?_)
  rw [if_neg ((hd υ' hυ).1 c1).1, if_neg (hw.1 c2).1]
  exact ha.2 υ' hυ
theorem nts_k {P : Pm} {s : Mm} {N : Nat → Int32} {j k : Nat} (hk : k < 10) : nts P s N (j + 1) k = nB (if (dU P 0 (dys P s j)).1 = 0 then 1 else 0) (dys P s (j + 1) 0 0) (nts P s N j) k := nDay_k hk
theorem r_spread {P : Pm} {s φ : Mm} {d : Nat} {N : Nat → Int32} {K : Int32 → Int32 → Int32 → Mm → Option (Int32 × Mm)} {Q : Int32 × Mm → Prop} (hd : d ≤ 30) (h5 : ∀ j, j ≤ d → φ 725 j = dys P s j 0 0)
    (hK : Ok (K (nts P s N d 8) (nts P s N d 7) (nts P s N d 9) φ) Q) : Ok (zfX12_spread_L59 (nI d) K NF (N 8) (N 7) (N 9) 1 φ) Q := by
  refine ok_up (F := fun fu (x : Int32 × Int32 × Int32 × Int32) => zfX12_spread_L59 (nI d) K fu x.1 x.2.1 x.2.2.1 x.2.2.2 φ) d (fun j x => x.1 = nts P s N j 8 ∧ x.2.1 = nts P s N j 7 ∧ x.2.2.1 = nts P s N j 9 ∧ x.2.2.2 = nI (j + 1)) ?_ ?_ 0 NF (N 8, N 7, N 9, 1) ⟨rfl, rfl, rfl, rfl⟩ (by omega) (by unfold NF; omega)
  · rintro j fu ⟨a, b, c, y⟩ hj ⟨ha, hb, hc, hy⟩ hk
    have ha : a = nts P s N j 8 := ha
    have hb : b = nts P s N j 7 := hb
    have hc : c = nts P s N j 9 := hc
    have hy : y = nI (j + 1) := hy
    subst ha
    subst hb
    subst hc
    subst hy
    show Ok (zfX12_spread_L59 (nI d) K (fu + 1) (nts P s N j 8) (nts P s N j 7) (nts P s N j 9) (nI (j + 1)) φ) Q
    unfold zfX12_spread_L59
    have hin : inb (nI (j + 1)) 61 := (n_in (by omega)).mpr (by omega)
    have hk2 := nB_k (fl := if (dU P 0 (dys P s j)).1 = 0 then 1 else 0) (b := dys P s (j + 1) 0 0) (N := nts P s N j)
    rw [if_neg (by rw [n_lt (by omega) (by omega)]; omega), ck_t hin, n_ix (by omega), h5 (j + 1) (by omega)]
    refine ok_lg (fun a2 ea => ?_)
    rw [ck_t hin]
    refine ok_lg (fun b2 eb => ?_)
    rw [ck_t hin]
    refine ok_lg (fun c2 ec => ?_)
    refine ok_lg (fun y2 ey => ?_)
    rw [show nI (j + 1) + 1 = nI (j + 1 + 1) from n_add _ 1] at ey
    exact hk (a2, b2, c2, y2) ⟨by dsimp only; rw [ea, nts_k (by omega), hk2.2.2.2.2.1], by dsimp only; rw [eb, nts_k (by omega), hk2.2.2.2.1], by dsimp only; rw [ec, nts_k (by omega), hk2.2.2.2.2.2], ey⟩
  · rintro fu ⟨a, b, c, y⟩ ⟨ha, hb, hc, hy⟩
    have ha : a = nts P s N d 8 := ha
    have hb : b = nts P s N d 7 := hb
    have hc : c = nts P s N d 9 := hc
    have hy : y = nI (d + 1) := hy
    subst ha
    subst hb
    subst hc
    subst hy
    show Ok (zfX12_spread_L59 (nI d) K (fu + 1) (nts P s N d 8) (nts P s N d 7) (nts P s N d 9) (nI (d + 1)) φ) Q
    unfold zfX12_spread_L59
    rw [if_pos (by rw [n_lt (by omega) (by omega)]; omega)]
    exact hK
theorem q_spread {B : Nat} (hB : B < 900000) (x y : Int32) : Qy B (zfX11_spread x y) (zfX12_spread x y) := by
  refine q_gate1 x y (fun _ => rfl) (fun _ => rfl) (fun P rc s σ d hI h0 d1 d2 hx hy => ?_)
  subst hx
  refine cq_walk hB hI h0 d2 (fun τ t1 t2 t3 => ?_)
  have yes : ∀ v : Int32, v = (if y = 0 then nts P s (n0 (s 0 0) (σ 68)) d 7 - nts P s (n0 (s 0 0) (σ 68)) d 8 else nts P s (n0 (s 0 0) (σ 68)) d 9) → ∀ υ, Ivx B P rc s υ → Ok (bd (zfX12_keep υ) (fun σ26 => bd (zfX12_tries (nI d) σ26) (fun σ31 => bd (zfX12_putBack σ31) (fun σ35 => lt (σ35 725 (ix 0)) (fun x3_44 => lt (σ35 725 (ix 0)) (fun x4_51 => lt (fun (x3_109 : Int32) (x4_109 : Int32) (x5_109 : Int32) (σ109 : Mm) => if y = 0 then (some (x4_109 - x3_109, σ109)) else (some (x5_109, σ109))) (fun k109 => zfX12_spread_L59 (nI d) k109 NF x3_44 x4_51 0 1 σ35))))))) (fun b => b.1 = v ∧ FrS υ b.2) := fun v hv υ hυ => by
    refine rq_walk hB hυ h0 d2 (fun φ f1 f2 f3 f4 => ?_)
    refine ok_lg (fun a ea => ?_)
    refine ok_lg (fun b eb => ?_)
    refine ok_lg (fun K hK => ?_)
    have e0 : φ 725 (ix 0) = s 0 0 := f1 0 (by omega)
    rw [e0] at ea eb
    subst ea
    subst eb
    refine r_spread (N := n0 (s 0 0) (σ 68)) d2 f1 ?_
    simp only [hK]
    rw [hv]
    by_cases c : y = 0
    · rw [if_pos c, if_pos c, ok_s]; exact ⟨rfl, f4⟩
    · rw [if_neg c, if_neg c, ok_s]; exact ⟨rfl, f4⟩
  by_cases c : y = 0
  · rw [if_pos c, ok_s]
    exact ⟨t3, yes _ (by rw [if_pos c, t2])⟩
  · rw [if_neg c, ok_s]
    exact ⟨t3, yes _ (by rw [if_neg c, t2])⟩
