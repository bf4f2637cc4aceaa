/-! ===== the class reads the items of a clause ===== -/
def FrK (σ τ : Mm) : Prop := ∀ c, c ≠ 43 → c ≠ 44 → c ≠ 45 → τ c = σ c
theorem FrK.z {σ : Mm} {c k : Nat} {v : Int32} (h : c = 43 ∨ c = 44 ∨ c = 45) : FrK σ (zst σ c k v) := fun a h1 h2 h3 => zst_n (by omega)
theorem FrK.tr {σ τ υ : Mm} (h : FrK σ τ) (h2 : FrK τ υ) : FrK σ υ := fun a h3 h4 h5 => (h2 a h3 h4 h5).trans (h a h3 h4 h5)
theorem FrK.rf {σ : Mm} : FrK σ σ := fun _ _ _ _ => rfl
theorem FrK.ct {σ τ : Mm} {t : Nat → Int32} {n : Nat} (h : FrK σ τ) (hT : CT σ t n) : CT τ t n := hT.of (h 1 (by decide) (by decide) (by decide)) (h 2 (by decide) (by decide) (by decide))
def b01 (x : Int32) : Nat := if x = 0 then 0 else 1
/-- how many items of a kind were told -/
def tn (κ : Nat) (T : Nat → Int32) : Nat := b01 (T (fi κ)) + b01 (T (fi κ + 1)) + (if κ = 2 then 0 else b01 (T (fi κ + 2)))
theorem b01_le {x : Int32} : b01 x ≤ 1 := by unfold b01; split <;> omega
theorem tn_le {κ : Nat} {T : Nat → Int32} : tn κ T ≤ 3 := by
  unfold tn
  have h1 := b01_le (x := T (fi κ)); have h2 := b01_le (x := T (fi κ + 1)); have h3 := b01_le (x := T (fi κ + 2))
  split <;> omega
theorem tn_up {κ g : Nat} {T : Nat → Int32} (hκ : κ < 3) (h1 : fi κ ≤ g) (h2 : g < fi κ + ln κ) (h : T g = 0) : tn κ (upd T g 1) = tn κ T + 1 := by
  have b1 : b01 (1 : Int32) = 1 := by decide
  have b0 : b01 (0 : Int32) = 0 := by decide
  unfold tn
  have : κ = 0 ∨ κ = 1 ∨ κ = 2 := by omega
  rcases this with rfl | rfl | rfl
  · have h1 : 0 ≤ g := h1
    have h2 : g < 3 := h2
    have : g = 0 ∨ g = 1 ∨ g = 2 := by omega
    rcases this with rfl | rfl | rfl <;> simp [fi, upd, h, b1, b0] <;> omega
  · have h1 : 3 ≤ g := h1
    have h2 : g < 6 := h2
    have : g = 3 ∨ g = 4 ∨ g = 5 := by omega
    rcases this with rfl | rfl | rfl <;> simp [fi, upd, h, b1, b0] <;> omega
  · have h1 : 6 ≤ g := h1
    have h2 : g < 8 := h2
    have : g = 6 ∨ g = 7 := by omega
    rcases this with rfl | rfl <;> simp [fi, upd, h, b1, b0] <;> omega
theorem bool1 : vp_nar .boolean 1 = (1 : Int32) := by decide
theorem bool0 : vp_nar .boolean 0 = (0 : Int32) := by decide
theorem c_its {t : Nat → Int32} {n κ : Nat} (ht : ∀ k, k < n → 0 ≤ (t k).toInt ∧ (t k).toInt < 256) (hκ : κ < 3) {k167 : Mm → Option (Int32 × Mm)} : ∀ F p (σ : Mm) i fu (V T : Nat → Int32), CT σ t n → σ 43 1 = nI p → p ≤ n → (∀ k, k < 8 → σ 44 k = V k) → (∀ k, k < 8 → σ 45 k = T k) → i = tn κ T → 4 - i ≤ fu → n - p < F →
    Ok (zfX1_items_L45 k167 (nI κ) (fun σ68 => some (1, σ68)) (fun σ112 => some (0, σ112)) (fun σ134 => some (0, zst σ134 43 2 ((σ134 43 1) - 1))) (fun σ79 => bd2 (zfX3_wrong_43 σ79) (fun r80 σ80 => ck (zbo r80) (some (r80, σ80)))) fu (nI i) σ) (fun a => match itms t n κ F p V T with
      | .error e => a.1 = 0 ∧ a.2 43 2 = nI e ∧ FrK σ a.2
      | .ok (p', V') => a.1 = 1 ∧ a.2 43 1 = nI p' ∧ p ≤ p' ∧ p' ≤ n ∧ (∀ k, k < 8 → a.2 44 k = V' k) ∧ FrK σ a.2) := by
  intro F
  induction F with
  | zero => intro p σ i fu V T _ _ _ _ _ _ _ hF; omega
  | succ F ih =>
  intro p σ i fu V T hT hσ hp hV hTT hi hf hF
  have hi3 : i ≤ 3 := by rw [hi]; exact tn_le
  obtain ⟨fu, rfl⟩ : ∃ g, fu = g + 1 := ⟨fu - 1, by omega⟩
  have hp1 : p ≤ skp t n p := skp_ge
  have hp2 : skp t n p ≤ n := skp_le hp
  have hn := hT.2.1
  have hlt : ∀ k, sg t n k ≠ -1 → k < n := fun k q => Classical.byContradiction fun q2 => q (if_neg q2)
  unfold zfX1_items_L45
  rw [show zsl 0 = nI 8 from rfl, if_neg (by rw [n_le (by decide) (by omega)]; omega), c_sign_43 hT hσ hp, bd2_some, c_itemOf hκ, bd_some]
  unfold itms
  cases hg : itG κ (sg t n (skp t n p)) with
  | none =>
    simp only
    rw [if_pos trivial, ok_s]
    exact ⟨rfl, by dsimp only; exact zst_v, hp1, hp2, fun k hk => by dsimp only; rw [zst_n (by decide)]; exact hV k hk, FrK.z (Or.inl rfl)⟩
  | some g =>
    simp only
    obtain ⟨g8, g1, g2⟩ := itG_lt hκ hg
    have hlt1 : skp t n p < n := hlt _ (fun e => by
      rw [e] at hg
      have : κ = 0 ∨ κ = 1 ∨ κ = 2 := by omega
      rcases this with rfl | rfl | rfl
      · rw [show itG 0 (-1) = none by decide] at hg; cases hg
      · rw [show itG 1 (-1) = none by decide] at hg; cases hg
      · rw [show itG 2 (-1) = none by decide] at hg; cases hg)
    rw [if_neg (n_ne1 (by omega)), ok_ck]
    refine ⟨(n_in (by omega)).mpr g8, ?_⟩
    rw [n_ix (by omega), zst_n (by decide), hTT g g8]
    by_cases ht0 : T g = 0
    case neg =>
      rw [if_neg ht0, if_neg ht0]
      unfold zfX3_wrong_43
      simp only [lt_p, bd2_some]
      rw [ck_t (Or.inl rfl), ok_s]
      refine ⟨rfl, by dsimp only; rw [zst_v, zst_v], (FrK.z (Or.inl rfl)).tr (FrK.z (Or.inl rfl))⟩
    case pos =>
    rw [if_pos ht0, if_pos ht0]
    simp only [lt_p]
    rw [zst_v, zst_zst, show nI (skp t n p) + 1 = nI (skp t n p + 1) from n_add _ 1]
    have hT1 : CT (zst σ 43 1 (nI (skp t n p + 1))) t n := hT.of (zst_n (by decide)) (zst_n (by decide))
    rw [c_sign_43 hT1 zst_v (by omega), bd2_some, zst_zst]
    have hq1 : skp t n p + 1 ≤ skp t n (skp t n p + 1) := skp_ge
    have hq2 : skp t n (skp t n p + 1) ≤ n := skp_le (by omega)
    generalize hq : skp t n (skp t n p + 1) = q at hq1 hq2 ⊢
    have hT2 : CT (zst σ 43 1 (nI q)) t n := hT.of (zst_n (by decide)) (zst_n (by decide))
    rw [c_num43 hT2 ht hq2 zst_v]
    cases hnm : nm2 t n q with
    | error e =>
      simp only
      rw [bd2_some, if_pos rfl, ok_s]
      exact ⟨rfl, by dsimp only; exact zst_v, ((FrK.z (Or.inl rfl)).tr (FrK.z (Or.inl rfl))).tr (FrK.z (Or.inl rfl))⟩
    | ok x =>
      obtain ⟨p3, v⟩ := x
      simp only
      obtain ⟨h1, h2, b, hb, hb2⟩ := nm2_ok ht hnm
      rw [bd2_some, if_neg (by rw [hb]; exact n_ne1 (by omega)), zst_zst, ok_ck]
      refine ⟨(n_in (by omega)).mpr (by show g < 8; exact g8), ?_⟩
      have e3 : (zst σ 43 1 (nI p3) 43 1) - 1 = nI (p3 - 1) := by rw [zst_v, show (1 : Int32) = nI 1 from rfl, n_sub (by omega)]
      have wrongC : Ok (some ((0 : Int32), zst (zst σ 43 1 (nI p3)) 43 2 ((zst σ 43 1 (nI p3) 43 1) - 1))) (fun a => a.1 = 0 ∧ a.2 43 2 = nI (p3 - 1) ∧ FrK σ a.2) := by
        rw [ok_s]
        exact ⟨rfl, by dsimp only; rw [zst_v, e3], (FrK.z (Or.inl rfl)).tr (FrK.z (Or.inl rfl))⟩
      by_cases c1 : v < zlo g
      · rw [if_pos (show v < (zStV.getD 1 []).getD g 0 from c1), if_pos c1]
        exact wrongC
      · rw [if_neg (show ¬ v < (zStV.getD 1 []).getD g 0 from c1), if_neg c1, ok_ck]
        refine ⟨(n_in (by omega)).mpr (by show g < 8; exact g8), ?_⟩
        by_cases c2 : v ≤ zhi g
        · rw [if_pos (show v ≤ (zStV.getD 2 []).getD g 0 from c2), if_pos c2, ok_ck]
          refine ⟨(n_in (by omega)).mpr g8, ?_⟩
          rw [ok_ck]
          refine ⟨(n_in (by omega)).mpr g8, ?_⟩
          rw [bool1, show nI i + 1 = nI (i + 1) from n_add _ 1]
          have hfr : FrK σ (zst (zst (zst σ 43 1 (nI p3)) 44 g v) 45 g 1) := ((FrK.z (Or.inl rfl)).tr (FrK.z (Or.inr (Or.inl rfl)))).tr (FrK.z (Or.inr (Or.inr rfl)))
          have hk1 : ∀ k, k < 8 → zst (zst (zst σ 43 1 (nI p3)) 44 g v) 45 g 1 44 k = upd V g v k := by
            intro k hk
            rw [zst_n (by decide), zst_s]
            by_cases e : k = g
            · rw [e, upd_s, upd_s]
            · rw [upd_n e, upd_n e, zst_n (by decide)]; exact hV k hk
          have hk2 : ∀ k, k < 8 → zst (zst (zst σ 43 1 (nI p3)) 44 g v) 45 g 1 45 k = upd T g 1 k := by
            intro k hk
            rw [zst_s]
            by_cases e : k = g
            · rw [e, upd_s, upd_s]
            · rw [upd_n e, upd_n e, zst_n (by decide), zst_n (by decide)]; exact hTT k hk
          have IH := ih p3 (zst (zst (zst σ 43 1 (nI p3)) 44 g v) 45 g 1) (i + 1) fu (upd V g v) (upd T g 1) (hfr.ct hT) (by rw [zst_n (by decide), zst_n (by decide), zst_v]) h2 hk1 hk2 (by rw [tn_up hκ g1 g2 ht0, hi]) (by omega) (by omega)
          refine ok_mono IH (fun a ha => ?_)
          cases hit : itms t n κ F p3 (upd V g v) (upd T g 1) with
          | error e =>
            rw [hit] at ha
            exact ⟨ha.1, ha.2.1, hfr.tr ha.2.2⟩
          | ok y =>
            obtain ⟨p', V'⟩ := y
            rw [hit] at ha
            obtain ⟨a1, a2, a3, a4, a5, a6⟩ := ha
            exact ⟨a1, a2, by omega, a4, a5, hfr.tr a6⟩
        · rw [if_neg (show ¬ v ≤ (zStV.getD 2 []).getD g 0 from c2), if_neg c2]
          exact wrongC
