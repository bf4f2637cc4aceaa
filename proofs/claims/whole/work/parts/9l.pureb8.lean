/-! ===== bribe ===== -/
theorem bribe_F {B : Nat} {x y : Int32} {P : Pm} {rc : Nat} {s σ : Mm} (hI : Ivx B P rc s σ) (hA : ¬ ((0 < pn P ∧ Rok 1 30 x) ∧ Rok 0 1 y)) : zfX11_bribe x y σ = some (-1000000, σ) := by
  unfold zfX11_bribe
  refine lt_i (fun J hJ => ?_)
  have fin : J σ = some (-1000000, σ) := by rw [hJ]
  by_cases c0 : zfX11_noDays x σ = 0
  case neg => rw [if_neg c0]; exact fin
  case pos =>
  rw [if_pos c0]
  by_cases c1 : zfX11_noWhat y 1 = 0
  case neg => rw [if_neg c1]; exact fin
  case pos =>
  rw [if_pos c1]
  exact absurd ⟨((g_days hI).1.mp c0), (g_what1.mp c1)⟩ hA
theorem bribe_G {B : Nat} {x y : Int32} {P : Pm} {rc : Nat} {s σ : Mm} (hI : Ivx B P rc s (zst σ 703 0 0)) (hA : ¬ ((0 < pn P ∧ Rok 1 30 x) ∧ Rok 0 1 y)) : zfX12_bribe x y σ = some (-1000000, zst σ 703 0 0) := by
  unfold zfX12_bribe
  refine lt_i (fun υ hυe => ?_)
  refine lt_i (fun J hJ => ?_)
  rw [← hυe] at hI ⊢
  have hυ := hI
  have fin : J υ = some (-1000000, υ) := by rw [hJ]
  by_cases c0 : zfX12_isReady x υ = 0
  case pos => rw [if_pos c0]; exact fin
  case neg =>
  rw [if_neg c0]
  by_cases c1 : zfX12_isIn y.toInt64 0 1 = 0
  case pos => rw [if_pos c1]; exact fin
  case neg =>
  rw [if_neg c1]
  exact absurd ⟨(Classical.byContradiction (fun h9 => c0 ((g_days hυ).2.mpr h9))), (Classical.byContradiction (fun h9 => c1 (g_in1.mpr h9)))⟩ hA
/-- the least wage so far, and whose -/
noncomputable def brp (P : Pm) (s : Mm) (d : Nat) : Nat → Int32 × Int32
  | 0 => (-1, -1000000)
  | k + 1 => if ¬ (s 0 3 >>> (nI k &&& 31)) &&& 1 = 0 then brp P s d k else if (brp P s d k).1 = -1 ∨ ¬ (brp P s d k).2 ≤ gnv P s (hv (s 0 3) k 0) d k - gnv P s (hv (s 0 3) k 1) d k then (nI k, gnv P s (hv (s 0 3) k 0) d k - gnv P s (hv (s 0 3) k 1) d k) else brp P s d k
theorem brp_n {P : Pm} {s : Mm} {d : Nat} : ∀ {k : Nat}, k ≤ 100 → (brp P s d k).1 = -1 → (brp P s d k).2 = -1000000 := by
  intro k
  induction k with
  | zero => intro _ _; rfl
  | succ k ih =>
    intro hk h
    unfold brp at h ⊢
    by_cases c : ¬ (s 0 3 >>> (nI k &&& 31)) &&& 1 = 0
    · rw [if_pos c] at h ⊢; exact ih (by omega) h
    · rw [if_neg c] at h ⊢
      split at h
      · exact absurd h (n_ne1 (by omega))
      · rename_i c2
        rw [if_neg c2]; exact ih (by omega) h
theorem c_bribe {B : Nat} {P : Pm} {rc d : Nat} {s σ : Mm} {K : Int32 → Int32 → Mm → Option (Int32 × Mm)} {Q : Int32 × Mm → Prop} (hB : B < 900000) (hI : Ivx B P rc s σ) (h0 : 0 < pn P) (hd : d ≤ 30)
    (hK : ∀ τ, FrS σ τ → Ok (K (brp P s d (pn P)).1 (brp P s d (pn P)).2 τ) Q) : Ok (zfX11_bribe_L28 K (nI d) NF (-1) (-1000000) 0 σ) Q := by
  have hn := hI.n
  refine ok_up (F := fun fu (x : Int32 × Int32 × Int32 × Mm) => zfX11_bribe_L28 K (nI d) fu x.1 x.2.1 x.2.2.1 x.2.2.2) (pn P) (fun j x => x.1 = (brp P s d j).1 ∧ x.2.1 = (brp P s d j).2 ∧ x.2.2.1 = nI j ∧ FrS σ x.2.2.2) ?_ ?_ 0 NF (-1, -1000000, 0, σ) ⟨rfl, rfl, rfl, FrS.refl⟩ (by omega) (by unfold NF; omega)
  · rintro j fu ⟨a, b, y, τ⟩ hj ⟨ha, hb, hy, hf⟩ hk
    have ha : a = (brp P s d j).1 := ha
    have hb : b = (brp P s d j).2 := hb
    have hy : y = nI j := hy
    subst ha hb hy
    have hf : FrS σ τ := hf
    show Ok (zfX11_bribe_L28 K (nI d) (fu + 1) (brp P s d j).1 (brp P s d j).2 (nI j) τ) Q
    unfold zfX11_bribe_L28
    rw [if_neg (by rw [hf.1 3 (by omega), hn.2.1, n_le (by omega) (by omega)]; omega)]
    refine ok_lg (fun J hJ => ?_)
    have hIτ := hI.fr hf
    have go : ∀ (p : Int32 × Int32) (φ : Mm), FrS σ φ → brp P s d (j + 1) = p → Ok (J p.1 p.2 φ) Q := fun p φ h1 h2 => by
      simp only [hJ]
      refine ok_lg (fun y2 ey => ?_)
      rw [show nI j + 1 = nI (j + 1) from n_add _ 1] at ey
      exact hk (p.1, p.2, y2, φ) ⟨by dsimp only; rw [h2], by dsimp only; rw [h2], ey, h1⟩
    have e3 : τ 27 3 = s 0 3 := hIτ.2.2.2.2.1.1.1.1 3 (by omega)
    have hh := c_hold (q := 27) (k := j) (σ := τ)
    rw [e3] at hh
    unfold hob at hh
    have step : brp P s d (j + 1) = if ¬ (s 0 3 >>> (nI j &&& 31)) &&& 1 = 0 then brp P s d j else if (brp P s d j).1 = -1 ∨ ¬ (brp P s d j).2 ≤ gnv P s (hv (s 0 3) j 0) d j - gnv P s (hv (s 0 3) j 1) d j then (nI j, gnv P s (hv (s 0 3) j 0) d j - gnv P s (hv (s 0 3) j 1) d j) else brp P s d j := rfl
    by_cases c : (s 0 3 >>> (nI j &&& 31)) &&& 1 = 0
    case neg =>
      rw [if_neg (fun h => hh.mp h c)]
      exact go (brp P s d j) τ hf (by rw [step, if_pos c])
    case pos =>
      rw [if_pos (hh.mpr (fun h => h c))]
      refine cq_hwalk hB hIτ h0 hd (fun υ1 a1 a2 => ?_)
      have f1 := hf.trans a2
      obtain ⟨ga, _⟩ := c_gnv hI a1 f1
      rw [ga j hj, bd_some]
      refine cq_hwalk hB (hI.fr f1) h0 hd (fun υ2 b1 b2 => ?_)
      have f2 := f1.trans b2
      obtain ⟨gc, _⟩ := c_gnv hI b1 f2
      rw [gc j hj, bd_some]
      refine ok_lg (fun w hw => ?_)
      refine ok_lg (fun J2 hJ2 => ?_)
      have up : ((brp P s d j).1 = -1 ∨ ¬ (brp P s d j).2 ≤ w) → Ok (J2 υ2) Q := fun h => by
        simp only [hJ2]
        exact go (nI j, w) υ2 f2 (by rw [step, if_neg (fun h => h c), ← hw, if_pos h])
      by_cases c1 : (brp P s d j).1 = -1
      · rw [if_pos c1]; exact up (Or.inl c1)
      · rw [if_neg c1]
        by_cases c2 : (brp P s d j).2 ≤ w
        · rw [if_pos c2]
          exact go (brp P s d j) υ2 f2 (by rw [step, if_neg (fun h => h c), ← hw, if_neg (fun h => h.elim c1 (fun h => h c2))])
        · rw [if_neg c2]; exact up (Or.inr c2)
  · rintro fu ⟨a, b, y, τ⟩ ⟨ha, hb, hy, hf⟩
    have ha : a = (brp P s d (pn P)).1 := ha
    have hb : b = (brp P s d (pn P)).2 := hb
    have hy : y = nI (pn P) := hy
    subst ha hb hy
    have hf : FrS σ τ := hf
    show Ok (zfX11_bribe_L28 K (nI d) (fu + 1) _ _ (nI (pn P)) τ) Q
    unfold zfX11_bribe_L28
    rw [if_pos (by rw [hf.1 3 (by omega), hn.2.1]; exact Int32.le_refl _)]
    exact hK τ hf
theorem r_bribe {B : Nat} {P : Pm} {rc d : Nat} {s υ τ : Mm} {K : Int32 → Int32 → Mm → Option (Int32 × Mm)} {Q : Int32 × Mm → Prop} (hI : Ivx B P rc s υ) (hs : Ks P rc B s) (hkb : Kb P rc s υ τ) (hd : d ≤ 30)
    (hK : ∀ b φ, ((brp P s d (pn P)).1 ≠ -1 → b = (brp P s d (pn P)).2) → Kb P rc s υ φ → Ok (K (brp P s d (pn P)).1 b φ) Q) : Ok (zfX12_bribe_L39 K (nI d) NF (-1) 0 0 τ) Q := by
  have hn := hI.n
  have hn5 := hn.1
  refine ok_up (F := fun fu (x : Int32 × Int32 × Int32 × Mm) => zfX12_bribe_L39 K (nI d) fu x.1 x.2.1 x.2.2.1 x.2.2.2) (pn P) (fun j x => x.1 = (brp P s d j).1 ∧ ((brp P s d j).1 ≠ -1 → x.2.1 = (brp P s d j).2) ∧ x.2.2.1 = nI j ∧ Kb P rc s υ x.2.2.2) ?_ ?_ 0 NF (-1, 0, 0, τ) ⟨rfl, fun h => absurd rfl h, rfl, hkb⟩ (by omega) (by unfold NF; omega)
  · rintro j fu ⟨a, b, y, τ⟩ hj ⟨ha, hb, hy, hf⟩ hk
    have ha : a = (brp P s d j).1 := ha
    have hy : y = nI j := hy
    subst ha hy
    have hb : (brp P s d j).1 ≠ -1 → b = (brp P s d j).2 := hb
    have hf : Kb P rc s υ τ := hf
    show Ok (zfX12_bribe_L39 K (nI d) (fu + 1) (brp P s d j).1 b (nI j) τ) Q
    unfold zfX12_bribe_L39
    have e32 : ∀ φ, Kb P rc s υ φ → φ 703 32 = s 0 3 := fun φ h => by rw [h.1.2.2 32 (by omega)]; exact hI.2.2.2.2.1.2.1.symm
    rw [if_neg (by rw [hf.2.2.2.1.1, n_le (by omega) (by omega)]; omega)]
    refine ok_lg (fun J hJ => ?_)
    have go : ∀ (p q : Int32) (φ : Mm), Kb P rc s υ φ → (brp P s d (j + 1)).1 = p → (p ≠ -1 → q = (brp P s d (j + 1)).2) → Ok (J p q φ) Q := fun p q φ h1 h2 h3 => by
      simp only [hJ]
      refine ok_lg (fun y2 ey => ?_)
      rw [show nI j + 1 = nI (j + 1) from n_add _ 1] at ey
      exact hk (p, q, y2, φ) ⟨h2.symm, by rw [h2]; exact h3, ey, h1⟩
    have step : brp P s d (j + 1) = if ¬ (s 0 3 >>> (nI j &&& 31)) &&& 1 = 0 then brp P s d j else if (brp P s d j).1 = -1 ∨ ¬ (brp P s d j).2 ≤ gnv P s (hv (s 0 3) j 0) d j - gnv P s (hv (s 0 3) j 1) d j then (nI j, gnv P s (hv (s 0 3) j 0) d j - gnv P s (hv (s 0 3) j 1) d j) else brp P s d j := rfl
    have hh := r_has (x := s 0 3) (k := j)
    unfold hob at hh
    rw [e32 τ hf]
    by_cases c : (s 0 3 >>> (nI j &&& 31)) &&& 1 = 0
    case neg =>
      rw [if_neg (fun h => hh.mp h c)]
      exact go _ b τ hf (by rw [step, if_pos c]) (fun h => by rw [step, if_pos c]; exact hb h)
    case pos =>
      rw [if_pos (hh.mpr (fun h => h c)), ok_bd2]
      have hnb : ¬ hob (s 0 3) j := fun h => h c
      refine ok_mono (r_gainsBy hf hs hs.2.2.2.2.2 (show d ≤ 60 by omega)) (fun r hr => ?_)
      obtain ⟨p1, p2⟩ := hr
      rw [ok_bd2, e32 r.2 p2, ← hv_1]
      refine ok_mono (r_gainsBy p2 hs (hv_no hj hn5 hs.2.2.2.2.2) (show d ≤ 60 by omega)) (fun r2 hr2 => ?_)
      obtain ⟨q1, q2⟩ := hr2
      refine ok_lg (fun w hw => ?_)
      have ew : w = gnv P s (hv (s 0 3) j 0) d j - gnv P s (hv (s 0 3) j 1) d j := by
        rw [hw, p1, q1, gby_own hn5 hj, gby_own hn5 hj, hv_id (by omega) hnb]
        unfold gnv
        grind
      refine ok_lg (fun J2 hJ2 => ?_)
      have up : ((brp P s d j).1 = -1 ∨ ¬ (brp P s d j).2 ≤ w) → Ok (J2 r2.2) Q := fun h => by
        simp only [hJ2]
        exact go (nI j) w r2.2 q2 (by rw [step, if_neg (fun h => h c), ← ew, if_pos h]) (fun _ => by rw [step, if_neg (fun h => h c), ← ew, if_pos h])
      by_cases c1 : (brp P s d j).1 = -1
      · rw [if_pos c1]; exact up (Or.inl c1)
      · rw [if_neg c1]
        have hb2 := hb c1
        subst hb2
        by_cases c2 : w < (brp P s d j).2
        · rw [if_pos c2]
          refine up (Or.inr (fun h => ?_))
          rw [Int32.lt_iff_toInt_lt] at c2; rw [Int32.le_iff_toInt_le] at h; omega
        · rw [if_neg c2]
          have c3 : (brp P s d j).2 ≤ w := by rw [Int32.lt_iff_toInt_lt] at c2; rw [Int32.le_iff_toInt_le]; omega
          have e : brp P s d (j + 1) = brp P s d j := by rw [step, if_neg (fun h => h c), ← ew, if_neg (fun h => h.elim c1 (fun h => h c3))]
          exact go _ _ r2.2 q2 (by rw [e]) (fun _ => by rw [e])
  · rintro fu ⟨a, b, y, τ⟩ ⟨ha, hb, hy, hf⟩
    have ha : a = (brp P s d (pn P)).1 := ha
    have hy : y = nI (pn P) := hy
    subst ha hy
    have hb : (brp P s d (pn P)).1 ≠ -1 → b = (brp P s d (pn P)).2 := hb
    have hf : Kb P rc s υ τ := hf
    show Ok (zfX12_bribe_L39 K (nI d) (fu + 1) _ b (nI (pn P)) τ) Q
    unfold zfX12_bribe_L39
    rw [if_pos (by rw [hf.2.2.2.1.1]; exact Int32.le_refl _)]
    exact hK b τ hb hf
theorem q_bribe {B : Nat} (hB : B < 900000) (x y : Int32) : Qy B (zfX11_bribe x y) (zfX12_bribe x y) := by
  refine q_gen (-1000000) (fun P => (0 < pn P ∧ Rok 1 30 x) ∧ Rok 0 1 y) (fun P rc s σ hI hA => bribe_F hI hA) (fun P rc s σ hI hA => bribe_G hI hA) (fun P rc s σ hI hA => ?_)
  obtain ⟨hA1, hz⟩ := hA
  obtain ⟨h0, d, d1, d2, d3⟩ := id hA1
  have hn := hI.n.1
  unfold zfX11_bribe
  refine ok_lg (fun J _ => ?_)
  rw [if_pos ((g_days hI).1.mpr hA1), if_pos (g_what1.mpr hz)]
  subst d3
  refine ok_lg (fun K hK => ?_)
  refine c_bribe hB hI h0 d2 (fun τ fr => ?_)
  simp only [hK]
  have yes : ∀ v : Int32, v = (if y = 0 then (brp P s d (pn P)).1 else (brp P s d (pn P)).2) → ∀ υ, Ivx B P rc s υ → υ = zst τ 703 0 0 → Ok (zfX12_bribe (nI d) y τ) (fun b => b.1 = v ∧ FrS υ b.2) := fun v hv' υ hυ e => by
    unfold zfX12_bribe
    refine ok_lg (fun υ' e' => ?_)
    have : υ' = υ := e'.trans e.symm
    subst this
    refine ok_lg (fun J2 _ => ?_)
    rw [if_neg (fun c => (g_days hυ).2.mp c hA1), if_neg (fun c => g_in1.mp c hz)]
    refine rq_keptb hB hυ h0 (fun τ1 k1 k2 k3 => ?_)
    refine ok_lg (fun K2 hK2 => ?_)
    refine r_bribe hυ (hυ.ks hB) k1 d2 (fun b φ hb hkb => ?_)
    simp only [hK2]
    rw [hv']
    by_cases c : y = 0
    · rw [if_pos c, if_pos c, ok_s]; exact ⟨rfl, hkb.1⟩
    · rw [if_neg c, if_neg c]
      by_cases c2 : (brp P s d (pn P)).1 = -1
      · rw [if_pos c2, ok_s]; exact ⟨(brp_n (by omega) c2).symm, hkb.1⟩
      · rw [if_neg c2, ok_s]; exact ⟨hb c2, hkb.1⟩
  by_cases c : y = 0
  · rw [if_pos c, ok_s]
    exact ⟨fr, yes _ (by rw [if_pos c])⟩
  · rw [if_neg c, ok_s]
    exact ⟨fr, yes _ (by rw [if_neg c])⟩
