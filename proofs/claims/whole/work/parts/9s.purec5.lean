/-! ===== month ===== -/
theorem month_F {B : Nat} {x y : Int32} {P : Pm} {rc : Nat} {s σ : Mm} (hI : Ivx B P rc s σ) (hA : ¬ ((0 < pn P ∧ Rok 1 30 x) ∧ Rok 0 1 y)) : zfX11_month x y σ = some (-1, σ) := by
  unfold zfX11_month
  refine lt_i (fun J hJ => ?_)
  have fin : J σ = some (-1, σ) := by rw [hJ]
  by_cases c0 : zfX11_noDays x σ = 0
  case neg => rw [if_neg c0]; exact fin
  case pos =>
  rw [if_pos c0]
  by_cases c1 : zfX11_noWhat y 1 = 0
  case neg => rw [if_neg c1]; exact fin
  case pos =>
  rw [if_pos c1]
  exact absurd ⟨((g_days hI).1.mp c0), (g_what1.mp c1)⟩ hA
theorem month_G {B : Nat} {x y : Int32} {P : Pm} {rc : Nat} {s σ : Mm} (hI : Ivx B P rc s (zst σ 703 0 0)) (hA : ¬ ((0 < pn P ∧ Rok 1 30 x) ∧ Rok 0 1 y)) : zfX12_month x y σ = some (-1, zst σ 703 0 0) := by
  unfold zfX12_month
  refine lt_i (fun υ hυe => ?_)
  refine lt_i (fun J hJ => ?_)
  rw [← hυe] at hI ⊢
  have hυ := hI
  have fin : J υ = some (-1, υ) := by rw [hJ]
  by_cases c0 : zfX12_isReady x υ = 0
  case pos => rw [if_pos c0]; exact fin
  case neg =>
  rw [if_neg c0]
  by_cases c1 : zfX12_isIn y.toInt64 0 1 = 0
  case pos => rw [if_pos c1]; exact fin
  case neg =>
  rw [if_neg c1]
  exact absurd ⟨(Classical.byContradiction (fun h9 => c0 ((g_days hυ).2.mpr h9))), (Classical.byContradiction (fun h9 => c1 (g_in1.mpr h9)))⟩ hA
/-- what is told for a day by the first askings -/
def tf (aw ad av : Nat → Int32) (d : Int32) : Nat → Nat → Int32
  | 0, _ => -1
  | k + 1, s => if ad k = d ∧ s = ix (aw k) then av k else tf aw ad av d k s
theorem tf_ok {aw ad av : Nat → Int32} {d : Int32} : ∀ {N : Nat}, (∀ k, k < N → sm 20 (av k)) → ∀ s, tf aw ad av d N s = -1 ∨ sm 20 (tf aw ad av d N s) := by
  intro N
  induction N with
  | zero => intro _ s; exact Or.inl rfl
  | succ N ih =>
    intro h s
    unfold tf
    split
    · exact Or.inr (h N (by omega))
    · exact ih (fun k hk => h k (by omega)) s
/-- the lowest who asks more than the board -/
def Brk (f : Nat → Int32) (b : Int32) (n s : Nat) : Prop := s < n ∧ b < f s ∧ ∀ k, k < s → ¬ b < f k
theorem Brk.uniq {f : Nat → Int32} {b : Int32} {n s t : Nat} (h : Brk f b n s) (h2 : Brk f b n t) : s = t := by
  obtain ⟨a1, a2, a3⟩ := h
  obtain ⟨b1, b2, b3⟩ := h2
  rcases Nat.lt_trichotomy s t with c | c | c
  · exact absurd a2 (b3 s c)
  · exact c
  · exact absurd b2 (a3 t c)
theorem c_tell2 {τ : Mm} {n : Nat} {K : Mm → Option (Int32 × Mm)} {Q : Int32 × Mm → Prop} (hn : n ≤ 5) (h3 : τ 3 0 = nI n) (hK : ∀ φ, (∀ k, k < n → φ 38 k = -1) → (∀ c, c ≠ 38 → φ c = τ c) → Ok (K φ) Q) : Ok (zfX11_tellAskings_L2 K NF 0 τ) Q := by
  refine ok_up (F := fun fu (x : Int32 × Mm) => zfX11_tellAskings_L2 K fu x.1 x.2) n (fun j x => x.1 = nI j ∧ (∀ k, k < j → x.2 38 k = -1) ∧ ∀ c, c ≠ 38 → x.2 c = τ c) ?_ ?_ 0 NF (0, τ) ⟨rfl, fun k hk => absurd hk (Nat.not_lt_zero k), fun _ _ => rfl⟩ (by omega) (by unfold NF; omega)
  · rintro j fu ⟨y, φ⟩ hj ⟨hy, h1, h2⟩ hk
    have hy : y = nI j := hy
    subst hy
    have h1 : ∀ k, k < j → φ 38 k = -1 := h1
    have h2 : ∀ c, c ≠ 38 → φ c = τ c := h2
    show Ok (zfX11_tellAskings_L2 K (fu + 1) (nI j) φ) Q
    unfold zfX11_tellAskings_L2
    rw [if_neg (by rw [h2 3 (by omega), h3, n_le (by omega) (by omega)]; omega), ck_t ((n_in (by omega)).mpr (by omega)), n_ix (by omega)]
    refine ok_lg (fun φ2 e2 => ?_)
    refine ok_lg (fun y2 ey => ?_)
    rw [show nI j + 1 = nI (j + 1) from n_add _ 1] at ey
    refine hk (y2, φ2) ⟨ey, fun k hk2 => ?_, fun c hc => by dsimp only; rw [e2, zst_n hc]; exact h2 c hc⟩
    dsimp only
    rw [e2]
    by_cases e : k = j
    · rw [e, zst_v]
    · rw [zst_k e]; exact h1 k (by omega)
  · rintro fu ⟨y, φ⟩ ⟨hy, h1, h2⟩
    have hy : y = nI n := hy
    subst hy
    have h2 : ∀ c, c ≠ 38 → φ c = τ c := h2
    show Ok (zfX11_tellAskings_L2 K (fu + 1) (nI n) φ) Q
    unfold zfX11_tellAskings_L2
    rw [if_pos (by rw [h2 3 (by omega), h3]; exact Int32.le_refl _)]
    exact hK φ h1 h2
theorem c_tells {τ : Mm} {n N d : Nat} {aw ad av : Nat → Int32} {b : Int32} (hn : n ≤ 5) (hN : N ≤ 60) (h3 : τ 3 0 = nI n) (h699 : τ 699 3 = nI N) (hA : ∀ k, k < N → τ 700 k = aw k ∧ τ 701 k = ad k ∧ τ 702 k = av k ∧ sm 5 (aw k) ∧ ix (aw k) < n) (hb : τ 69 0 = b) :
    Ok (zfX11_tellAskings (nI d) τ) (fun a => (∀ k, k < n → a.2 38 k = tf aw ad av (nI d) N k) ∧ (∀ c, c ≠ 38 → a.2 c = τ c) ∧ ((a.1 = -1 ∧ ∀ k, k < n → ¬ b < tf aw ad av (nI d) N k) ∨ ∃ s, a.1 = nI s ∧ Brk (tf aw ad av (nI d) N) b n s)) := by
  unfold zfX11_tellAskings
  refine ok_lg (fun K1 hK1 => ?_)
  refine c_tell2 hn h3 (fun φ g1 g2 => ?_)
  simp only [hK1]
  refine ok_lg (fun K2 hK2 => ?_)
  refine ok_up (F := fun fu (x : Int32 × Mm) => zfX11_tellAskings_L31 K2 (nI d) fu x.1 x.2) N (fun j x => x.1 = nI j ∧ (∀ k, k < n → x.2 38 k = tf aw ad av (nI d) j k) ∧ ∀ c, c ≠ 38 → x.2 c = τ c) ?_ ?_ 0 NF (0, φ) ⟨rfl, g1, g2⟩ (by omega) (by unfold NF; omega)
  · rintro j fu ⟨y, φ⟩ hj ⟨hy, h1, h2⟩ hk
    have hy : y = nI j := hy
    subst hy
    have h1 : ∀ k, k < n → φ 38 k = tf aw ad av (nI d) j k := h1
    have h2 : ∀ c, c ≠ 38 → φ c = τ c := h2
    show Ok (zfX11_tellAskings_L31 K2 (nI d) (fu + 1) (nI j) φ) _
    unfold zfX11_tellAskings_L31
    have hin : inb (nI j) 60 := (n_in (by omega)).mpr (by omega)
    obtain ⟨a1, a2, a3, a4, a5⟩ := hA j hj
    rw [if_neg (by rw [h2 699 (by omega), h699, n_le (by omega) (by omega)]; omega), ck_t hin, n_ix (by omega), h2 700 (by omega), a1]
    refine ok_lg (fun w hw => ?_)
    rw [ck_t hin]
    refine ok_lg (fun J hJ => ?_)
    have go : ∀ ψ : Mm, (∀ k, k < n → ψ 38 k = tf aw ad av (nI d) (j + 1) k) → (∀ c, c ≠ 38 → ψ c = τ c) → Ok (J ψ) _ := fun ψ e1 e2 => by
      simp only [hJ]
      refine ok_lg (fun y2 ey => ?_)
      rw [show nI j + 1 = nI (j + 1) from n_add _ 1] at ey
      exact hk (y2, ψ) ⟨ey, e1, e2⟩
    rw [h2 701 (by omega), a2]
    by_cases c : ad j = nI d
    · rw [if_pos c]
      have hsel : ¬ zfX11_isSeller w φ = 0 := by
        unfold zfX11_isSeller
        rw [lt_p, hw, a4.1, if_neg (n_nlt0 (by omega)), h2 3 (by omega), h3, if_neg (by rw [n_le (by omega) (by omega)]; omega)]
        decide
      rw [if_neg hsel, ck_t hin, hw, a4.1, ck_t ((n_in (by omega)).mpr (by omega)), n_ix (by omega), h2 702 (by omega), a3]
      refine ok_lg (fun ψ eψ => ?_)
      refine go ψ (fun k hk2 => ?_) (fun c hc => by rw [eψ, zst_n hc]; exact h2 c hc)
      rw [eψ]
      unfold tf
      by_cases e : k = ix (aw j)
      · rw [if_pos ⟨c, e⟩, e, zst_v]
      · rw [if_neg (fun h => e h.2), zst_k e]; exact h1 k hk2
    · rw [if_neg c]
      refine go φ (fun k hk2 => ?_) h2
      unfold tf
      rw [if_neg (fun h => c h.1)]; exact h1 k hk2
  · rintro fu ⟨y, φ⟩ ⟨hy, h1, h2⟩
    have hy : y = nI N := hy
    subst hy
    have h1 : ∀ k, k < n → φ 38 k = tf aw ad av (nI d) N k := h1
    have h2 : ∀ c, c ≠ 38 → φ c = τ c := h2
    show Ok (zfX11_tellAskings_L31 K2 (nI d) (fu + 1) (nI N) φ) _
    unfold zfX11_tellAskings_L31
    rw [if_pos (by rw [h2 699 (by omega), h699]; exact Int32.le_refl _)]
    simp only [hK2]
    refine ok_lg (fun K3 hK3 => ?_)
    refine ok_lg (fun K4 hK4 => ?_)
    refine ok_up (F := fun fu (x : Int32) => zfX11_tellAskings_L99 K4 K3 fu x φ) n (fun j x => x = nI j ∧ ∀ k, k < j → ¬ b < tf aw ad av (nI d) N k) ?_ ?_ 0 NF 0 ⟨rfl, fun k hk => absurd hk (Nat.not_lt_zero k)⟩ (by omega) (by unfold NF; omega)
    · rintro j fu y hj ⟨hy, hno⟩ hk
      subst hy
      show Ok (zfX11_tellAskings_L99 K4 K3 (fu + 1) (nI j) φ) _
      unfold zfX11_tellAskings_L99
      rw [if_neg (by rw [h2 3 (by omega), h3, n_le (by omega) (by omega)]; omega), ck_t ((n_in (by omega)).mpr (by omega)), n_ix (by omega), h1 j hj, h2 69 (by omega), hb]
      by_cases c : tf aw ad av (nI d) N j ≤ b
      · rw [if_pos c]
        refine ok_lg (fun y2 ey => ?_)
        rw [show nI j + 1 = nI (j + 1) from n_add _ 1] at ey
        refine hk y2 ⟨ey, fun k hk2 => ?_⟩
        by_cases e : k = j
        · subst e; intro h; rw [Int32.lt_iff_toInt_lt] at h; rw [Int32.le_iff_toInt_le] at c; omega
        · exact hno k (by omega)
      · rw [if_neg c]
        simp only [hK3]
        rw [ok_s]
        refine ⟨h1, h2, Or.inr ⟨j, rfl, hj, ?_, hno⟩⟩
        rw [Int32.le_iff_toInt_le] at c; rw [Int32.lt_iff_toInt_lt]; omega
    · rintro fu y ⟨hy, hno⟩
      subst hy
      show Ok (zfX11_tellAskings_L99 K4 K3 (fu + 1) (nI n) φ) _
      unfold zfX11_tellAskings_L99
      rw [if_pos (by rw [h2 3 (by omega), h3]; exact Int32.le_refl _)]
      simp only [hK4]
      rw [ok_s]
      exact ⟨h1, h2, Or.inl ⟨rfl, hno⟩⟩
theorem tellP_tellP {P : Pm} {f g : Nat → Int32} : tellP (tellP P f) g = tellP P g := by
  unfold tellP
  have : (fun (i k : Nat) => if i = 2 then g k else (if i = 2 then f k else P.2.2.1 i k)) = fun i k => if i = 2 then g k else P.2.2.1 i k := by
    funext i k
    by_cases e : i = 2
    · rw [if_pos e, if_pos e]
    · rw [if_neg e, if_neg e, if_neg e]
  exact congrArg (fun r => (P.1, P.2.1, r, P.2.2.2)) this
/-- days by askings told -/
noncomputable def mth (P : Pm) (s : Mm) (F : Nat → Nat → Int32) : Nat → Mm
  | 0 => s
  | j + 1 => dayS (tellP P (F j)) 0 (mth P s F j)
theorem mth_wf {P : Pm} {s : Mm} {rc B : Nat} {F : Nat → Nat → Int32} (hP : IvP P) (hF : ∀ j k, F j k = -1 ∨ sm 20 (F j k)) (hs : WFs P s) (hR : RuS P rc s) (hB : sm B (s 0 1)) (hB2 : B < 800000) : ∀ j, j ≤ 1000 → WFs P (mth P s F j) ∧ RuS P rc (mth P s F j) ∧ sm (B + j) (mth P s F j 0 1) ∧ mth P s F j 6 = s 6 ∧ mth P s F j 0 3 = s 0 3 := by
  intro j
  induction j with
  | zero => intro _; exact ⟨hs, hR, hB, rfl, rfl⟩
  | succ j ih =>
    intro hj
    obtain ⟨i1, i2, i3, i4, i5⟩ := ih (by omega)
    have w : WFs (tellP P (F j)) (mth P s F j) := i1
    have := dayS_wf (f := 0) (tellP_w hP.1 hP.2.2.1 (fun k _ => hF j k)) w i3 (by omega)
    have r : RuS (tellP P (F j)) rc (mth P s F j) := i2
    have w2 : WFs P (mth P s F (j + 1)) := this.1
    have r2 : RuS P rc (mth P s F (j + 1)) := r.day (f := 0)
    exact ⟨w2, r2, this.2, by show dayS _ 0 _ 6 = _; rw [dayS_6, i4], by show dayS _ 0 _ 0 3 = _; rw [dayS_3, i5]⟩
/-- how a month ends: lawful, or by whom broken when -/
def MoE (P : Pm) (s : Mm) (F : Nat → Nat → Int32) (d : Nat) (p q : Int32) : Prop :=
  (p = -1 ∧ q = -1 ∧ ∀ j, j < d → ∀ k, k < pn P → ¬ mth P s F j 0 0 < F j k) ∨ ∃ j t, j < d ∧ (∀ i, i < j → ∀ k, k < pn P → ¬ mth P s F i 0 0 < F i k) ∧ Brk (F j) (mth P s F j 0 0) (pn P) t ∧ p = nI j ∧ q = nI t
theorem MoE.uniq {P : Pm} {s : Mm} {F : Nat → Nat → Int32} {d : Nat} {p q p2 q2 : Int32} (h : MoE P s F d p q) (h2 : MoE P s F d p2 q2) : p = p2 ∧ q = q2 := by
  rcases h with ⟨a1, a2, a3⟩ | ⟨j, t, a1, a2, a3, a4, a5⟩
  · rcases h2 with ⟨b1, b2, b3⟩ | ⟨j, t, b1, b2, b3, b4, b5⟩
    · exact ⟨a1.trans b1.symm, a2.trans b2.symm⟩
    · exact absurd b3.2.1 (a3 j b1 t b3.1)
  · rcases h2 with ⟨b1, b2, b3⟩ | ⟨j2, t2, b1, b2, b3, b4, b5⟩
    · exact absurd a3.2.1 (b3 j a1 t a3.1)
    · have : j = j2 := by
        rcases Nat.lt_trichotomy j j2 with c | c | c
        · exact absurd a3.2.1 (b2 j c t a3.1)
        · exact c
        · exact absurd b3.2.1 (a2 j2 c t2 b3.1)
      subst this
      have := a3.uniq b3
      subst this
      exact ⟨a4.trans b4.symm, a5.trans b5.symm⟩
theorem c_month {B : Nat} {P : Pm} {rc d N : Nat} {s σ τ0 : Mm} {aw ad av : Nat → Int32} {K1 : Mm → Option (Int32 × Mm)} {K2 : Int32 → Int32 → Mm → Option (Int32 × Mm)} {Q : Int32 × Mm → Prop} (hB : B < 800000) (hI : Ivx B P rc s σ) (h0 : 0 < pn P) (hd : d ≤ 30) (hN : N ≤ 60) (h699 : σ 699 3 = nI N) (hA : ∀ k, k < N → σ 700 k = aw k ∧ σ 701 k = ad k ∧ σ 702 k = av k ∧ sm 5 (aw k) ∧ ix (aw k) < pn P) (hav : ∀ k, k < N → sm 20 (av k))
    (b1 : AgS 69 τ0 s) (b3 : PmC P τ0) (b4 : RuC P rc τ0) (b5 : FrS σ τ0)
    (hK1 : ∀ τ, FrS σ τ → MoE P s (fun j => tf aw ad av (nI j) N) d (-1) (-1) → Ok (K1 τ) Q) (hK2 : ∀ p q τ, FrS σ τ → MoE P s (fun j => tf aw ad av (nI j) N) d p q → Ok (K2 p q τ) Q) : Ok (zfX11_month_L27 (nI d) K1 K2 NF 0 τ0) Q := by
  obtain ⟨h1, h2, h3, h4, ⟨⟨s1, s2, s3, t4, t5, t6⟩, s4⟩, h6⟩ := id hI
  have hn5 := h2.1.1
  have hn := hI.n
  generalize hF : (fun j => tf aw ad av (nI j) N) = F at hK1 hK2
  have hFj : ∀ j, tf aw ad av (nI j) N = F j := fun j => by rw [← hF]
  have hF0 : ∀ j k, F j k = -1 ∨ sm 20 (F j k) := fun j k => by rw [← hFj]; exact tf_ok hav k
  refine ok_up (F := fun fu (x : Int32 × Mm) => zfX11_month_L27 (nI d) K1 K2 fu x.1 x.2) d (fun j x => x.1 = nI j ∧ AgS 69 x.2 (mth P s F j) ∧ (∃ f, PmC (tellP P f) x.2) ∧ RuC P rc x.2 ∧ FrS σ x.2 ∧ ∀ i, i < j → ∀ k, k < pn P → ¬ mth P s F i 0 0 < F i k) ?_ ?_ 0 NF (0, τ0) ⟨rfl, b1, ⟨fun k => τ0 38 k, tellC b3 h2.2.2.1 (fun _ _ => rfl) (fun _ _ => rfl)⟩, b4, b5, fun i hi => absurd hi (Nat.not_lt_zero i)⟩ (by omega) (by unfold NF; omega)
  · rintro j fu ⟨y, τ⟩ hj ⟨hy, g1, ⟨f, g2⟩, g3, g4, g5⟩ hk
    have hy : y = nI j := hy
    subst hy
    have g1 : AgS 69 τ (mth P s F j) := g1
    have g2 : PmC (tellP P f) τ := g2
    have g3 : RuC P rc τ := g3
    have g4 : FrS σ τ := g4
    obtain ⟨w1, w2, w3, w4, w5⟩ := mth_wf h2 hF0 s3 t4 t5 hB j (by omega)
    show Ok (zfX11_month_L27 (nI d) K1 K2 (fu + 1) (nI j) τ) Q
    unfold zfX11_month_L27
    rw [if_neg (by rw [n_le (by omega) (by omega)]; omega), ok_bd2]
    refine ok_mono (c_tells (d := j) (aw := aw) (ad := ad) (av := av) (b := mth P s F j 0 0) hn5 hN (by rw [g4.1 3 (by omega)]; exact hn.2.1) (by rw [g4.1 699 (by omega)]; exact h699) (fun k hk => by rw [g4.1 700 (by omega), g4.1 701 (by omega), g4.1 702 (by omega)]; exact hA k hk) (g1.1 0 (by omega))) (fun a ha => ?_)
    obtain ⟨a1, a2, a3⟩ := ha
    rw [hFj] at a1 a3
    have fr2 : FrS σ a.2 := g4.trans ⟨fun c hc => a2 c (by omega), fun k _ => by rw [a2 714 (by omega)], fun k _ => by rw [a2 703 (by omega)]⟩
    rcases a3 with ⟨a4, a5⟩ | ⟨t, a4, a5⟩
    · rw [if_pos a4, ok_bd]
      have C2 : PmC (tellP P (F j)) a.2 := by
        have := tellC (f := F j) (τ1 := a.2) g2 h2.2.2.1 (fun c hc => a2 c (by omega)) (fun k hk => a1 k hk)
        rw [tellP_tellP] at this
        exact this
      have R2 : RuC (tellP P (F j)) rc a.2 := by
        have : RuC P rc a.2 := g3.of (fun r hr => ⟨a2 _ (by have := t4.1; omega), a2 _ (by have := t4.1; omega)⟩)
        exact this
      have ws : WFs (tellP P (F j)) (mth P s F j) := w1
      have wr' : RuS (tellP P (F j)) rc (mth P s F j) := w2
      refine ok_mono (c_step (tellP_w h2.1 h2.2.2.1 (fun k _ => hF0 j k)) ws wr' (g1.fr (fun c h1 h2 => a2 c (by omega))) C2 R2) (fun φ hφ => ?_)
      obtain ⟨d1, d2, d3, d4⟩ := hφ
      refine ok_lg (fun y2 ey => ?_)
      rw [show nI j + 1 = nI (j + 1) from n_add _ 1] at ey
      have R3 : RuC P rc φ := by
        have := R2.fr t4.1 d3
        exact this
      refine hk (y2, φ) ⟨ey, d1, ⟨F j, C2.fr d3⟩, R3, fr2.trans d3.s, fun i hi => ?_⟩
      by_cases e : i = j
      · subst e; exact a5
      · exact g5 i (by omega)
    · rw [if_neg (by rw [a4]; exact n_ne1 (by have := a5.1; omega))]
      exact hK2 _ _ a.2 fr2 (Or.inr ⟨j, t, hj, g5, a5, rfl, a4⟩)
  · rintro fu ⟨y, τ⟩ ⟨hy, g1, g2, g3, g4, g5⟩
    have hy : y = nI d := hy
    subst hy
    show Ok (zfX11_month_L27 (nI d) K1 K2 (fu + 1) (nI d) τ) Q
    unfold zfX11_month_L27
    rw [if_pos (Int32.le_refl _)]
    exact hK1 τ g4 (Or.inl ⟨rfl, rfl, g5⟩)
