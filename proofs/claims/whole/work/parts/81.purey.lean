/-! ===== the reference goes on by a day ===== -/
/-- what its days go by, kept apart -/
def Kp (P : Pm) (rc B : Nat) (s τ0 : Mm) : Prop := IvP P ∧ WFs P s ∧ sm B (s 0 1) ∧ B < 900000 ∧ RuS P rc s ∧ (∀ k, pn P ≤ k → k < 6 → ¬ hob (s 0 3) k) ∧ PmR P s τ0 ∧ τ0 703 43 = 0 ∧ RuR P rc τ0
theorem r_goesj {P : Pm} {rc B j : Nat} {s τ0 τ : Mm} (h : Kp P rc B s τ0) (f : FrT τ0 τ) (hA : RRs P τ (dys P s j)) (hj : j ≤ 900) :
    Ok (zfX12_goes 0 τ) (fun φ => RRs P φ (dys P s (j + 1)) ∧ FrT τ0 φ ∧ (∀ k, k < pn P → φ 718 k = dA P 0 (dys P s j) k ∧ φ 719 k = nI ((dX P 0 (dys P s j)).1 k) * dA P 0 (dys P s j) k ∧ φ 720 k = nI (dG P (dys P s j) k)) ∧ φ 703 46 = (if (dU P 0 (dys P s j)).1 = 0 then 1 else 0)) := by
  obtain ⟨h1, h2, h3, h4, h5, h6, h7, h8, h9⟩ := h
  refine ok_mono (r_day (f := 0) (rc := rc) h1.1 h1.2.1 (dys_wf h1.1 h2 h3 h4 j (by omega)).1 (dys_ru h5 j) (by rw [dys_3]; exact h6) hA (h7.fr f (dys_3 j) (dys_6 j)) (Or.inl ⟨h1.2.2.1, by rw [f.1 43 (by omega)]; exact h8⟩) (h9.fr f)) (fun φ hφ => ?_)
  obtain ⟨g1, g2, g3, g4, g5, g6, g7⟩ := hφ
  exact ⟨g1, f.trans ⟨fun x hx => g6 x hx, fun c a1 a2 a3 a4 a5 a6 a7 a8 a9 a10 a11 a12 => g7 c a1 a2 a3 a4 a5 a6 a7 a8 a9 a10⟩, g3, g2⟩
theorem rq_kept {B : Nat} {P : Pm} {rc : Nat} {s σ : Mm} {β : Type} {K : Mm → Option β} {Q : β → Prop} (hB : B < 900000) (hI : Ivx B P rc s σ) (h0 : 0 < pn P)
    (hK : ∀ τ, Kp P rc B s τ → RRs P τ s → (∀ j, j < 57 → τ 715 j = σ 714 j) → FrS σ τ → (∀ c, c ≠ 703 → c ≠ 715 → c ≠ 717 → τ c = σ c) → Ok (K τ) Q) : Ok (bd (zfX12_keep σ) K) Q := by
  obtain ⟨h1, h2, h3, ⟨r1, r2, r3, r4, r5⟩, ⟨hS, s4, s5, s6⟩, h6⟩ := hI
  rw [ok_bd]
  refine ok_mono (rq_keep h2 h3 r5 hS s4 s5 h0) (fun τ hτ => ?_)
  obtain ⟨b1, b2, b3, b4, b5, b6, b7, b8⟩ := hτ
  obtain ⟨s1, s2, s3, t4, t5, t6⟩ := hS
  exact hK τ ⟨h2, s3, t5, hB, t4, t6, b3, b4, b5⟩ b1 b2 b6 b8
/-! ===== when ===== -/
theorem nB_o {fl b : Int32} {N : Nat → Int32} {k : Nat} (h : 9 < k) : nB fl b N k = N k := by
  unfold nB nB5 nB4 nB3 nB2 nB1
  rw [upd_n (by omega), upd_n (by omega), upd_n (by omega), upd_n (by omega), upd_n (by omega)]
  split
  · rfl
  · rw [upd_n (by omega), upd_n (by omega)]
noncomputable def xC (P : Pm) (s : Mm) (N : Nat → Int32) (k : Nat) : Nat → Int32 := nC (dG P s) (s 0 3) (dA P 0 s) k (nB (if (dU P 0 s).1 = 0 then 1 else 0) (dayS P 0 s 0 0) N)
theorem nDay_c {P : Pm} {s : Mm} {N : Nat → Int32} : nDay P s N 11 = xC P s N (pn P) 11 ∧ nDay P s N 12 = xC P s N (pn P) 12 ∧ nDay P s N 13 = N 13 + 1 := by
  unfold nDay xC
  refine ⟨?_, ?_, ?_⟩
  · rw [upd_n (by omega), nG_k (by omega)]
  · rw [upd_n (by omega), nG_k (by omega)]
  · rw [upd_s, nG_k (by omega), nC_k (by omega) (by omega), nB_o (by omega)]
theorem nts_13 {P : Pm} {s : Mm} {b : Int32} {R : Nat → Int32} : ∀ j, nts P s (n0 b R) j 13 = nI j := by
  intro j
  induction j with
  | zero => rfl
  | succ j ih =>
    show nDay P (dys P s j) (nts P s (n0 b R) j) 13 = _
    rw [nDay_c.2.2, ih]; exact n_add _ 1
/-- the reference's pair against the class's -/
def Wh (M : Nat → Int32) (a b : Int32) : Prop := M 11 = a ∧ (a ≠ -1 → M 12 = b) ∧ (a = -1 → M 12 = -1)
theorem r_when51 {P : Pm} {s φ : Mm} {N : Nat → Int32} {j : Nat} {K : Int32 → Int32 → Mm → Option (Int32 × Mm)} {Q : Int32 × Mm → Prop} {a b : Int32} (hn : pn P ≤ 5) (hdG : ∀ k, dG P s k ≤ 99) (h24 : φ 703 24 = nI (pn P)) (h41 : φ 703 41 = s 0 3) (h7 : ∀ k, k < pn P → φ 718 k = dA P 0 s k ∧ φ 720 k = nI (dG P s k)) (hj : j ≤ 60) (h13 : N 13 = nI j) (hw : Wh N a b)
    (hK : ∀ a b, Wh (nDay P s N) a b → Ok (K a b φ) Q) : Ok (zfX12_when_L51 K (nI j) NF a b 0 φ) Q := by
  have hN : Wh (xC P s N 0) a b := by
    unfold Wh xC nC
    rw [nB_o (by omega), nB_o (by omega)]; exact hw
  have h13 : ∀ k, xC P s N k 13 = nI j := fun k => by unfold xC; rw [nC_k (by omega) (by omega), nB_o (by omega)]; exact h13
  refine ok_up (F := fun fu (x : Int32 × Int32 × Int32) => zfX12_when_L51 K (nI j) fu x.1 x.2.1 x.2.2 φ) (pn P) (fun k x => x.2.2 = nI k ∧ Wh (xC P s N k) x.1 x.2.1) ?_ ?_ 0 NF (a, b, 0) ⟨rfl, hN⟩ (by omega) (by unfold NF; omega)
  · rintro k fu ⟨a, b, y⟩ hk ⟨hy, hw⟩ hn2
    have hy : y = nI k := hy
    subst hy
    have hw : Wh (xC P s N k) a b := hw
    show Ok (zfX12_when_L51 K (nI j) (fu + 1) a b (nI k) φ) Q
    unfold zfX12_when_L51
    have hin : inb (nI k) 6 := (n_in (by omega)).mpr (by omega)
    rw [if_neg (by rw [h24, n_le (by omega) (by omega)]; omega), ck_t hin]
    refine ok_lg (fun J hJ => ?_)
    rw [n_ix (by omega), (h7 k hk).1, (h7 k hk).2, h41]
    have go : ∀ a2 b2, Wh (xC P s N (k + 1)) a2 b2 → Ok (J a2 b2 φ) Q := fun a2 b2 h => by
      simp only [hJ]
      refine ok_lg (fun y2 e => ?_)
      rw [show nI k + 1 = nI (k + 1) from n_add _ 1] at e
      exact hn2 (a2, b2, y2) ⟨e, h⟩
    have e1 : xC P s N (k + 1) = if dG P s k = 0 ∨ ¬ (s 0 3 >>> (nI k &&& 31)) &&& 1 = 0 ∨ (¬ xC P s N k 11 = -1 ∧ xC P s N k 12 ≤ dA P 0 s k) then xC P s N k else upd (upd (xC P s N k) 11 (xC P s N k 13)) 12 (dA P 0 s k) := rfl
    by_cases c1 : dG P s k = 0
    · rw [if_pos (by rw [c1]; rfl)]
      exact go a b (by rw [e1, if_pos (Or.inl c1)]; exact hw)
    · rw [if_neg (show ¬ nI (dG P s k) = 0 by rw [show (0 : Int32) = nI 0 from rfl, n_eq (by have := hdG k; omega) (by omega)]; exact c1)]
      by_cases c2 : (s 0 3 >>> (nI k &&& 31)) &&& 1 = 0
      case neg =>
        rw [if_neg (fun h => r_has.mp h c2)]
        exact go a b (by rw [e1, if_pos (Or.inr (Or.inl c2))]; exact hw)
      case pos =>
        rw [if_pos (r_has.mpr (fun h => h c2))]
        refine ok_lg (fun J2 hJ2 => ?_)
        have go2 : ¬ (¬ xC P s N k 11 = -1 ∧ xC P s N k 12 ≤ dA P 0 s k) → Ok (J2 φ) Q := fun h => by
          simp only [hJ2]
          rw [ck_t hin]
          refine ok_lg (fun b2 e => ?_)
          rw [(h7 k hk).1] at e
          subst e
          refine go (nI j) (dA P 0 s k) ?_
          rw [e1, if_neg (by rintro (h2 | h2 | h2); exact c1 h2; exact h2 c2; exact h h2)]
          refine ⟨by rw [upd_n (by omega), upd_s, h13], fun _ => by rw [upd_s], fun h => absurd h (n_ne1 (by omega))⟩
        by_cases c3 : a = -1
        · rw [if_pos c3]
          exact go2 (fun h => h.1 (hw.1.trans c3))
        · rw [if_neg c3, ck_t hin]
          by_cases c4 : dA P 0 s k < b
          · rw [if_pos c4]
            refine go2 (fun h => ?_)
            have h2 := h.2
            rw [hw.2.1 c3, Int32.le_iff_toInt_le] at h2
            rw [Int32.lt_iff_toInt_lt] at c4
            omega
          · rw [if_neg c4]
            refine go a b ?_
            rw [e1, if_pos (Or.inr (Or.inr ⟨by rw [hw.1]; exact c3, by rw [hw.2.1 c3, Int32.le_iff_toInt_le]; rw [Int32.lt_iff_toInt_lt] at c4; omega⟩))]
            exact hw
  · rintro fu ⟨a, b, y⟩ ⟨hy, hw⟩
    have hy : y = nI (pn P) := hy
    subst hy
    have hw : Wh (xC P s N (pn P)) a b := hw
    show Ok (zfX12_when_L51 K (nI j) (fu + 1) a b (nI (pn P)) φ) Q
    unfold zfX12_when_L51
    rw [if_pos (by rw [h24]; exact Int32.le_refl _)]
    exact hK a b ⟨by rw [nDay_c.1]; exact hw.1, fun h => by rw [nDay_c.2.1]; exact hw.2.1 h, fun h => by rw [nDay_c.2.1]; exact hw.2.2 h⟩
theorem r_when37 {P : Pm} {rc B d : Nat} {s τ0 : Mm} {R : Nat → Int32} {K : Int32 → Int32 → Mm → Option (Int32 × Mm)} {Q : Int32 × Mm → Prop} (h : Kp P rc B s τ0) (hA : RRs P τ0 s) (hd : d ≤ 30)
    (hK : ∀ a b τ, Wh (nts P s (n0 (s 0 0) R) d) a b → FrT τ0 τ → Ok (K a b τ) Q) : Ok (zfX12_when_L37 (nI d) K NF (-1) 0 0 τ0) Q := by
  refine ok_up (F := fun fu (x : Int32 × Int32 × Int32 × Mm) => zfX12_when_L37 (nI d) K fu x.1 x.2.1 x.2.2.1 x.2.2.2) d (fun j x => x.2.2.1 = nI j ∧ Wh (nts P s (n0 (s 0 0) R) j) x.1 x.2.1 ∧ FrT τ0 x.2.2.2 ∧ RRs P x.2.2.2 (dys P s j)) ?_ ?_ 0 NF (-1, 0, 0, τ0) ⟨rfl, ⟨rfl, fun h => absurd rfl h, fun _ => rfl⟩, FrT.refl, hA⟩ (by omega) (by unfold NF; omega)
  · rintro j fu ⟨a, b, y, τ⟩ hj ⟨hy, hw, f, hR⟩ hk
    have hy : y = nI j := hy
    subst hy
    have hw : Wh (nts P s (n0 (s 0 0) R) j) a b := hw
    have f : FrT τ0 τ := f
    have hR : RRs P τ (dys P s j) := hR
    show Ok (zfX12_when_L37 (nI d) K (fu + 1) a b (nI j) τ) Q
    unfold zfX12_when_L37
    rw [if_neg (by rw [n_le (by omega) (by omega)]; omega), ok_bd]
    refine ok_mono (r_goesj h f hR (by omega)) (fun φ hφ => ?_)
    obtain ⟨g1, g2, g3, g4⟩ := hφ
    refine ok_lg (fun J hJ => ?_)
    have hs := (dys_wf h.1.1 h.2.1 h.2.2.1 h.2.2.2.1 j (by omega)).1
    refine r_when51 (P := P) (s := dys P s j) (N := nts P s (n0 (s 0 0) R) j) h.1.1.1 (dG_le hs) (by rw [g2.1 24 (by omega)]; exact h.2.2.2.2.2.2.1.1) (by rw [g2.1 41 (by omega), dys_3]; exact h.2.2.2.2.2.2.1.2.2.1) (fun k hk => ⟨(g3 k hk).1, (g3 k hk).2.2⟩) (by omega) (nts_13 j) hw (fun a2 b2 hw2 => ?_)
    simp only [hJ]
    refine ok_lg (fun y2 e => ?_)
    rw [show nI j + 1 = nI (j + 1) from n_add _ 1] at e
    exact hk (a2, b2, y2, φ) ⟨e, hw2, g2, g1⟩
  · rintro fu ⟨a, b, y, τ⟩ ⟨hy, hw, f, hR⟩
    have hy : y = nI d := hy
    subst hy
    show Ok (zfX12_when_L37 (nI d) K (fu + 1) a b (nI d) τ) Q
    unfold zfX12_when_L37
    rw [if_pos (Int32.le_refl _)]
    exact hK a b τ hw f
theorem q_when {B : Nat} (hB : B < 900000) (x y : Int32) : Qy B (zfX11_when x y) (zfX12_when x y) := by
  refine q_gate1 x y (fun _ => rfl) (fun _ => rfl) (fun P rc s σ d hI h0 d1 d2 hx hy => ?_)
  subst hx
  refine cq_walk hB hI h0 d2 (fun τ t1 t2 t3 => ?_)
  have yes : ∀ v : Int32, v = (if y = 0 then nts P s (n0 (s 0 0) (σ 68)) d 11 else nts P s (n0 (s 0 0) (σ 68)) d 12) → ∀ υ, Ivx B P rc s υ → Ok (bd (zfX12_keep υ) (fun σ26 => lt (fun (x3_126 : Int32) (x4_126 : Int32) (σ126 : Mm) => bd (zfX12_putBack σ126) (fun σ127 => if x3_126 = (-1) then (some ((-1), σ127)) else (if y = 0 then (some (x3_126, σ127)) else (some (x4_126, σ127))))) (fun k126 => zfX12_when_L37 (nI d) k126 NF (-1) 0 0 σ26))) (fun b => b.1 = v ∧ FrS υ b.2) := fun v hv υ hυ => by
    refine rq_kept hB hυ h0 (fun τ0 k1 k2 k3 k4 k5 => ?_)
    refine ok_lg (fun K hK => ?_)
    refine r_when37 (R := σ 68) k1 k2 d2 (fun a b τ1 hw f => ?_)
    simp only [hK]
    rw [ok_bd]
    refine ok_mono (rq_back k4 k3 f) (fun φ hφ => ?_)
    rw [hv]
    by_cases c : a = -1
    · rw [if_pos c, ok_s]
      refine ⟨?_, hφ.1⟩
      split
      · rw [hw.1, c]
      · rw [hw.2.2 c]
    · rw [if_neg c]
      by_cases c2 : y = 0
      · rw [if_pos c2, if_pos c2, ok_s]; exact ⟨hw.1.symm, hφ.1⟩
      · rw [if_neg c2, if_neg c2, ok_s]; exact ⟨(hw.2.1 c).symm, hφ.1⟩
  by_cases c : y = 0
  · rw [if_pos c, ok_s]
    exact ⟨t3, yes _ (by rw [if_pos c, t2])⟩
  · rw [if_neg c, ok_s]
    exact ⟨t3, yes _ (by rw [if_neg c, t2])⟩
