/-! ===== what a new rule is worth ===== -/
theorem ClV_cg {lam lam2 : Nat → Int32} (h : ∀ j, j < 6 → lam j = lam2 j) {c : Option (List Int32) × List Int32} {b v : Int32} : ClV lam c b v ↔ ClV lam2 c b v := by
  unfold ClV
  rw [run_cg h]
theorem PV_cg {lam lam2 : Nat → Int32} (h : ∀ j, j < 6 → lam j = lam2 j) : ∀ {cs : List (Option (List Int32) × List Int32)} {v : Int32}, PV lam cs v ↔ PV lam2 cs v := by
  intro cs
  induction cs with
  | nil => intro v; exact Iff.rfl
  | cons c cs ih =>
    intro v
    show (∃ b w, ClV lam c b w ∧ (if b = 0 then PV lam cs v else v = w)) ↔ ∃ b w, ClV lam2 c b w ∧ (if b = 0 then PV lam2 cs v else v = w)
    simp only [ClV_cg h, ih]
theorem ClV_u {lam : Nat → Int32} {c : Option (List Int32) × List Int32} {b v b2 v2 : Int32} (h : ClV lam c b v) (h2 : ClV lam c b2 v2) : b = b2 ∧ v = v2 := by
  obtain ⟨a1, a2⟩ := h
  obtain ⟨d1, d2⟩ := h2
  refine ⟨?_, by rw [a2] at d2; injection d2⟩
  cases hc : c.1 with
  | none => rw [hc] at a1 d1; exact a1.trans d1.symm
  | some C =>
    rw [hc] at a1 d1
    have a1 : run lam C [] = [b] := a1
    have d1 : run lam C [] = [b2] := d1
    rw [a1] at d1; injection d1
theorem PV_u {lam : Nat → Int32} : ∀ {cs : List (Option (List Int32) × List Int32)} {v w : Int32}, PV lam cs v → PV lam cs w → v = w := by
  intro cs
  induction cs with
  | nil => intro v w h h2; exact (show v = 0 from h).trans (show w = 0 from h2).symm
  | cons c cs ih =>
    intro v w h h2
    obtain ⟨b, x, h3, h4⟩ := (show ∃ b x, ClV lam c b x ∧ (if b = 0 then PV lam cs v else v = x) from h)
    obtain ⟨b2, x2, g3, g4⟩ := (show ∃ b x, ClV lam c b x ∧ (if b = 0 then PV lam cs w else w = x) from h2)
    obtain ⟨rfl, rfl⟩ := ClV_u h3 g3
    by_cases e : b = 0
    · rw [if_pos e] at h4 g4; exact ih h4 g4
    · rw [if_neg e] at h4 g4; exact h4.trans g4.symm
noncomputable def wv (cs : List (Option (List Int32) × List Int32)) (lam : Nat → Int32) : Int32 := @dite Int32 (∃ v, PV lam cs v) (Classical.propDecidable _) (fun h => Classical.choose h) (fun _ => 0)
theorem wv_eq {cs : List (Option (List Int32) × List Int32)} {lam : Nat → Int32} {v : Int32} (h : PV lam cs v) : wv cs lam = v := by
  have hx : ∃ v, PV lam cs v := ⟨v, h⟩
  unfold wv
  rw [dif_pos hx]
  exact PV_u (Classical.choose_spec hx) h
theorem wv_cg {cs : List (Option (List Int32) × List Int32)} {lam lam2 : Nat → Int32} (h : ∀ j, j < 6 → lam j = lam2 j) : wv cs lam = wv cs lam2 := by
  have e : PV lam cs = PV lam2 cs := funext fun v => propext (PV_cg h)
  unfold wv
  rw [e]
/-- letters laid so that the reference reads them -/
def lr7 (lam : Nat → Int32) : Nat → Int32 := fun j => if j = 112 then lam 0 else if j = 103 then lam 1 else if j = 99 then lam 2 else if j = 100 then lam 3 else if j = 117 then lam 4 else if j = 119 then lam 5 else 0
theorem lr7_k {lam : Nat → Int32} {σ : Mm} {k : Nat} (hk : k < 6) : lamR (wr σ 707 (lr7 lam)) k = lam k := by
  unfold lamR
  rw [wr_s]
  have : k = 0 ∨ k = 1 ∨ k = 2 ∨ k = 3 ∨ k = 4 ∨ k = 5 := by omega
  rcases this with rfl | rfl | rfl | rfl | rfl | rfl
  · rw [show ix (lett 0) = 112 by decide]; rfl
  · rw [show ix (lett 1) = 103 by decide]; rfl
  · rw [show ix (lett 2) = 99 by decide]; rfl
  · rw [show ix (lett 3) = 100 by decide]; rfl
  · rw [show ix (lett 4) = 117 by decide]; rfl
  · rw [show ix (lett 5) = 119 by decide]; rfl
/-- a rule without fault is worth something whatever the letters say -/
theorem PV_ex {n : Nat} {t : Nat → Int32} {σ : Mm} {cs : List (Option (List Int32) × List Int32)} (hR : ∀ τ, τ 704 = σ 704 → RT (gst τ 704 0 (nI n)) t n)
    (h : ∀ σ c b, RT (gst σ c b (nI n)) t n → ∃ τ, zfX12_goThrough c b (nI n) σ = some τ ∧ τ 703 11 = -1 ∧ FrG σ τ ∧ (LO σ → PV (lamR σ) cs (τ 703 14))) {lam : Nat → Int32} (hl : ∀ j, j < 6 → -2147483648 < (lam j).toInt) : PV lam cs (wv cs lam) := by
  obtain ⟨τ, k1, k2, k3, k4⟩ := h (wr σ 707 (lr7 lam)) 704 0 (hR _ (wr_n (by omega)))
  have := k4 (fun k hk => by rw [lr7_k hk]; exact hl k hk)
  rw [PV_cg (fun j hj => lr7_k hj)] at this
  rw [wv_eq this]
  exact this
/-- one rule more -/
noncomputable def addP (P : Pm) (rc : Nat) (cs : List (Option (List Int32) × List Int32)) : Pm := (P.1, P.2.1, P.2.2.1, fun r lam => if r = rc then wv cs lam else pW P r lam)
theorem addP_W {P : Pm} {rc r : Nat} {cs : List (Option (List Int32) × List Int32)} {lam : Nat → Int32} : pW (addP P rc cs) r lam = if r = rc then wv cs lam else pW P r lam := rfl
theorem addP_C {P : Pm} {rc n : Nat} {t : Nat → Int32} {σ φ : Mm} {cs : List (Option (List Int32) × List Int32)} (hrc : rc < 5) (hl : plen cs ≤ n) (hn : n ≤ 160) (h : RuC P rc σ) (f : ∀ r, r < rc → φ (12 + 3 * r) = σ (12 + 3 * r) ∧ φ (13 + 3 * r) = σ (13 + 3 * r))
    (h2 : φ (12 + 3 * rc) 2 = nI (plen cs)) (h3 : ∀ i, i < plen cs → φ (13 + 3 * rc) i = (prg 0 cs).getD i 0) (hR : ∀ τ, τ 704 = σ 704 → RT (gst τ 704 0 (nI n)) t n)
    (hx : ∀ σ c b, RT (gst σ c b (nI n)) t n → ∃ τ, zfX12_goThrough c b (nI n) σ = some τ ∧ τ 703 11 = -1 ∧ FrG σ τ ∧ (LO σ → PV (lamR σ) cs (τ 703 14))) : RuC (addP P rc cs) (rc + 1) φ := by
  intro r hr τ e1 e2 hlo
  by_cases c : r = rc
  · subst c
    have hz : zIsR (12 + 3 * r) := by
      have : r = 0 ∨ r = 1 ∨ r = 2 ∨ r = 3 ∨ r = 4 := by omega
      rcases this with rfl | rfl | rfl | rfl | rfl <;> decide
    obtain ⟨row, hw⟩ := worth_c (q := 12 + 3 * r) (n := n) (cs := cs) (τ := τ) (v := wv cs (τ 42)) hz (by omega) (by rw [e1]; exact h2) (fun i hi => by rw [show 12 + 3 * r + 1 = 13 + 3 * r by omega, e2]; exact h3 i hi) (PV_ex hR hx hlo)
    rw [hw, ok_s, addP_W, if_pos rfl]
    exact ⟨rfl, fun c hc => wr_n hc⟩
  · have := h r (by omega) τ (e1.trans (f r (by omega)).1) (e2.trans (f r (by omega)).2) hlo
    rw [addP_W, if_neg c]
    exact this
theorem addP_R {P : Pm} {rc n : Nat} {t : Nat → Int32} {σ φ : Mm} {cs : List (Option (List Int32) × List Int32)} (hrc : rc < 5) (hn : n ≤ 160) (hT : Tp t (σ 704) n) (h : RuR P rc σ)
    (f5 : ∀ j, φ 705 j = if 160 * rc ≤ j ∧ j < 160 * rc + n then vp_nar .byte (σ 704 (j - 160 * rc)) else σ 705 j) (f6 : ∀ r, φ 706 r = if r = rc then nI n else σ 706 r)
    (hx : ∀ σ c b, RT (gst σ c b (nI n)) t n → ∃ τ, zfX12_goThrough c b (nI n) σ = some τ ∧ τ 703 11 = -1 ∧ FrG σ τ ∧ (LO σ → PV (lamR σ) cs (τ 703 14))) : RuR (addP P rc cs) (rc + 1) φ := by
  intro r hr τ e hlo
  by_cases c : r = rc
  · subst c
    rw [f6, if_pos rfl, addP_W, if_pos rfl]
    have hRT : RT (gst τ 705 (160 * nI r) (nI n)) t n := by
      refine ⟨705, 160 * r, ?_, Or.inr ⟨rfl, by omega⟩, ?_, ?_, fun k hk => ?_⟩
      · unfold gst; rw [zst_k (by omega), zst_k (by omega), zst_k (by omega), zst_k (by omega), zst_k (by omega), zst_v]
      · unfold gst; rw [zst_k (by omega), zst_k (by omega), zst_k (by omega), zst_k (by omega), zst_v]; exact n_mul 160 r
      · unfold gst; rw [zst_k (by omega), zst_k (by omega), zst_k (by omega), zst_v]
      · dsimp only
        rw [gst_c (by omega), e k (by omega), f5, if_pos (by omega), show 160 * r + k - 160 * r = k by omega]
        have h1 := hT k hk
        have h2 := nar_b8 (σ 704 k)
        exact ⟨h2.1.trans h1.1, h2.2⟩
    obtain ⟨υ, k1, k2, k3, k4⟩ := hx τ 705 (160 * nI r) hRT
    rw [k1, ok_s]
    exact ⟨(wv_eq (k4 hlo)).symm, k3⟩
  · rw [f6, if_neg c, addP_W, if_neg c]
    exact h r (by omega) τ (fun k hk => by rw [e k hk, f5, if_neg (by omega)]) hlo
theorem addP_S {P : Pm} {rc : Nat} {s : Mm} {cs : List (Option (List Int32) × List Int32)} (hrc : rc < 5) (h : RuS P rc s) : RuS (addP P rc cs) (rc + 1) s := by
  obtain ⟨h1, h2, h3⟩ := h
  refine ⟨by omega, fun r lam lam2 e => ?_, fun k hk => (h3 k hk).imp id (fun h => ⟨h.1, by omega⟩)⟩
  rw [addP_W, addP_W, wv_cg e, h2 r lam lam2 e]
