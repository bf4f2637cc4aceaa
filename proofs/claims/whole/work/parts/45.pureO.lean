/-! ===== the class reads clauses of a market ===== -/
theorem c_init {k43 : Mm → Option (Int32 × Mm)} {σ : Mm} {Q : Int32 × Mm → Prop} (H : ∀ τ, (∀ k, k < 8 → τ 44 k = zus k ∧ τ 45 k = 0) → (∀ c, c ≠ 44 → c ≠ 45 → τ c = σ c) → Ok (k43 τ) Q) : Ok (zfX1_items_L2 k43 NF 0 σ) Q := by
  refine ok_up (F := fun fu (s : Int32 × Mm) => zfX1_items_L2 k43 fu s.1 s.2) 8 (fun i s => s.1 = nI i ∧ (∀ k, k < i → s.2 44 k = zus k ∧ s.2 45 k = 0) ∧ (∀ c, c ≠ 44 → c ≠ 45 → s.2 c = σ c)) ?_ ?_ 0 NF (0, σ) ⟨rfl, fun k hk => absurd hk (Nat.not_lt_zero k), fun c _ _ => rfl⟩ (by decide) (by unfold NF; omega)
  · rintro i fu ⟨x, τ⟩ hi ⟨hx, h1, h2⟩ hk
    have hx : x = nI i := hx
    subst hx
    show Ok (zfX1_items_L2 k43 (fu + 1) (nI i) τ) Q
    unfold zfX1_items_L2
    have hn : ¬ (8 : Int32) ≤ nI i := by rw [show (8 : Int32) = nI 8 from rfl, n_le (by decide) (by omega)]; omega
    rw [if_neg hn, if_neg hn, ok_ck]
    refine ⟨(n_in (by omega)).mpr (by show i < 8; exact hi), ?_⟩
    rw [ok_ck]
    refine ⟨(n_in (by omega)).mpr hi, ?_⟩
    rw [ok_lt, ok_ck]
    refine ⟨(n_in (by omega)).mpr hi, ?_⟩
    rw [ok_lt, ok_lt, n_ix (by omega), bool0, show nI i + 1 = nI (i + 1) from n_add _ 1]
    refine hk (nI (i + 1), _) ⟨rfl, fun k hk => ?_, fun c c1 c2 => ?_⟩
    · show zst (zst τ 44 i _) 45 i 0 44 k = zus k ∧ zst (zst τ 44 i _) 45 i 0 45 k = 0
      rw [zst_n (by decide), zst_s, zst_s]
      by_cases e : k = i
      · rw [e, upd_s, upd_s]; exact ⟨rfl, rfl⟩
      · rw [upd_n e, upd_n e, zst_n (by decide)]; exact h1 k (by omega)
    · show zst (zst τ 44 i _) 45 i 0 c = σ c
      rw [zst_n c2, zst_n c1]; exact h2 c c1 c2
  · rintro fu ⟨x, τ⟩ ⟨hx, h1, h2⟩
    have hx : x = nI 8 := hx
    subst hx
    show Ok (zfX1_items_L2 k43 (fu + 1) (nI 8) τ) Q
    unfold zfX1_items_L2
    rw [if_pos (by decide)]
    exact H τ h1 h2
theorem c_items {t : Nat → Int32} {n κ p : Nat} {σ : Mm} (ht : ∀ k, k < n → 0 ≤ (t k).toInt ∧ (t k).toInt < 256) (hκ : κ < 3) (hT : CT σ t n) (hσ : σ 43 1 = nI p) (hp : p ≤ n) :
    Ok (zfX1_items (nI κ) σ) (fun a => match itms t n κ 200 p zus (fun _ => 0) with
      | .error e => a.1 = 0 ∧ a.2 43 2 = nI e ∧ FrK σ a.2
      | .ok (p', V') => a.1 = 1 ∧ a.2 43 1 = nI p' ∧ p ≤ p' ∧ p' ≤ n ∧ (∀ k, k < 8 → a.2 44 k = V' k) ∧ FrK σ a.2) := by
  have hn := hT.2.1
  unfold zfX1_items
  have hNF : 100 < NF := by unfold NF; omega
  rw [ok_lt]
  refine c_init (fun τ h1 h2 => ?_)
  have hfr : FrK σ τ := fun c a b d => h2 c b d
  have h0 : (0 : Nat) = tn κ (fun _ => 0) := by
    unfold tn
    have : b01 0 = 0 := by decide
    rw [this]; split <;> rfl
  have L := c_its ht hκ (k167 := fun σ167 => some (1, σ167)) 200 p τ 0 NF zus (fun _ => 0) (hfr.ct hT) (by rw [h2 43 (by decide) (by decide)]; exact hσ) hp (fun k hk => (h1 k hk).1) (fun k hk => (h1 k hk).2) h0 (by omega) (by omega)
  rw [n_0] at L
  generalize NF = N at L ⊢
  simp only [ok_lt]
  refine ok_mono L (fun a ha => ?_)
  cases hit : itms t n κ 200 p zus (fun _ => 0) with
  | error e => rw [hit] at ha; exact ⟨ha.1, ha.2.1, hfr.tr ha.2.2⟩
  | ok y =>
    obtain ⟨p', V'⟩ := y
    rw [hit] at ha
    obtain ⟨a1, a2, a3, a4, a5, a6⟩ := ha
    exact ⟨a1, a2, a3, a4, a5, hfr.tr a6⟩
/-- the sorts by worth, the greatest first -/
def BW (nb : Nat) (B row : Nat → Int32) : Prop := ∃ w : Nat → Nat, (∀ k, k < nb → row k = nI (w k) ∧ w k < nb) ∧ (∀ i j, i < j → j < nb → B (3 * w j) < B (3 * w i) ∨ B (3 * w i) = B (3 * w j) ∧ w i < w j) ∧ ∀ s, s < nb → ∃ k, k < nb ∧ w k = s
/-- the class's market holds what a text says -/
def CD (q : Nat) (σ : Mm) (D : MD) : Prop := D.1.1 ≤ 5 ∧ D.1.2.1 ≤ 6 ∧ D.1.2.2 ≤ 1 ∧ σ q 0 = nI D.1.1 ∧ σ q 1 = nI D.1.2.1 ∧ σ q 2 = nI D.1.2.2 ∧ σ q 3 = D.2.2.2 0 ∧ σ q 4 = D.2.2.2 1 ∧
  (∀ k, k < D.1.1 → σ (q + 1) k = D.2.1 (3 * k) ∧ σ (q + 2) k = D.2.1 (3 * k + 1) ∧ σ (q + 3) k = D.2.1 (3 * k + 2)) ∧ (∀ k, D.1.1 ≤ k → k < 6 → σ (q + 1) k = 0 ∧ σ (q + 2) k = 0 ∧ σ (q + 3) k = 0) ∧
  (∀ k, k < D.1.2.1 → σ (q + 4) k = D.2.2.1 (3 * k) ∧ σ (q + 5) k = D.2.2.1 (3 * k + 1) ∧ σ (q + 6) k = D.2.2.1 (3 * k + 2)) ∧ BW D.1.2.1 D.2.2.1 (σ (q + 7))
theorem CD.on {q : Nat} {σ τ : Mm} {D : MD} (h : CD q σ D) (hf : ∀ c, q ≤ c → c ≤ q + 7 → τ c = σ c) : CD q τ D := by
  unfold CD at h ⊢
  rw [hf q (by omega) (by omega), hf (q + 1) (by omega) (by omega), hf (q + 2) (by omega) (by omega), hf (q + 3) (by omega) (by omega), hf (q + 4) (by omega) (by omega), hf (q + 5) (by omega) (by omega), hf (q + 6) (by omega) (by omega), hf (q + 7) (by omega) (by omega)]
  exact h
theorem c_kind {q : Nat} {σ : Mm} {D : MD} {x : Int32} (h : CD q σ D) : zfX1_kindOf x q σ = (match kdS D x with | some κ => nI κ | none => -1) := by
  obtain ⟨b1, b2, b3, h1, h2, h3, -⟩ := h
  unfold zfX1_kindOf
  by_cases e1 : x = 98
  · subst e1
    have k : kdS D 98 = if D.1.2.1 < 6 then some 1 else none := by
      unfold kdS
      rw [if_neg (show ¬ (98 : Int32) = 115 by decide), if_pos rfl]
    rw [k, if_pos rfl, h2]
    by_cases c : D.1.2.1 < 6
    · have c' : ¬ (6 : Int32) ≤ nI D.1.2.1 := by rw [show (6 : Int32) = nI 6 from rfl, n_le (by decide) (by omega)]; omega
      rw [if_pos c, if_neg c']; rfl
    · have c' : (6 : Int32) ≤ nI D.1.2.1 := by rw [show (6 : Int32) = nI 6 from rfl, n_le (by decide) (by omega)]; omega
      rw [if_neg c, if_pos c']
  · rw [if_neg e1]
    by_cases e2 : x = 108
    · subst e2
      have k : kdS D 108 = if D.1.2.2 = 0 then some 2 else none := by
        unfold kdS
        rw [if_neg (show ¬ (108 : Int32) = 115 by decide), if_neg (show ¬ (108 : Int32) = 98 by decide), if_pos rfl]
      rw [k, if_pos rfl, h3]
      by_cases c : D.1.2.2 = 0
      · have c' : nI D.1.2.2 = 0 := by rw [c]; rfl
        rw [if_pos c, if_pos c']; rfl
      · have c' : ¬ nI D.1.2.2 = 0 := by rw [show (0 : Int32) = nI 0 from rfl, n_eq (by omega) (by decide)]; exact c
        rw [if_neg c, if_neg c']
    · rw [if_neg e2]
      by_cases e3 : x = 115
      · subst e3
        have k : kdS D 115 = if D.1.1 < 5 then some 0 else none := by
          unfold kdS
          rw [if_pos rfl]
        rw [k, if_pos rfl, h1]
        by_cases c : D.1.1 < 5
        · have c' : ¬ (5 : Int32) ≤ nI D.1.1 := by rw [show (5 : Int32) = nI 5 from rfl, n_le (by decide) (by omega)]; omega
          rw [if_pos c, if_neg c']; rfl
        · have c' : (5 : Int32) ≤ nI D.1.1 := by rw [show (5 : Int32) = nI 5 from rfl, n_le (by decide) (by omega)]; omega
          rw [if_neg c, if_pos c']
      · have k : kdS D x = none := by
          unfold kdS
          rw [if_neg e3, if_neg e1, if_neg e2]
        rw [k, if_neg e3]
theorem kdS_lt {D : MD} {x : Int32} {κ : Nat} (h : kdS D x = some κ) : κ < 3 ∧ (κ = 0 → x = 115 ∧ D.1.1 < 5) ∧ (κ = 1 → x = 98 ∧ D.1.2.1 < 6) ∧ (κ = 2 → x = 108 ∧ D.1.2.2 = 0) ∧ x ≠ -1 := by
  unfold kdS at h
  by_cases e1 : x = 115
  · rw [if_pos e1] at h
    by_cases c : D.1.1 < 5
    · rw [if_pos c] at h; cases h
      exact ⟨by decide, fun _ => ⟨e1, c⟩, fun e => absurd e (by decide), fun e => absurd e (by decide), by rw [e1]; decide⟩
    · rw [if_neg c] at h; cases h
  · rw [if_neg e1] at h
    by_cases e2 : x = 98
    · rw [if_pos e2] at h
      by_cases c : D.1.2.1 < 6
      · rw [if_pos c] at h; cases h
        exact ⟨by decide, fun e => absurd e (by decide), fun _ => ⟨e2, c⟩, fun e => absurd e (by decide), by rw [e2]; decide⟩
      · rw [if_neg c] at h; cases h
    · rw [if_neg e2] at h
      by_cases e3 : x = 108
      · rw [if_pos e3] at h
        by_cases c : D.1.2.2 = 0
        · rw [if_pos c] at h; cases h
          exact ⟨by decide, fun e => absurd e (by decide), fun e => absurd e (by decide), fun _ => ⟨e3, c⟩, by rw [e3]; decide⟩
        · rw [if_neg c] at h; cases h
      · rw [if_neg e3] at h; cases h
def FrQ (q : Nat) (σ τ : Mm) : Prop := ∀ c, (c < q ∨ q + 7 < c) → τ c = σ c
theorem c_addS {q : Nat} {σ : Mm} {D : MD} {V : Nat → Int32} (h : CD q σ D) (hns : D.1.1 < 5) : Ok (zfX0_addSeller q (V 0) (V 1) (V 2) σ) (fun a => a.1 = 1 ∧ CD q a.2 (adD D 0 V) ∧ FrQ q σ a.2) := by
  obtain ⟨⟨ns, nb, hl⟩, S, B, L⟩ := D
  obtain ⟨b1, b2, b3, h1, h2, h3, h4, h5, h6, h7, h8, h9⟩ := h
  dsimp only at *
  unfold zfX0_addSeller
  simp only [lt_p]
  have i1 : q ≠ q + 1 := by omega
  have i2 : q ≠ q + 2 := by omega
  have i3 : q ≠ q + 3 := by omega
  have hin : inb (nI ns) 6 := (n_in (by omega)).mpr (by omega)
  rw [h1, if_pos (by rw [show (5 : Int32) = nI 5 from rfl, n_lt (by omega) (by decide)]; exact hns), ck_t hin, n_ix (by omega)]
  rw [zst_n i1, h1, ck_t hin, n_ix (by omega), zst_n i2, zst_n i1, h1, ck_t hin, n_ix (by omega), zst_n i3, zst_n i2, zst_n i1, h1, ok_s]
  refine ⟨rfl, ?_, fun c hc => ?_⟩
  · show CD q (zst (zst (zst (zst σ (q + 1) ns (V 0)) (q + 2) ns (V 1)) (q + 3) ns (V 2)) q 0 (nI ns + 1)) _
    generalize hτ : zst (zst (zst (zst σ (q + 1) ns (V 0)) (q + 2) ns (V 1)) (q + 3) ns (V 2)) q 0 (nI ns + 1) = τ
    have r1 : τ (q + 1) = upd (σ (q + 1)) ns (V 0) := by rw [← hτ, zst_n (by omega), zst_n (by omega), zst_n (by omega), zst_s]
    have r2 : τ (q + 2) = upd (σ (q + 2)) ns (V 1) := by rw [← hτ, zst_n (by omega), zst_n (by omega), zst_s, zst_n (by omega)]
    have r3 : τ (q + 3) = upd (σ (q + 3)) ns (V 2) := by rw [← hτ, zst_n (by omega), zst_s, zst_n (by omega), zst_n (by omega)]
    have r4 : ∀ k, k ≠ 0 → τ q k = σ q k := fun k hk => by rw [← hτ, zst_k hk, zst_n (by omega), zst_n (by omega), zst_n (by omega)]
    have r5 : τ q 0 = nI (ns + 1) := by rw [← hτ, zst_v]; exact n_add _ 1
    have r6 : ∀ c, q + 3 < c → τ c = σ c := fun c hc => by rw [← hτ, zst_n (by omega), zst_n (by omega), zst_n (by omega), zst_n (by omega)]
    unfold CD adD
    rw [if_pos rfl]
    dsimp only
    rw [r5, r4 1 (by decide), r4 2 (by decide), r4 3 (by decide), r4 4 (by decide), r6 (q + 4) (by omega), r6 (q + 5) (by omega), r6 (q + 6) (by omega), r6 (q + 7) (by omega), r1, r2, r3]
    refine ⟨by omega, b2, b3, rfl, h2, h3, h4, h5, fun k hk => ?_, fun k hk hk6 => ?_, h8, h9⟩
    · by_cases e : k = ns
      · subst e
        rw [upd_s, upd_s, upd_s, if_pos (by omega), if_pos (by omega), if_pos (by omega), show 3 * k - 3 * k = 0 by omega, show 3 * k + 1 - 3 * k = 1 by omega, show 3 * k + 2 - 3 * k = 2 by omega]
        exact ⟨rfl, rfl, rfl⟩
      · rw [upd_n e, upd_n e, upd_n e, if_neg (by omega), if_neg (by omega), if_neg (by omega)]
        exact h6 k (by omega)
    · rw [upd_n (by omega), upd_n (by omega), upd_n (by omega)]
      exact h7 k (by omega) hk6
  · show zst (zst (zst (zst σ (q + 1) ns (V 0)) (q + 2) ns (V 1)) (q + 3) ns (V 2)) q 0 (nI ns + 1) c = σ c
    rw [zst_n (by omega), zst_n (by omega), zst_n (by omega), zst_n (by omega)]
theorem c_law {q : Nat} {σ : Mm} {D : MD} {V : Nat → Int32} (h : CD q σ D) : Ok (zfX0_setLaw q (V 6) (V 7) σ) (fun a => a.1 = 1 ∧ CD q a.2 (adD D 2 V) ∧ FrQ q σ a.2) := by
  obtain ⟨⟨ns, nb, hl⟩, S, B, L⟩ := D
  obtain ⟨b1, b2, b3, h1, h2, h3, h4, h5, h6, h7, h8, h9⟩ := h
  dsimp only at *
  unfold zfX0_setLaw
  simp only [lt_p]
  rw [ok_s]
  refine ⟨rfl, ?_, fun c hc => ?_⟩
  · show CD q (zst (zst (zst σ q 2 1) q 3 (V 6)) q 4 (V 7)) _
    unfold CD adD
    rw [if_neg (by decide), if_neg (by decide)]
    dsimp only
    rw [zst_n (show q + 1 ≠ q by omega), zst_n (show q + 1 ≠ q by omega), zst_n (show q + 1 ≠ q by omega), zst_n (show q + 2 ≠ q by omega), zst_n (show q + 2 ≠ q by omega), zst_n (show q + 2 ≠ q by omega), zst_n (show q + 3 ≠ q by omega), zst_n (show q + 3 ≠ q by omega), zst_n (show q + 3 ≠ q by omega), zst_n (show q + 4 ≠ q by omega), zst_n (show q + 4 ≠ q by omega), zst_n (show q + 4 ≠ q by omega), zst_n (show q + 5 ≠ q by omega), zst_n (show q + 5 ≠ q by omega), zst_n (show q + 5 ≠ q by omega), zst_n (show q + 6 ≠ q by omega), zst_n (show q + 6 ≠ q by omega), zst_n (show q + 6 ≠ q by omega), zst_n (show q + 7 ≠ q by omega), zst_n (show q + 7 ≠ q by omega), zst_n (show q + 7 ≠ q by omega)]
    refine ⟨b1, b2, by decide, ?_, ?_, ?_, ?_, ?_, h6, h7, h8, h9⟩
    · rw [zst_k (by decide), zst_k (by decide), zst_k (by decide)]; exact h1
    · rw [zst_k (by decide), zst_k (by decide), zst_k (by decide)]; exact h2
    · rw [zst_k (by decide), zst_k (by decide), zst_v]; rfl
    · rw [zst_k (by decide), zst_v]
    · rw [zst_v]
  · show zst (zst (zst σ q 2 1) q 3 (V 6)) q 4 (V 7) c = σ c
    rw [zst_n (by omega), zst_n (by omega), zst_n (by omega)]
