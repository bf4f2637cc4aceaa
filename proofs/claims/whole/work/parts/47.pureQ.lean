/-! ===== the class reads a market ===== -/
def FrX (q : Nat) (σ τ : Mm) : Prop := ∀ c, c ≠ 43 → c ≠ 44 → c ≠ 45 → (c < q ∨ q + 7 < c) → τ c = σ c
theorem FrK.x {q : Nat} {σ τ : Mm} (h : FrK σ τ) : FrX q σ τ := fun c a b d _ => h c a b d
theorem FrX.tr {q : Nat} {σ τ υ : Mm} (h : FrX q σ τ) (h2 : FrX q τ υ) : FrX q σ υ := fun c a b d e => (h2 c a b d e).trans (h c a b d e)
theorem FrQ.x {q : Nat} {σ τ : Mm} (h : FrQ q σ τ) : FrX q σ τ := fun c _ _ _ e => h c e
theorem FrK.cd {q : Nat} {σ τ : Mm} {D : MD} (hq : q = 3 ∨ q = 47) (h : FrK σ τ) (hD : CD q σ D) : CD q τ D := hD.on (fun c h1 h2 => h c (by omega) (by omega) (by omega))
theorem itms_err {t : Nat → Int32} {n κ e : Nat} (ht : ∀ k, k < n → 0 ≤ (t k).toInt ∧ (t k).toInt < 256) : ∀ {F p : Nat} {V T : Nat → Int32}, p ≤ n → itms t n κ F p V T = .error e → e ≤ n := by
  intro F
  induction F with
  | zero => intro p V T hp h; unfold itms at h; cases h; omega
  | succ F ih =>
    intro p V T hp h
    have hp2 : skp t n p ≤ n := skp_le hp
    unfold itms at h
    cases hg : itG κ (sg t n (skp t n p)) with
    | none => rw [hg] at h; cases h
    | some g =>
      rw [hg] at h
      dsimp only at h
      by_cases ht0 : T g = 0
      · rw [if_pos ht0] at h
        by_cases hl : skp t n p < n
        · have hq2 : skp t n (skp t n p + 1) ≤ n := skp_le (by omega)
          cases hnm : nm2 t n (skp t n (skp t n p + 1)) with
          | error e2 => rw [hnm] at h; cases h; exact (nm2_err hq2 hnm).2
          | ok x =>
            obtain ⟨p3, v⟩ := x
            rw [hnm] at h
            dsimp only at h
            obtain ⟨h1, h2, -⟩ := nm2_ok ht hnm
            by_cases c1 : v < zlo g
            · rw [if_pos c1] at h; cases h; omega
            · rw [if_neg c1] at h
              by_cases c2 : v ≤ zhi g
              · rw [if_pos c2] at h; exact ih h2 h
              · rw [if_neg c2] at h; cases h; omega
        · have hs : sg t n (skp t n p) = -1 := if_neg hl
          rw [hs] at hg
          exfalso
          revert hg
          unfold itG
          repeat' split
          all_goals first | (intro h; cases h; done) | (rename_i h1 _; revert h1; decide) | (rename_i h1; revert h1; decide) | skip
          all_goals simp_all
      · rw [if_neg ht0] at h; cases h; exact hp2
theorem c_clm {t : Nat → Int32} {n p q : Nat} {σ : Mm} {D : MD} (ht : ∀ k, k < n → 0 ≤ (t k).toInt ∧ (t k).toInt < 256) (hq : q = 3 ∨ q = 47) (hT : CT σ t n) (hσ : σ 43 1 = nI p) (hp : p ≤ n) (hD : CD q σ D) :
    Ok (zfX1_clause q σ) (fun a => match clS t n p D with
      | .error e => a.1 = 0 ∧ a.2 43 2 = nI e ∧ e ≤ n ∧ FrX q σ a.2
      | .ok (p1, D1) => a.1 = 1 ∧ a.2 43 1 = nI p1 ∧ p < p1 ∧ p1 ≤ n ∧ CD q a.2 D1 ∧ FrX q σ a.2) := by
  have hp1 : p ≤ skp t n p := skp_ge
  have hp2 : skp t n p ≤ n := skp_le hp
  have hn := hT.2.1
  have hlt : ∀ k, sg t n k ≠ -1 → k < n := fun k q => Classical.byContradiction fun q2 => q (if_neg q2)
  unfold zfX1_clause
  rw [c_sign_43 hT hσ hp, bd2_some, ok_lt]
  have hf1 : FrK σ (zst σ 43 1 (nI (skp t n p))) := FrK.z (Or.inl rfl)
  rw [c_kind (hf1.cd hq hD)]
  unfold clS
  cases hk : kdS D (sg t n (skp t n p)) with
  | none =>
    dsimp only
    rw [if_pos rfl]
    unfold zfX3_wrong_43
    rw [lt_p, bd2_some, ck_t (Or.inl rfl), ok_s]
    exact ⟨rfl, by dsimp only; rw [zst_v, zst_v], hp2, (hf1.tr (FrK.z (Or.inl rfl))).x⟩
  | some κ =>
    dsimp only
    obtain ⟨k3, ka, kb, kc, kn⟩ := kdS_lt hk
    have hl1 := hlt _ kn
    rw [if_neg (n_ne1 (by omega)), ok_lt, zst_v, zst_zst, show nI (skp t n p) + 1 = nI (skp t n p + 1) from n_add _ 1, ok_bd2]
    have hf2 : FrK σ (zst σ 43 1 (nI (skp t n p + 1))) := FrK.z (Or.inl rfl)
    refine ok_mono (c_items ht k3 (hf2.ct hT) zst_v (by omega)) (fun a ha => ?_)
    cases hit : itms t n κ 200 (skp t n p + 1) zus (fun _ => 0) with
    | error e =>
      rw [hit] at ha
      obtain ⟨a1, a2, a3⟩ := ha
      dsimp only
      rw [if_pos a1, ok_s]
      exact ⟨rfl, a2, itms_err ht (by omega) hit, (hf2.tr a3).x⟩
    | ok y =>
      obtain ⟨p', V⟩ := y
      rw [hit] at ha
      obtain ⟨a1, a2, a3, a4, a5, a6⟩ := ha
      have hf3 := hf2.tr a6
      have hD3 := hf3.cd hq hD
      dsimp only
      rw [if_neg (by rw [a1]; decide)]
      have c012 : κ = 0 ∨ κ = 1 ∨ κ = 2 := by omega
      rcases c012 with rfl | rfl | rfl
      · rw [if_pos (by decide), ok_bd2, show ix 0 = 0 by decide, show ix 1 = 1 by decide, show ix 2 = 2 by decide, a5 0 (by decide), a5 1 (by decide), a5 2 (by decide)]
        refine ok_mono (c_addS hD3 (ka rfl).2) (fun b hb => ?_)
        obtain ⟨e1, e2, e3⟩ := hb
        rw [ok_ck, ok_s]
        refine ⟨Or.inr e1, e1, ?_, by omega, a4, e2, (hf3.x).tr e3.x⟩
        rw [e3 43 (by omega)]; exact a2
      · rw [if_neg (by decide), if_pos (by decide), ok_bd2, show ix 3 = 3 by decide, show ix 4 = 4 by decide, show ix 5 = 5 by decide, a5 3 (by decide), a5 4 (by decide), a5 5 (by decide)]
        refine ok_mono (c_addB hD3 (kb rfl).2) (fun b hb => ?_)
        obtain ⟨e1, e2, e3⟩ := hb
        rw [ok_ck, ok_s]
        refine ⟨Or.inr e1, e1, ?_, by omega, a4, e2, (hf3.x).tr e3.x⟩
        rw [e3 43 (by omega)]; exact a2
      · rw [if_neg (by decide), if_neg (by decide), ok_bd2, show ix 6 = 6 by decide, show ix 7 = 7 by decide, a5 6 (by decide), a5 7 (by decide)]
        refine ok_mono (c_law hD3) (fun b hb => ?_)
        obtain ⟨e1, e2, e3⟩ := hb
        rw [ok_ck, ok_s]
        refine ⟨Or.inr e1, e1, ?_, by omega, a4, e2, (hf3.x).tr e3.x⟩
        rw [e3 43 (by omega)]; exact a2
theorem c_clear {q : Nat} {σ : Mm} (hq : q = 3 ∨ q = 47) : Ok (zfX0_clear q σ) (fun τ => CD q τ D0 ∧ FrQ q σ τ) := by
  unfold zfX0_clear
  rw [ok_lt, ok_lt, ok_lt, ok_lt, ok_lt, ok_lt]
  generalize hυ : zst (zst (zst (zst (zst σ q 0 0) q 1 0) q 2 0) q 3 ((zStV.getD 3 []).getD (ix 6) 0)) q 4 ((zStV.getD 3 []).getD (ix 7) 0) = υ
  have u : ∀ c, c ≠ q → υ c = σ c := fun c hc => by rw [← hυ]; simp only [zst_n hc]
  have u0 : υ q 0 = 0 := by rw [← hυ, zst_k (by decide), zst_k (by decide), zst_k (by decide), zst_k (by decide), zst_v]
  have u1 : υ q 1 = 0 := by rw [← hυ, zst_k (by decide), zst_k (by decide), zst_k (by decide), zst_v]
  have u2 : υ q 2 = 0 := by rw [← hυ, zst_k (by decide), zst_k (by decide), zst_v]
  have u3 : υ q 3 = zus 6 := by rw [← hυ, zst_k (by decide), zst_v]; decide
  have u4 : υ q 4 = zus 7 := by rw [← hυ, zst_v]; decide
  refine ok_up (F := fun fu (s : Int32 × Mm) => zfX0_clear_L37 (fun σ70 => some σ70) q fu s.1 s.2) 6 (fun i s => s.1 = nI i ∧ (∀ k, k < i → s.2 (q + 1) k = 0 ∧ s.2 (q + 2) k = 0 ∧ s.2 (q + 3) k = 0) ∧ (∀ c, c ≠ q + 1 → c ≠ q + 2 → c ≠ q + 3 → s.2 c = υ c)) ?_ ?_ 0 NF (0, υ) ⟨rfl, fun k hk => absurd hk (Nat.not_lt_zero k), fun c _ _ _ => rfl⟩ (by decide) (by unfold NF; omega)
  · rintro i fu ⟨x, τ⟩ hi ⟨hx, h1, h2⟩ hk
    have hx : x = nI i := hx
    subst hx
    show Ok (zfX0_clear_L37 (fun σ70 => some σ70) q (fu + 1) (nI i) τ) _
    unfold zfX0_clear_L37
    have hn : ¬ (6 : Int32) ≤ nI i := by rw [show (6 : Int32) = nI 6 from rfl, n_le (by decide) (by omega)]; omega
    have hin : inb (nI i) 6 := (n_in (by omega)).mpr hi
    rw [if_neg hn, ck_t hin, ok_lt, ck_t hin, ok_lt, ck_t hin, ok_lt, ok_lt, n_ix (by omega), show nI i + 1 = nI (i + 1) from n_add _ 1]
    refine hk (nI (i + 1), _) ⟨rfl, fun k hk => ?_, fun c c1 c2 c3 => ?_⟩
    · show zst (zst (zst τ (q + 1) i 0) (q + 2) i 0) (q + 3) i 0 (q + 1) k = 0 ∧ zst (zst (zst τ (q + 1) i 0) (q + 2) i 0) (q + 3) i 0 (q + 2) k = 0 ∧ zst (zst (zst τ (q + 1) i 0) (q + 2) i 0) (q + 3) i 0 (q + 3) k = 0
      rw [zst_n (show q + 1 ≠ q + 3 by omega), zst_n (show q + 1 ≠ q + 2 by omega), zst_s, zst_n (show q + 2 ≠ q + 3 by omega), zst_s, zst_n (show q + 2 ≠ q + 1 by omega), zst_s, zst_n (show q + 3 ≠ q + 2 by omega), zst_n (show q + 3 ≠ q + 1 by omega)]
      by_cases e : k = i
      · rw [e, upd_s, upd_s, upd_s]; exact ⟨rfl, rfl, rfl⟩
      · rw [upd_n e, upd_n e, upd_n e]; exact h1 k (by omega)
    · show zst (zst (zst τ (q + 1) i 0) (q + 2) i 0) (q + 3) i 0 c = υ c
      rw [zst_n c3, zst_n c2, zst_n c1]; exact h2 c c1 c2 c3
  · rintro fu ⟨x, τ⟩ ⟨hx, h1, h2⟩
    have hx : x = nI 6 := hx
    subst hx
    show Ok (zfX0_clear_L37 (fun σ70 => some σ70) q (fu + 1) (nI 6) τ) _
    unfold zfX0_clear_L37
    rw [if_pos (by decide), ok_s]
    have h2 : ∀ c, c ≠ q + 1 → c ≠ q + 2 → c ≠ q + 3 → τ c = υ c := h2
    refine ⟨?_, fun c hc => by rw [h2 c (by omega) (by omega) (by omega), u c (by omega)]⟩
    unfold CD D0
    dsimp only
    rw [h2 q (by omega) (by omega) (by omega), u0, u1, u2, u3, u4]
    refine ⟨by omega, by omega, by omega, rfl, rfl, rfl, rfl, rfl, fun k hk => by omega, fun k _ hk => h1 k hk, fun k hk => by omega, fun k => k, fun k hk => by omega, fun i j hij hj => by omega, fun s hs => by omega⟩
theorem c_take43 {σ : Mm} {t : Nat → Int32} {n p : Nat} {c : Int32} (hT : CT σ t n) (hσ : σ 43 1 = nI p) (hp : p ≤ n) : zfX3_take_43 c σ =
    if sg t n (skp t n p) = c then some (1, zst σ 43 1 (nI (skp t n p + 1))) else some (0, zst (zst σ 43 1 (nI (skp t n p))) 43 2 (nI (skp t n p))) := by
  unfold zfX3_take_43
  rw [c_sign_43 hT hσ hp, bd2_some]
  simp only [lt_p]
  by_cases h : sg t n (skp t n p) = c
  · rw [if_pos h, if_pos h, zst_v, zst_zst, show nI (skp t n p) + 1 = nI (skp t n p + 1) from n_add _ 1]
  · rw [if_neg h, if_neg h]
    unfold zfX3_wrong_43
    rw [lt_p, bd2_some, ck_t (Or.inl rfl), zst_v]
theorem c_mk {t : Nat → Int32} {n q : Nat} (ht : ∀ k, k < n → 0 ≤ (t k).toInt ∧ (t k).toInt < 256) (hq : q = 3 ∨ q = 47) : ∀ F p i fu (σ : Mm) (D : MD), CT σ t n → σ 43 1 = nI p → p ≤ n → CD q σ D → i ≤ p → n - p < F → n - p < fu →
    Ok (zfX1_read_L10 (fun σ81 => some (σ81 43 1, σ81)) q (fun σ25 => some (σ25 43 2, σ25)) (fun σ38 => if (σ38 q 0) ≤ 0 then some (σ38 43 1, σ38) else (if (σ38 q 1) ≤ 0 then some (σ38 43 1, σ38) else (some ((-1), σ38)))) (fun σ70 => some (σ70 43 2, σ70)) fu (nI i) σ) (fun a => match mkS t n F p D with
      | .error e => a.1 = nI e ∧ e ≤ n ∧ FrX q σ a.2
      | .ok D1 => a.1 = -1 ∧ CD q a.2 D1 ∧ FrX q σ a.2) := by
  intro F
  induction F with
  | zero => intro p i fu σ D _ _ _ _ _ hF; omega
  | succ F ih =>
  intro p i fu σ D hT hσ hp hD hi hF hf
  obtain ⟨fu, rfl⟩ : ∃ g, fu = g + 1 := ⟨fu - 1, by omega⟩
  have hn := hT.2.1
  have hlt : ∀ k, sg t n k ≠ -1 → k < n := fun k q => Classical.byContradiction fun q2 => q (if_neg q2)
  unfold zfX1_read_L10
  rw [if_neg (by rw [show (160 : Int32) = nI 160 from rfl, n_lt (by decide) (by omega)]; omega), ok_bd2]
  refine ok_mono (c_clm ht hq hT hσ hp hD) (fun a ha => ?_)
  unfold mkS
  cases hc : clS t n p D with
  | error e =>
    rw [hc] at ha
    obtain ⟨a1, a2, a3, a4⟩ := ha
    dsimp only
    rw [if_pos a1, ok_s]
    exact ⟨a2, a3, a4⟩
  | ok y =>
    obtain ⟨p1, D1⟩ := y
    rw [hc] at ha
    obtain ⟨a1, a2, a3, a4, a5, a6⟩ := ha
    dsimp only
    have hT1 : CT a.2 t n := hT.of (a6 1 (by decide) (by decide) (by decide) (by omega)) (a6 2 (by decide) (by decide) (by decide) (by omega))
    have hs1 : p1 ≤ skp t n p1 := skp_ge
    have hs2 : skp t n p1 ≤ n := skp_le a4
    rw [if_neg (by rw [a1]; decide), c_sign_43 hT1 a2 a4, bd2_some]
    have hf1 : FrK a.2 (zst a.2 43 1 (nI (skp t n p1))) := FrK.z (Or.inl rfl)
    have hD1 := hf1.cd hq a5
    by_cases o2 : sg t n (skp t n p1) = -1
    · rw [if_pos o2, if_neg (show ¬ sg t n (skp t n p1) = 59 by rw [o2]; decide)]
      obtain ⟨b1, b2, b3, h1, h2, -⟩ := id hD1
      rw [h1, h2]
      by_cases c1 : 0 < D1.1.1
      · have k1 : ¬ nI D1.1.1 ≤ 0 := by rw [show (0 : Int32) = nI 0 from rfl, n_le (by omega) (by decide)]; omega
        rw [if_neg k1]
        by_cases c2 : 0 < D1.1.2.1
        · have k2 : ¬ nI D1.1.2.1 ≤ 0 := by rw [show (0 : Int32) = nI 0 from rfl, n_le (by omega) (by decide)]; omega
          rw [if_neg k2, if_pos ⟨o2, c1, c2⟩, ok_s]
          exact ⟨rfl, hD1, a6.tr hf1.x⟩
        · have k2 : nI D1.1.2.1 ≤ 0 := by rw [show (0 : Int32) = nI 0 from rfl, n_le (by omega) (by decide)]; omega
          rw [if_pos k2, if_neg (fun q => c2 q.2.2), ok_s]
          exact ⟨by dsimp only; rw [zst_v], hs2, a6.tr hf1.x⟩
      · have k1 : nI D1.1.1 ≤ 0 := by rw [show (0 : Int32) = nI 0 from rfl, n_le (by omega) (by decide)]; omega
        rw [if_pos k1, if_neg (fun q => c1 q.2.1), ok_s]
        exact ⟨by dsimp only; rw [zst_v], hs2, a6.tr hf1.x⟩
    · rw [if_neg o2, c_take43 (hf1.ct hT1) zst_v hs2, skp_skp]
      by_cases o : sg t n (skp t n p1) = 59
      · have hl := hlt _ o2
        rw [if_pos o, if_pos o, bd2_some, if_neg (by decide), ok_lt, zst_zst, show nI i + 1 = nI (i + 1) from n_add _ 1]
        have hf2 : FrK a.2 (zst a.2 43 1 (nI (skp t n p1 + 1))) := FrK.z (Or.inl rfl)
        refine ok_mono (ih (skp t n p1 + 1) (i + 1) fu _ D1 (hf2.ct hT1) zst_v (by omega) (hf2.cd hq a5) (by omega) (by omega) (by omega)) (fun b hb => ?_)
        cases hm : mkS t n F (skp t n p1 + 1) D1 with
        | error e => rw [hm] at hb; exact ⟨hb.1, hb.2.1, (a6.tr hf2.x).tr hb.2.2⟩
        | ok D2 => rw [hm] at hb; exact ⟨hb.1, hb.2.1, (a6.tr hf2.x).tr hb.2.2⟩
      · rw [if_neg o, if_neg o, if_neg (fun q => o2 q.1), bd2_some, if_pos rfl, ok_s]
        exact ⟨by dsimp only; rw [zst_v], hs2, (a6.tr hf1.x).tr ((FrK.z (Or.inl rfl)).tr (FrK.z (Or.inl rfl))).x⟩
/-- the class reads a market: a fault, or what the text says -/
theorem c_market {t : Nat → Int32} {n q : Nat} {σ : Mm} (ht : ∀ k, k < n → 0 ≤ (t k).toInt ∧ (t k).toInt < 256) (hq : q = 3 ∨ q = 47) (hT : CT σ t n) :
    Ok (zfX1_read q σ) (fun a => match mkS t n 400 0 D0 with
      | .error e => a.1 = nI e ∧ e ≤ n ∧ FrX q σ a.2
      | .ok D1 => a.1 = -1 ∧ CD q a.2 D1 ∧ FrX q σ a.2) := by
  have hn := hT.2.1
  unfold zfX1_read zfX3_beginReading_43
  have hNF : 200 < NF := by unfold NF; omega
  generalize NF = N at hNF ⊢
  rw [lt_p, lt_p, bd_some, ok_bd]
  have hf1 : FrK σ (zst (zst σ 43 1 0) 43 2 (-1)) := (FrK.z (Or.inl rfl)).tr (FrK.z (Or.inl rfl))
  refine ok_mono (c_clear hq) (fun τ hτ => ?_)
  obtain ⟨h1, h2⟩ := hτ
  simp only [ok_lt, lt_p]
  have hf2 : FrX q σ τ := hf1.x.tr h2.x
  have hT2 : CT τ t n := hT.of (hf2 1 (by decide) (by decide) (by decide) (by omega)) (hf2 2 (by decide) (by decide) (by decide) (by omega))
  have L := c_mk ht hq 400 0 0 N τ D0 hT2 (by rw [h2 43 (by omega), zst_k (by decide), zst_v]; rfl) (by omega) h1 (by omega) (by omega) (by omega)
  rw [n_0] at L
  refine ok_mono L (fun a ha => ?_)
  cases hm : mkS t n 400 0 D0 with
  | error e => rw [hm] at ha; exact ⟨ha.1, ha.2.1, hf2.tr ha.2.2⟩
  | ok D2 => rw [hm] at ha; exact ⟨ha.1, ha.2.1, hf2.tr ha.2.2⟩
