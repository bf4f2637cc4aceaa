/-! ===== the reference reads the items of a clause ===== -/
theorem zst_comm2 {σ : Mm} {c c2 k j : Nat} {v w : Int32} (h : c ≠ c2) : zst (zst σ c k v) c2 j w = zst (zst σ c2 j w) c k v := by
  funext a
  by_cases h1 : a = c
  · have h2 : a ≠ c2 := fun e => h (h1.symm.trans e)
    rw [zst_n h2, h1, zst_s, zst_s, zst_n (h1 ▸ h2)]
  · by_cases h2 : a = c2
    · have h3 : c2 ≠ c := fun e => h e.symm
      rw [h2, zst_s, zst_n h3, zst_n h3, zst_s]
    · rw [zst_n h2, zst_n h1, zst_n h1, zst_n h2]
theorem RM_row {σ : Mm} {c k : Nat} {R : Nat → Int32} {a f d v : Int32} (hc : c ≠ 703) : zst (RM (wr σ c R) a f d) c k v = RM (wr σ c (upd R k v)) a f d := by
  have e : zst (wr σ c R) c k v = wr σ c (upd R k v) := by rw [zst_wr, wr_s, wr_wr]
  unfold RM
  rw [zst_comm2 (show 703 ≠ c from fun e => hc e.symm), zst_comm2 (show 703 ≠ c from fun e => hc e.symm), zst_comm2 (show 703 ≠ c from fun e => hc e.symm), e]
theorem RT.row {σ : Mm} {t : Nat → Int32} {n c : Nat} {R : Nat → Int32} (h : RT σ t n) (hc : c ≠ 703) (h4 : c ≠ 704) (h5 : c ≠ 705) : RT (wr σ c R) t n := by
  have e : wr σ c R 703 = σ 703 := wr_n (fun e => hc e.symm)
  exact h.of (by rw [e]) (by rw [e]) (by rw [e]) (wr_n (fun e => h4 e.symm)) (wr_n (fun e => h5 e.symm))
def jx (κ : Nat) (x : Int32) : Int32 := match itG κ x with | some g => nI (g - fi κ) | none => -1
theorem fi_ln {κ : Nat} (hκ : κ < 3) : ln κ ≤ 3 ∧ fi κ ≤ 6 := by
  have : κ = 0 ∨ κ = 1 ∨ κ = 2 := by omega
  rcases this with rfl | rfl | rfl <;> decide
theorem r_its {t : Nat → Int32} {n κ : Nat} (ht : ∀ k, k < n → 0 ≤ (t k).toInt ∧ (t k).toInt < 256) (hκ : κ < 3) {σ : Mm} (h : RT σ t n) (hn : n ≤ 160) {d : Int32} {row0 : Nat} (hr0 : row0 + ln κ ≤ (zs (711 + κ)).2) (hr1 : row0 ≤ 100) : ∀ F p fu (V T R : Nat → Int32) (b : Nat), p ≤ n → n - p < F → n - p + 2 ≤ fu → b < 8 → (∀ j, j < ln κ → R (row0 + j) = V (fi κ + j)) → (∀ j, j < ln κ → zfX12_has (nI b) (nI j) = T (fi κ + j)) →
    Ok (zfX12_readClause_L255 (fun σ349 => some σ349) (711 + κ) (nI row0) (kch κ) (3 + κ) (fun σ279 => bd2 (zfX12_fails σ279) (fun r280 σ280 => some σ280)) fu (nI b) (jx κ (sg t n (skp t n p))) (RM (wr σ (711 + κ) R) (nI (skp t n p)) (-1) d)) (fun τ => ∃ R', (∀ k, (k < row0 ∨ row0 + ln κ ≤ k) → R' k = R k) ∧ match itms t n κ F p V T with
      | .error e => e ≤ n ∧ ∃ a, τ = RM (wr σ (711 + κ) R') a (nI e) d
      | .ok (p', V') => p ≤ p' ∧ p' ≤ n ∧ τ = RM (wr σ (711 + κ) R') (nI p') (-1) d ∧ ∀ j, j < ln κ → R' (row0 + j) = V' (fi κ + j)) := by
  have hI : zIsI (711 + κ) := by
    have : κ = 0 ∨ κ = 1 ∨ κ = 2 := by omega
    rcases this with rfl | rfl | rfl <;> decide
  have hRT : ∀ R, RT (wr σ (711 + κ) R) t n := fun R => h.row (by omega) (by omega) (by omega)
  have hfl := fi_ln hκ
  intro F
  induction F with
  | zero => intro p fu V T R b _ hF; omega
  | succ F ih =>
  intro p fu V T R b hp hF hf hb8 hV hT
  obtain ⟨fu, rfl⟩ : ∃ g, fu = g + 1 := ⟨fu - 1, by omega⟩
  have hp1 : p ≤ skp t n p := skp_ge
  have hp2 : skp t n p ≤ n := skp_le hp
  have hlt : ∀ k, sg t n k ≠ -1 → k < n := fun k q => Classical.byContradiction fun q2 => q (if_neg q2)
  unfold zfX12_readClause_L255 jx itms
  cases hg : itG κ (sg t n (skp t n p)) with
  | none =>
    dsimp only
    rw [if_pos rfl, ok_s]
    exact ⟨R, fun _ _ => rfl, hp1, hp2, rfl, hV⟩
  | some g =>
    dsimp only
    obtain ⟨g8, g1, g2⟩ := itG_lt hκ hg
    obtain ⟨j, hj⟩ : ∃ j, g = fi κ + j := ⟨g - fi κ, by omega⟩
    have hjl : j < ln κ := by omega
    have hlt1 : skp t n p < n := hlt _ (fun e => by
      rw [e] at hg
      have : κ = 0 ∨ κ = 1 ∨ κ = 2 := by omega
      rcases this with rfl | rfl | rfl
      · rw [show itG 0 (-1) = none by decide] at hg; cases hg
      · rw [show itG 1 (-1) = none by decide] at hg; cases hg
      · rw [show itG 2 (-1) = none by decide] at hg; cases hg)
    subst hj
    simp only [Nat.add_sub_cancel_left]
    rw [if_neg (n_ne1 (by omega)), RM_f, if_pos rfl, hT j hjl]
    by_cases ht0 : T (fi κ + j) = 0
    case neg =>
      rw [if_neg ht0, if_neg ht0, r_fails, if_pos rfl, bd2_some, ok_s]
      exact ⟨R, fun _ _ => rfl, hp2, _, rfl⟩
    case pos =>
    rw [if_pos ht0, if_pos ht0]
    obtain ⟨c, hc1, hc2⟩ := hasb ⟨b, hb8⟩ ⟨j, by omega⟩ (by show zfX12_has (nI b) (nI j) = 0; rw [hT j hjl]; exact ht0)
    have hc1 : (nI b) ||| ((1 : Int32) <<< (nI j &&& 31)) = nI c.val := hc1
    have hT' : ∀ i, i < ln κ → zfX12_has (nI c.val) (nI i) = upd T (fi κ + j) 1 (fi κ + i) := by
      intro i hi
      have := hc2 ⟨i, by omega⟩
      have : zfX12_has (nI c.val) (nI i) = if (⟨i, by omega⟩ : Fin 3) = ⟨j, by omega⟩ then 1 else zfX12_has (nI b) (nI i) := this
      rw [this]
      by_cases e : i = j
      · subst e; rw [if_pos rfl, upd_s]
      · rw [if_neg (fun q => e (Fin.mk.inj q)), upd_n (by omega), hT i hi]
    simp only [lt_p]
    rw [hc1]
    have lst := fun (f : Int32 → Option Mm) => r_least (κ := κ) (j := j) (β := Option Mm) (a := none) (b := none) hκ hjl (f := f)
    have L1 := lst (fun y0_318 => ck (zIsI (711 + κ)) (bd (zfX12_readItem (711 + κ) (nI row0 + nI j) y0_318 (zfX12_mostOf (kch κ) (nI j)) (RM (wr σ (711 + κ) R) (nI (skp t n p)) (-1) d)) (fun σ324 => if (σ324 703 11) = (-1) then (bd2 (zfX12_look σ324) (fun r338 σ338 => ck (3 + κ < 6) (bd (zfX12_placeOf (3 + κ) r338) (fun r341 => zfX12_readClause_L255 (fun σ349 => some σ349) (711 + κ) (nI row0) (kch κ) (3 + κ) (fun σ279 => bd2 (zfX12_fails σ279) (fun r280 σ280 => some σ280)) fu (nI c.val) r341 σ338)))) else (zfX12_readClause_L255 (fun σ349 => some σ349) (711 + κ) (nI row0) (kch κ) (3 + κ) (fun σ279 => bd2 (zfX12_fails σ279) (fun r280 σ280 => some σ280)) fu (nI c.val) (nI j) σ324))))
    rw [L1, ck_t hI, r_most hκ hjl, n_add, r_item (hRT R) hlt1]
    obtain ⟨fu, rfl⟩ : ∃ g, fu = g + 1 := ⟨fu - 1, by omega⟩
    have hstop : ∀ (a e : Nat), e < 1000 → Ok (bd (some (RM (wr σ (711 + κ) R) (nI a) (nI e) d)) (fun σ324 => if (σ324 703 11) = (-1) then (bd2 (zfX12_look σ324) (fun r338 σ338 => ck (3 + κ < 6) (bd (zfX12_placeOf (3 + κ) r338) (fun r341 => zfX12_readClause_L255 (fun σ349 => some σ349) (711 + κ) (nI row0) (kch κ) (3 + κ) (fun σ279 => bd2 (zfX12_fails σ279) (fun r280 σ280 => some σ280)) (fu + 1) (nI c.val) r341 σ338)))) else (zfX12_readClause_L255 (fun σ349 => some σ349) (711 + κ) (nI row0) (kch κ) (3 + κ) (fun σ279 => bd2 (zfX12_fails σ279) (fun r280 σ280 => some σ280)) (fu + 1) (nI c.val) (nI j) σ324))) (fun τ => τ = RM (wr σ (711 + κ) R) (nI a) (nI e) d) := by
      intro a e he
      rw [bd_some, RM_f, if_neg (n_ne1 (by omega))]
      unfold zfX12_readClause_L255
      rw [if_neg (n_ne1 (by omega)), RM_f, if_neg (n_ne1 (by omega)), ok_s]
    have hq2 : skp t n (skp t n p + 1) ≤ n := skp_le (by omega)
    cases hnm : nm2 t n (skp t n (skp t n p + 1)) with
    | error e =>
      dsimp only
      have he := (nm2_err hq2 hnm).2
      refine ok_mono (hstop e e (by omega)) (fun τ hτ => ⟨R, fun _ _ => rfl, he, _, hτ⟩)
    | ok x =>
      obtain ⟨p3, v⟩ := x
      dsimp only
      obtain ⟨k1, k2, -⟩ := nm2_ok ht hnm
      have hq1 : skp t n p + 1 ≤ skp t n (skp t n p + 1) := skp_ge
      by_cases c1 : v < zlo (fi κ + j)
      · rw [if_pos (Or.inl c1), if_pos c1]
        refine ok_mono (hstop (p3 - 1) (p3 - 1) (by omega)) (fun τ hτ => ⟨R, fun _ _ => rfl, by omega, _, hτ⟩)
      · by_cases c2 : v ≤ zhi (fi κ + j)
        · have c3 : ¬ (v < zlo (fi κ + j) ∨ zhi (fi κ + j) < v) := fun q => q.elim c1 (fun q => by rw [Int32.le_iff_toInt_le] at c2; rw [Int32.lt_iff_toInt_lt] at q; omega)
          rw [if_neg c3, if_neg c1, if_pos c2, ck_t ((n_in (by omega)).mpr (by omega)), n_ix (by omega), RM_row (by omega), bd_some, RM_f, if_pos rfl, r_lk (hRT _) k2, bd2_some, ck_t (by omega), r_placeOf hκ, bd_some]
          have IH := ih p3 (fu + 1) (upd V (fi κ + j) v) (upd T (fi κ + j) 1) (upd R (row0 + j) v) c.val k2 (by omega) (by omega) c.isLt (fun i hi => by
            by_cases e : i = j
            · subst e; rw [upd_s, upd_s]
            · rw [upd_n (by omega), upd_n (by omega)]; exact hV i hi) hT'
          refine ok_mono IH (fun τ hτ => ?_)
          obtain ⟨R', hR', hm⟩ := hτ
          refine ⟨R', fun k hk => by rw [hR' k hk, upd_n (by omega)], ?_⟩
          cases hit : itms t n κ F p3 (upd V (fi κ + j) v) (upd T (fi κ + j) 1) with
          | error e => rw [hit] at hm; exact hm
          | ok y =>
            obtain ⟨p', V'⟩ := y
            rw [hit] at hm
            exact ⟨by have := hm.1; omega, hm.2.1, hm.2.2.1, hm.2.2.2⟩
        · have c3 : zhi (fi κ + j) < v := by rw [Int32.le_iff_toInt_le] at c2; rw [Int32.lt_iff_toInt_lt]; omega
          rw [if_pos (Or.inr c3), if_neg c1, if_neg c2]
          refine ok_mono (hstop (p3 - 1) (p3 - 1) (by omega)) (fun τ hτ => ⟨R, fun _ _ => rfl, by omega, _, hτ⟩)
