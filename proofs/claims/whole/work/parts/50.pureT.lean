/-! ===== the reference reads a clause of a market ===== -/
theorem ok_lg {α : Sort _} {β : Type} {e : α} {k : α → Option β} {Q : β → Prop} (h : ∀ j, j = e → Ok (k j) Q) : Ok (lt e k) Q := h e rfl
def kR (κ row0 N : Nat) (σ241 : Mm) : Option Mm := bd2 (zfX12_look σ241) (fun r247 σ247 => ck (3 + κ < 6) (bd (zfX12_placeOf (3 + κ) r247) (fun r250 => zfX12_readClause_L255 (fun σ349 => some σ349) (711 + κ) (nI row0) (kch κ) (3 + κ) (fun σ279 => bd2 (zfX12_fails σ279) (fun r280 σ280 => some σ280)) N 0 r250 σ247)))
theorem r_rest {t : Nat → Int32} {n κ : Nat} (ht : ∀ k, k < n → 0 ≤ (t k).toInt ∧ (t k).toInt < 256) (hκ : κ < 3) {σ : Mm} (h : RT σ t n) (hn : n ≤ 160) {d : Int32} {row0 p : Nat} (hr0 : row0 + ln κ ≤ (zs (711 + κ)).2) (hr1 : row0 ≤ 100) (hp : p ≤ n) :
    Ok (zfX12_readClause_L212 (3 + κ) (kR κ row0 NF) (711 + κ) (nI row0) (kch κ) NF 0 (RM σ (nI p) (-1) d)) (fun τ => ∃ R', (∀ k, (k < row0 ∨ row0 + ln κ ≤ k) → R' k = σ (711 + κ) k) ∧ match itms t n κ 200 p zus (fun _ => 0) with
      | .error e => e ≤ n ∧ ∃ a, τ = RM (wr σ (711 + κ) R') a (nI e) d
      | .ok (p', V') => p ≤ p' ∧ p' ≤ n ∧ τ = RM (wr σ (711 + κ) R') (nI p') (-1) d ∧ ∀ j, j < ln κ → R' (row0 + j) = V' (fi κ + j)) := by
  have hI : zIsI (711 + κ) := by
    have : κ = 0 ∨ κ = 1 ∨ κ = 2 := by omega
    rcases this with rfl | rfl | rfl <;> decide
  have hz : zsl (3 + κ) = nI (ln κ) := by
    have : κ = 0 ∨ κ = 1 ∨ κ = 2 := by omega
    rcases this with rfl | rfl | rfl <;> decide
  have hfl := fi_ln hκ
  have h0 : ∀ j, zfX12_has (nI 0) (nI j) = 0 := fun j => by
    unfold zfX12_has
    rw [if_neg]
    have : ∀ x : Int32, ((nI 0 >>> x) &&& 1) = 0 := fun x => by
      show ((0 : Int32) >>> x) &&& 1 = 0
      rw [Int32.zero_shiftRight]; rfl
    rw [this]; decide
  have hNF : 300 < NF := by unfold NF; omega
  generalize NF = N at hNF ⊢
  have hk : ∀ R : Nat → Int32, (∀ k, (k < row0 ∨ row0 + ln κ ≤ k) → R k = σ (711 + κ) k) → (∀ j, j < ln κ → R (row0 + j) = zus (fi κ + j)) → Ok (kR κ row0 N (RM (wr σ (711 + κ) R) (nI p) (-1) d)) (fun τ => ∃ R', (∀ k, (k < row0 ∨ row0 + ln κ ≤ k) → R' k = σ (711 + κ) k) ∧ match itms t n κ 200 p zus (fun _ => 0) with
      | .error e => e ≤ n ∧ ∃ a, τ = RM (wr σ (711 + κ) R') a (nI e) d
      | .ok (p', V') => p ≤ p' ∧ p' ≤ n ∧ τ = RM (wr σ (711 + κ) R') (nI p') (-1) d ∧ ∀ j, j < ln κ → R' (row0 + j) = V' (fi κ + j)) := by
    intro R hR hRV
    unfold kR
    rw [r_lk (h.row (by omega) (by omega) (by omega)) hp, bd2_some, ck_t (by omega), r_placeOf hκ, bd_some]
    refine ok_mono (r_its ht hκ h hn hr0 hr1 200 p N zus (fun _ => 0) R 0 hp (by omega) (by omega) (by omega) hRV (fun j _ => h0 j)) (fun τ hτ => ?_)
    obtain ⟨R', hR', hm⟩ := hτ
    exact ⟨R', fun k hk => (hR' k hk).trans (hR k hk), hm⟩
  generalize hK : kR κ row0 N = K at hk ⊢
  have hw : RM σ (nI p) (-1) d = RM (wr σ (711 + κ) (σ (711 + κ))) (nI p) (-1) d := by rw [wr_self]
  rw [hw]
  refine ok_up (F := fun fu (s : Int32 × Mm) => zfX12_readClause_L212 (3 + κ) K (711 + κ) (nI row0) (kch κ) fu s.1 s.2) (ln κ) (fun i s => s.1 = nI i ∧ ∃ R, s.2 = RM (wr σ (711 + κ) R) (nI p) (-1) d ∧ (∀ k, (k < row0 ∨ row0 + ln κ ≤ k) → R k = σ (711 + κ) k) ∧ (∀ j, j < i → R (row0 + j) = zus (fi κ + j))) ?_ ?_ 0 N (0, RM (wr σ (711 + κ) (σ (711 + κ))) (nI p) (-1) d) ⟨rfl, _, rfl, fun _ _ => rfl, fun j hj => absurd hj (Nat.not_lt_zero j)⟩ (by omega) (by omega)
  · rintro i fu ⟨x, τ⟩ hi ⟨hx, R, hτ, hR, hRV⟩ hk'
    have hx : x = nI i := hx
    have hτ : τ = RM (wr σ (711 + κ) R) (nI p) (-1) d := hτ
    subst hx hτ
    show Ok (zfX12_readClause_L212 (3 + κ) K (711 + κ) (nI row0) (kch κ) (fu + 1) (nI i) _) _
    unfold zfX12_readClause_L212
    rw [ck_t (by omega), hz, if_neg (by rw [n_le (by omega) (by omega)]; omega), ck_t hI, n_add, ck_t ((n_in (by omega)).mpr (by omega)), ok_lt, ok_lt, n_ix (by omega), RM_row (by omega), r_usual hκ hi, show nI i + 1 = nI (i + 1) from n_add _ 1]
    refine hk' (nI (i + 1), _) ⟨rfl, _, rfl, fun k hk => by rw [upd_n (by omega)]; exact hR k hk, fun j hj => ?_⟩
    by_cases e : j = i
    · subst e; rw [upd_s]
    · rw [upd_n (by omega)]; exact hRV j (by omega)
  · rintro fu ⟨x, τ⟩ ⟨hx, R, hτ, hR, hRV⟩
    have hx : x = nI (ln κ) := hx
    have hτ : τ = RM (wr σ (711 + κ) R) (nI p) (-1) d := hτ
    subst hx hτ
    show Ok (zfX12_readClause_L212 (3 + κ) K (711 + κ) (nI row0) (kch κ) (fu + 1) (nI (ln κ)) _) _
    unfold zfX12_readClause_L212
    rw [ck_t (by omega), hz, if_pos (by rw [n_le (by omega) (by omega)]; omega)]
    exact hk R hR hRV
/-- the reference's reading holds what a text says -/
def RDa (σ : Mm) (D : MD) : Prop := D.1.1 ≤ 5 ∧ D.1.2.1 ≤ 6 ∧ D.1.2.2 ≤ 1 ∧ σ 703 26 = nI D.1.1 ∧ σ 703 27 = nI D.1.2.1 ∧ σ 703 28 = nI D.1.2.2 ∧
  (∀ k, k < 3 * D.1.1 → σ 711 k = D.2.1 k) ∧ (∀ k, k < 3 * D.1.2.1 → σ 712 k = D.2.2.1 k) ∧ (∀ k, k < 2 → σ 713 k = D.2.2.2 k)
def FrN (σ τ : Mm) : Prop := (∀ c, c ≠ 703 → c ≠ 711 → c ≠ 712 → c ≠ 713 → τ c = σ c) ∧ (∀ k, (k < 10 ∨ 12 < k ∧ k < 26 ∨ 28 < k) → τ 703 k = σ 703 k)
theorem FrN.rf {σ : Mm} : FrN σ σ := ⟨fun _ _ _ _ _ => rfl, fun _ _ => rfl⟩
theorem FrN.tr {σ τ υ : Mm} (h : FrN σ τ) (h2 : FrN τ υ) : FrN σ υ := ⟨fun c a b d e => (h2.1 c a b d e).trans (h.1 c a b d e), fun k hk => (h2.2 k hk).trans (h.2 k hk)⟩
theorem FrN.rm {σ τ : Mm} {a f d : Int32} (h : FrN σ τ) : FrN σ (RM τ a f d) := ⟨fun c h1 h2 h3 h4 => by rw [RM_c h1]; exact h.1 c h1 h2 h3 h4, fun k hk => by rw [RM_k (by omega)]; exact h.2 k hk⟩
theorem FrN.rt {σ τ : Mm} {t : Nat → Int32} {n : Nat} (h : FrN σ τ) (hR : RT σ t n) : RT τ t n := hR.of (h.2 5 (by omega)) (h.2 8 (by omega)) (h.2 9 (by omega)) (h.1 704 (by omega) (by omega) (by omega) (by omega)) (h.1 705 (by omega) (by omega) (by omega) (by omega))
theorem FrN.cnt {σ : Mm} {κ : Nat} {v : Int32} {R : Nat → Int32} (hκ : κ < 3) : FrN σ (wr (zst σ 703 (26 + κ) v) (711 + κ) R) := by
  refine ⟨fun c h1 h2 h3 h4 => by rw [wr_n (by omega), zst_n h1], fun k hk => by rw [wr_n (by omega), zst_k (by omega)]⟩
theorem r_clm {t : Nat → Int32} {n p : Nat} {σ : Mm} {D : MD} {d : Int32} (ht : ∀ k, k < n → 0 ≤ (t k).toInt ∧ (t k).toInt < 256) (hn : n ≤ 160) (h : RT σ t n) (hp : p ≤ n) (hD : RDa σ D) :
    Ok (zfX12_readClause (RM σ (nI p) (-1) d)) (fun τ => match clS t n p D with
      | .error e => τ 703 11 = nI e ∧ e ≤ n ∧ FrN σ τ
      | .ok (p1, D1) => ∃ σ', τ = RM σ' (nI p1) (-1) d ∧ p < p1 ∧ p1 ≤ n ∧ RDa σ' D1 ∧ FrN σ σ') := by
  have hp1 : p ≤ skp t n p := skp_ge
  have hp2 : skp t n p ≤ n := skp_le hp
  have hlt : ∀ k, sg t n k ≠ -1 → k < n := fun k q => Classical.byContradiction fun q2 => q (if_neg q2)
  obtain ⟨b1, b2, b3, h1, h2, h3, h4, h5, h6⟩ := hD
  unfold zfX12_readClause
  rw [r_lk h hp, bd2_some]
  refine ok_lg (fun j52 h52 => ?_)
  have hS : Ok (lt (fun (σ47 : Mm) => j52 1 σ47) (fun j47 => lt (fun (σ19 : Mm) => lt (fun (σ34 : Mm) => lt (fun (σ51 : Mm) => j52 0 σ51) (fun j51 => if (sg t n (skp t n p)) = 108 then (if (σ34 703 28) = 0 then (j47 σ34) else (j51 σ34)) else (j51 σ34))) (fun j34 => if (sg t n (skp t n p)) = 98 then (if (σ19 703 27) < 6 then (j47 σ19) else (j34 σ19)) else (j34 σ19))) (fun j19 => if (sg t n (skp t n p)) = 115 then (if ((RM σ (nI (skp t n p)) (-1) d) 703 26) < 5 then (j47 (RM σ (nI (skp t n p)) (-1) d)) else (j19 (RM σ (nI (skp t n p)) (-1) d))) else (j19 (RM σ (nI (skp t n p)) (-1) d))))) = Ok (match kdS D (sg t n (skp t n p)) with | none => j52 0 (RM σ (nI (skp t n p)) (-1) d) | some _ => j52 1 (RM σ (nI (skp t n p)) (-1) d)) := by
    congr 1
    simp only [lt_p]
    rw [RM_k (by decide), RM_k (by decide), RM_k (by decide), h1, h2, h3]
    have q1 : (nI D.1.1 < 5) ↔ D.1.1 < 5 := by rw [show (5 : Int32) = nI 5 from rfl, n_lt (by omega) (by decide)]
    have q2 : (nI D.1.2.1 < 6) ↔ D.1.2.1 < 6 := by rw [show (6 : Int32) = nI 6 from rfl, n_lt (by omega) (by decide)]
    have q3 : (nI D.1.2.2 = 0) ↔ D.1.2.2 = 0 := by rw [show (0 : Int32) = nI 0 from rfl, n_eq (by omega) (by decide)]
    simp only [q1, q2, q3]
    unfold kdS
    generalize sg t n (skp t n p) = r
    by_cases e1 : r = 115
    · subst e1
      simp only [if_true, show ¬ (115 : Int32) = 98 by decide, show ¬ (115 : Int32) = 108 by decide, if_false]
      by_cases c : D.1.1 < 5
      · simp only [c, if_true]
      · simp only [c, if_false]
    · by_cases e2 : r = 98
      · subst e2
        simp only [if_true, show ¬ (98 : Int32) = 115 by decide, show ¬ (98 : Int32) = 108 by decide, if_false]
        by_cases c : D.1.2.1 < 6
        · simp only [c, if_true]
        · simp only [c, if_false]
      · by_cases e3 : r = 108
        · subst e3
          simp only [if_true, show ¬ (108 : Int32) = 115 by decide, show ¬ (108 : Int32) = 98 by decide, if_false]
          by_cases c : D.1.2.2 = 0
          · simp only [c, if_true]
          · simp only [c, if_false]
        · simp only [e1, e2, e3, if_false]
  rw [hS]
  unfold clS
  cases hk : kdS D (sg t n (skp t n p)) with
  | none =>
    dsimp only
    simp only [h52, if_true]
    rw [r_fails, if_pos rfl, bd2_some, ok_s]
    exact ⟨RM_f, hp2, FrN.rf.rm⟩
  | some κ =>
    dsimp only
    obtain ⟨k3, ka, kb, kc, kn⟩ := kdS_lt hk
    have hl1 := hlt _ kn
    simp only [h52, show ¬ (1 : Int32) = 0 by decide, if_false]
    rw [ok_lt, RM_at, RM_sa, show nI (skp t n p) + 1 = nI (skp t n p + 1) from n_add _ 1]
    have c012 : κ = 0 ∨ κ = 1 ∨ κ = 2 := by omega
    rcases c012 with rfl | rfl | rfl
    · have hr := (ka rfl).1
      have hc := (ka rfl).2
      have k0 : kch 0 = 115 := by decide
      rw [hr]
      simp only [lt_p, if_true, show ¬ (115 : Int32) = 98 by decide, show ¬ (115 : Int32) = 108 by decide, if_false]
      rw [RM_k (by decide), h1, show (3 : Int32) * nI D.1.1 = nI (3 * D.1.1) from n_mul 3 _, show nI D.1.1 + 1 = nI (D.1.1 + 1) from n_add _ 1, RM_z (by decide)]
      have R := r_rest ht k3 (κ := 0) (σ := zst σ 703 26 (nI (D.1.1 + 1))) (h.at_ 26 (by decide) (by decide) (by decide) _) hn (d := d) (row0 := 3 * D.1.1) (p := skp t n p + 1) (by show 3 * D.1.1 + 3 ≤ 15; omega) (by omega) (by omega)
      unfold kR at R
      simp only [k0, Nat.add_zero, Nat.reduceAdd] at R
      refine ok_mono R (fun τ hτ => ?_)
      obtain ⟨R', hR', hm⟩ := hτ
      cases hit : itms t n 0 200 (skp t n p + 1) zus (fun _ => 0) with
      | error e =>
        rw [hit] at hm
        obtain ⟨he, a, hm⟩ := hm
        subst hm
        exact ⟨RM_f, he, (FrN.cnt (κ := 0) (by omega)).rm⟩
      | ok y =>
        obtain ⟨p', V'⟩ := y
        rw [hit] at hm
        obtain ⟨m1, m2, m3, m4⟩ := hm
        refine ⟨_, m3, by omega, m2, ?_, FrN.cnt (κ := 0) (by omega)⟩
        unfold RDa adD
        rw [if_pos rfl, wr_n (show 703 ≠ 711 by decide), wr_s, wr_n (show 712 ≠ 711 by decide), wr_n (show 713 ≠ 711 by decide), zst_v, zst_k (show 27 ≠ 26 by decide), zst_k (show 28 ≠ 26 by decide), zst_n (show 712 ≠ 703 by decide), zst_n (show 713 ≠ 703 by decide)]
        refine ⟨by dsimp only; omega, b2, b3, rfl, h2, h3, fun k hk => ?_, h5, h6⟩
        dsimp only at hk ⊢
        by_cases c : 3 * D.1.1 ≤ k
        · rw [if_pos c]
          have := m4 (k - 3 * D.1.1) (by show _ < 3; omega)
          rw [show 3 * D.1.1 + (k - 3 * D.1.1) = k by omega, show fi 0 + (k - 3 * D.1.1) = k - 3 * D.1.1 by show 3 * 0 + _ = _; omega] at this
          exact this
        · rw [if_neg c, hR' k (Or.inl (by omega)), zst_n (by decide)]
          exact h4 k (by omega)
    · have hr := (kb rfl).1
      have hc := (kb rfl).2
      have k0 : kch 1 = 98 := by decide
      rw [hr]
      simp only [lt_p, if_true, show ¬ (98 : Int32) = 115 by decide, show ¬ (98 : Int32) = 108 by decide, if_false]
      rw [RM_k (by decide), h2, show (3 : Int32) * nI D.1.2.1 = nI (3 * D.1.2.1) from n_mul 3 _, show nI D.1.2.1 + 1 = nI (D.1.2.1 + 1) from n_add _ 1, RM_z (by decide)]
      have R := r_rest ht k3 (κ := 1) (σ := zst σ 703 27 (nI (D.1.2.1 + 1))) (h.at_ 27 (by decide) (by decide) (by decide) _) hn (d := d) (row0 := 3 * D.1.2.1) (p := skp t n p + 1) (by show 3 * D.1.2.1 + 3 ≤ 18; omega) (by omega) (by omega)
      unfold kR at R
      simp only [k0, Nat.reduceAdd] at R
      refine ok_mono R (fun τ hτ => ?_)
      obtain ⟨R', hR', hm⟩ := hτ
      cases hit : itms t n 1 200 (skp t n p + 1) zus (fun _ => 0) with
      | error e =>
        rw [hit] at hm
        obtain ⟨he, a, hm⟩ := hm
        subst hm
        exact ⟨RM_f, he, (FrN.cnt (κ := 1) (by omega)).rm⟩
      | ok y =>
        obtain ⟨p', V'⟩ := y
        rw [hit] at hm
        obtain ⟨m1, m2, m3, m4⟩ := hm
        refine ⟨_, m3, by omega, m2, ?_, FrN.cnt (κ := 1) (by omega)⟩
        unfold RDa adD
        rw [if_neg (by decide), if_pos rfl, wr_n (show 703 ≠ 712 by decide), wr_s, wr_n (show 711 ≠ 712 by decide), wr_n (show 713 ≠ 712 by decide), zst_v, zst_k (show 26 ≠ 27 by decide), zst_k (show 28 ≠ 27 by decide), zst_n (show 711 ≠ 703 by decide), zst_n (show 713 ≠ 703 by decide)]
        refine ⟨b1, by dsimp only; omega, b3, h1, rfl, h3, h4, fun k hk => ?_, h6⟩
        dsimp only at hk ⊢
        by_cases c : 3 * D.1.2.1 ≤ k
        · rw [if_pos c]
          have := m4 (k - 3 * D.1.2.1) (by show _ < 3; omega)
          rw [show 3 * D.1.2.1 + (k - 3 * D.1.2.1) = k by omega, show fi 1 + (k - 3 * D.1.2.1) = 3 + (k - 3 * D.1.2.1) by show 3 * 1 + _ = _; omega] at this
          exact this
        · rw [if_neg c, hR' k (Or.inl (by omega)), zst_n (by decide)]
          exact h5 k (by omega)
    · have hr := (kc rfl).1
      have hc := (kc rfl).2
      have k0 : kch 2 = 108 := by decide
      rw [hr]
      simp only [lt_p, if_true, show ¬ (108 : Int32) = 115 by decide, show ¬ (108 : Int32) = 98 by decide, if_false]
      rw [RM_z (by decide)]
      have R := r_rest ht k3 (κ := 2) (σ := zst σ 703 28 1) (h.at_ 28 (by decide) (by decide) (by decide) _) hn (d := d) (row0 := 0) (p := skp t n p + 1) (by show 0 + 2 ≤ 2; omega) (by omega) (by omega)
      unfold kR at R
      simp only [k0, Nat.reduceAdd, n_0] at R
      refine ok_mono R (fun τ hτ => ?_)
      obtain ⟨R', hR', hm⟩ := hτ
      cases hit : itms t n 2 200 (skp t n p + 1) zus (fun _ => 0) with
      | error e =>
        rw [hit] at hm
        obtain ⟨he, a, hm⟩ := hm
        subst hm
        exact ⟨RM_f, he, (FrN.cnt (κ := 2) (by omega)).rm⟩
      | ok y =>
        obtain ⟨p', V'⟩ := y
        rw [hit] at hm
        obtain ⟨m1, m2, m3, m4⟩ := hm
        refine ⟨_, m3, by omega, m2, ?_, FrN.cnt (κ := 2) (by omega)⟩
        unfold RDa adD
        rw [if_neg (by decide), if_neg (by decide), wr_n (show 703 ≠ 713 by decide), wr_s, wr_n (show 711 ≠ 713 by decide), wr_n (show 712 ≠ 713 by decide), zst_v, zst_k (show 26 ≠ 28 by decide), zst_k (show 27 ≠ 28 by decide), zst_n (show 711 ≠ 703 by decide), zst_n (show 712 ≠ 703 by decide)]
        refine ⟨b1, b2, by dsimp only; omega, h1, h2, rfl, h4, h5, fun k hk => ?_⟩
        have := m4 k (by show k < 2; omega)
        rw [Nat.zero_add] at this
        exact this
