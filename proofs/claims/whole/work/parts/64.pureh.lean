/-! ===== the reference serves all ===== -/
section
variable {n N m : Nat} {h0 : Int32} {g0 : Nat → Nat} {ask ga wo b0 gm0 : Nat → Int32} {σ0 : Mm} {w wa : Nat → Nat} {X0 : Sx}
theorem sSort_wt_n {hd : Nat → Prop} {i k : Nat} {X : Sx} (h : k < 4 * i ∨ 4 * i + 4 ≤ k) : (sSort N hd g0 ask wo i X).2.2.1 k = X.2.2.1 k := by
  unfold sSort
  rw [sAge_wt_n (by omega), sAge_wt_n (by omega), sAge_wt_n (by omega), sAge_wt_n (by omega)]
theorem sAll_wt_n {hd : Nat → Prop} {i a : Nat} {X : Sx} (ha : a < 4) : ∀ j, (∀ k, k < j → w k ≠ i) → (sAll N hd g0 ask wo w j X).2.2.1 (4 * i + a) = X.2.2.1 (4 * i + a) := by
  intro j
  induction j with
  | zero => intro _; rfl
  | succ j ih =>
    intro h
    have e : sAll N hd g0 ask wo w (j + 1) X = sSort N hd g0 ask wo (w j) (sAll N hd g0 ask wo w j X) := rfl
    rw [e, sSort_wt_n (by have := h j (by omega); omega)]
    exact ih (fun k hk => h k (by omega))
/-- which sorts were served when those of a worth below W, or of W itself from s on, are still to come -/
def bef (wo : Nat → Int32) (W : Int) (s i : Nat) : Prop := W < (wo i).toInt ∨ (wo i).toInt = W ∧ i < s
/-- the reference's serving, so far -/
def SI (n N m : Nat) (h0 : Int32) (g0 : Nat → Nat) (ask ga wo b0 gm0 : Nat → Int32) (σ0 : Mm) (w wa : Nat → Nat) (X0 : Sx) (W : Int) (s : Nat) (σ : Mm) : Prop :=
  ∃ (j : Nat) (gm ww : Nat → Int32), j ≤ m ∧ (∀ k, k < m → (bef wo W s (w k) ↔ k < j)) ∧
    SR n N g0 ask ga σ0 σ (sAll N (hob h0) g0 ask wo w j X0).1 (sAll N (hob h0) g0 ask wo w j X0).2.1 (fun i => b0 i + (sAll N (hob h0) g0 ask wo w j X0).2.2.2 i) gm ww ∧
    (∀ k, k < j → gm (w k) = gm0 (w k) + nI ((sAll N (hob h0) g0 ask wo w j X0).2.2.1 (4 * w k + wa (w k))) ∧ ∀ x, x < 3 → ww (4 * w k + x) = nI (fK (w k) (wa (w k)) (x + 1) (sAll N (hob h0) g0 ask wo w j X0).2.2.1)) ∧
    (∀ i, i < 6 → (∀ k, k < j → w k ≠ i) → gm i = gm0 i ∧ ∀ x, x < 3 → ww (4 * i + x) = 0) ∧ (∀ i, i < 6 → ww (4 * i + 3) = 0)
theorem r_L33 {K : Mm → Option Mm} {Q : Mm → Prop} {W : Int} {Wi : Int32} (hWi : Wi.toInt = W) (hK : SRk n N h0 g0 ask σ0) (hm : m ≤ 6) (h25 : σ0 703 25 = nI m) (hwo : ∀ i, i < m → σ0 709 (3 * i) = wo i) (hX : ∀ k, X0.2.2.1 k ≤ 1000) (hwa : ∀ i, i < m → wa i ≤ 3) (hz : ∀ i a, i < m → a < 4 → wa i < a → X0.2.2.1 (4 * i + a) = 0) (hcm : ∀ i k, i < m → k < 4 → σ0 721 (4 * i + k) = nI (fK i (wa i) k X0.2.2.1))
    (w1 : ∀ k, k < m → w k < m) (w2 : ∀ i j, i < j → j < m → wo (w j) < wo (w i) ∨ wo (w i) = wo (w j) ∧ w i < w j) (w3 : ∀ s, s < m → ∃ k, k < m ∧ w k = s)
    (hQ : ∀ σ, SI n N m h0 g0 ask ga wo b0 gm0 σ0 w wa X0 W m σ → Ok (K σ) Q) :
    ∀ r s fu σ, s + r = m → r < fu → SI n N m h0 g0 ask ga wo b0 gm0 σ0 w wa X0 W s σ → Ok (zfX12_serveAll_L33 K Wi fu (nI s) σ) Q := by
  intro r
  induction r with
  | zero =>
    intro s fu σ hs hf hI
    obtain ⟨fu, rfl⟩ : ∃ g, fu = g + 1 := ⟨fu - 1, by omega⟩
    have : s = m := by omega
    subst this
    obtain ⟨j, gm, ww, i1, i2, i3, i4⟩ := id hI
    unfold zfX12_serveAll_L33
    rw [i3.2.2.2.2.2.2.2.1 25 (by decide), h25, if_pos (by rw [n_le (by omega) (by omega)]; omega)]
    exact hQ σ hI
  | succ r ih =>
    intro s fu σ hs hf hI
    obtain ⟨fu, rfl⟩ : ∃ g, fu = g + 1 := ⟨fu - 1, by omega⟩
    obtain ⟨j, gm, ww, i1, i2, i3, i4, i5, i6⟩ := id hI
    have h709 := i3.2.2.2.2.2.2.2.2.2 709 (by decide) (by decide) (by decide) (by decide) (by decide)
    have e3 : (3 : Int32) * nI s = nI (3 * s) := n_mul 3 s
    unfold zfX12_serveAll_L33
    rw [i3.2.2.2.2.2.2.2.1 25 (by decide), h25, if_neg (by rw [n_le (by omega) (by omega)]; omega), e3, ok_ck]
    refine ⟨(n_in (by omega)).mpr (by omega), ?_⟩
    rw [n_ix (by omega), h709, hwo s (by omega)]
    refine ok_lg (fun j58 h58 => ?_)
    have go : ∀ σ', SI n N m h0 g0 ask ga wo b0 gm0 σ0 w wa X0 W (s + 1) σ' → Ok (j58 σ') Q := by
      intro σ' h'
      rw [h58, ok_lt, show nI s + 1 = nI (s + 1) from n_add _ 1]
      exact ih (s + 1) fu σ' (by omega) (by omega) h'
    by_cases c : wo s = Wi
    case neg =>
      rw [if_neg c]
      refine go σ ⟨j, gm, ww, i1, fun k hk => ?_, i3, i4, i5, i6⟩
      rw [← i2 k hk]
      unfold bef
      have hne : (wo s).toInt ≠ W := fun q => c (Int32.toInt_inj.mp (q.trans hWi.symm))
      constructor
      · rintro (h | ⟨h, h2⟩)
        · exact Or.inl h
        · by_cases e : w k = s
          · rw [e] at h; exact absurd h hne
          · exact Or.inr ⟨h, by omega⟩
      · rintro (h | ⟨h, h2⟩)
        · exact Or.inl h
        · exact Or.inr ⟨h, by omega⟩
    case pos =>
    rw [if_pos c, ok_bd]
    have hW : (wo s).toInt = W := by rw [c]; exact hWi
    obtain ⟨kk, hkk, hks⟩ := w3 s (by omega)
    have hkj : kk = j := by
      have n1 : ¬ kk < j := fun q => by
        have := (i2 kk hkk).mpr q
        unfold bef at this
        rw [hks] at this
        omega
      by_cases e : kk = j
      · exact e
      · exfalso
        have hj : j < kk := by omega
        have n2 : ¬ bef wo W s (w j) := fun q => by have := (i2 j (by omega)).mp q; omega
        apply n2
        unfold bef
        rcases w2 j kk hj hkk with h | ⟨h, h2⟩
        · rw [Int32.lt_iff_toInt_lt, hks] at h; exact Or.inl (by omega)
        · rw [hks] at h h2; exact Or.inr ⟨by rw [h]; exact hW, h2⟩
    subst hkj
    have hun : ∀ k, k < kk → w k ≠ s := by
      intro k hk e
      rcases w2 k kk hk hkk with h | ⟨h, h2⟩
      · rw [e, hks, Int32.lt_iff_toInt_lt] at h; omega
      · rw [e, hks] at h2; omega
    have hwt : ∀ a, a < 4 → (sAll N (hob h0) g0 ask wo w kk X0).2.2.1 (4 * s + a) = X0.2.2.1 (4 * s + a) := fun a ha => sAll_wt_n ha kk hun
    have hfK : ∀ k, fK s (wa s) k (sAll N (hob h0) g0 ask wo w kk X0).2.2.1 = fK s (wa s) k X0.2.2.1 := by
      intro k
      have := hwa s (by omega)
      unfold fK
      split
      · exact hwt _ (by omega)
      · rfl
    refine ok_mono (r_serve (w := wa s) (wo := wo) (b0 := b0) (gm := gm) (ww := ww) hK (show s < 6 by omega) (hwo s (by omega)) (fun k => Nat.le_trans (sAll_wt kk) (hX k)) (hwa s (by omega)) (fun a ha h => by rw [hwt a ha]; exact hz s a (by omega) ha h) (fun k hk => by rw [hfK]; exact hcm s k (by omega) hk) i3) (fun σ' hσ' => go σ' ?_)
    have eX : sAll N (hob h0) g0 ask wo w (kk + 1) X0 = sSort N (hob h0) g0 ask wo s (sAll N (hob h0) g0 ask wo w kk X0) := by
      show sSort N (hob h0) g0 ask wo (w kk) _ = _
      rw [hks]
    have g1 := (i5 s (by omega) hun)
    refine ⟨kk + 1, _, _, by omega, fun k hk => ?_, by rw [eX]; exact hσ', fun k hk => ?_, fun i hi h => ?_, fun i hi => ?_⟩
    · unfold bef
      constructor
      · intro h
        by_cases e1 : k ≤ kk
        · omega
        · exfalso
          have hb : ¬ bef wo W s (w k) := fun q => by have := (i2 k hk).mp q; omega
          rcases w2 kk k (by omega) hk with g | ⟨g, g2⟩
          · rw [hks, Int32.lt_iff_toInt_lt] at g; rcases h with h | ⟨h, -⟩ <;> omega
          · rw [hks] at g g2
            rcases h with h | ⟨h, h2⟩
            · rw [← g] at h; omega
            · omega
      · intro h
        by_cases e1 : k = kk
        · subst e1; rw [hks]; exact Or.inr ⟨hW, by omega⟩
        · rcases (i2 k hk).mpr (by omega) with h | ⟨h, h2⟩
          · exact Or.inl h
          · exact Or.inr ⟨h, by omega⟩
    · rw [eX]
      by_cases e1 : k = kk
      · subst e1
        rw [hks]
        try dsimp only
        refine ⟨by rw [if_pos rfl, g1.1], fun x hx => ?_⟩
        rw [if_pos (by omega), g1.2 x hx, show 4 * s + x - 4 * s + 1 = x + 1 by omega]; grind
      · have hne : w k ≠ s := hun k (by omega)
        obtain ⟨q1, q2⟩ := i4 k (by omega)
        have hwk := w1 k (by omega)
        have hwak := hwa (w k) hwk
        try dsimp only
        refine ⟨?_, fun x hx => ?_⟩
        · rw [if_neg hne, q1, sSort_wt_n (by omega)]
        · rw [if_neg (by omega), q2 x hx]
          unfold fK
          split
          · rw [sSort_wt_n (by omega)]
          · rfl
    · try dsimp only
      have hne : i ≠ s := fun e => h kk (by omega) (by rw [hks, e])
      obtain ⟨q1, q2⟩ := i5 i hi (fun k hk => h k (by omega))
      refine ⟨by rw [if_neg hne]; exact q1, fun x hx => by rw [if_neg (by omega)]; exact q2 x hx⟩
    · try dsimp only
      rw [if_neg (by omega)]; exact i6 i hi
theorem r_serveAll {σ : Mm} (hK : SRk n N h0 g0 ask σ) (hm : m ≤ 6) (h25 : σ 703 25 = nI m) (hwo : ∀ i, i < m → σ 709 (3 * i) = wo i ∧ sm 20 (wo i)) (hX : ∀ k, X0.2.2.1 k ≤ 1000) (hwa : ∀ i, i < m → wa i ≤ 3) (hz : ∀ i a, i < m → a < 4 → wa i < a → X0.2.2.1 (4 * i + a) = 0) (hcm : ∀ i k, i < m → k < 4 → σ 721 (4 * i + k) = nI (fK i (wa i) k X0.2.2.1))
    (w1 : ∀ k, k < m → w k < m) (w2 : ∀ i j, i < j → j < m → wo (w j) < wo (w i) ∨ wo (w i) = wo (w j) ∧ w i < w j) (w3 : ∀ s, s < m → ∃ k, k < m ∧ w k = s)
    (hS : SR n N g0 ask ga σ σ X0.1 X0.2.1 (fun i => b0 i + X0.2.2.2 i) gm0 (fun j => σ 714 (30 + j))) :
    Ok (zfX12_serveAll σ) (fun σ' => ∃ gm ww, SR n N g0 ask ga σ σ' (sAll N (hob h0) g0 ask wo w m X0).1 (sAll N (hob h0) g0 ask wo w m X0).2.1 (fun i => b0 i + (sAll N (hob h0) g0 ask wo w m X0).2.2.2 i) gm ww ∧
      (∀ i, i < m → gm i = gm0 i + nI ((sAll N (hob h0) g0 ask wo w m X0).2.2.1 (4 * i + wa i)) ∧ ∀ x, x < 3 → ww (4 * i + x) = nI (fK i (wa i) (x + 1) (sAll N (hob h0) g0 ask wo w m X0).2.2.1)) ∧
      (∀ i, m ≤ i → i < 6 → gm i = gm0 i ∧ ∀ x, x < 3 → ww (4 * i + x) = 0) ∧ ∀ i, i < 6 → ww (4 * i + 3) = 0) := by
  unfold zfX12_serveAll
  refine ok_lg (fun k24 h24 => ?_)
  refine ok_up (F := fun fu (s : Int32 × Mm) => zfX12_serveAll_L2 k24 fu s.1 s.2) 24 (fun i s => s.1 = nI i ∧ SR n N g0 ask ga σ s.2 X0.1 X0.2.1 (fun i => b0 i + X0.2.2.2 i) gm0 (fun j => if j < i then 0 else σ 714 (30 + j))) ?_ ?_ 0 NF (0, σ) ⟨rfl, hS.cg (fun _ _ => rfl) (fun _ _ => rfl) (fun j hj => by rw [if_neg (by omega)])⟩ (by omega) (by unfold NF; omega)
  · rintro i fu ⟨y, τ⟩ hi ⟨hy, hI⟩ hk
    have hy : y = nI i := hy
    subst hy
    have hI : SR n N g0 ask ga σ τ X0.1 X0.2.1 (fun i => b0 i + X0.2.2.2 i) gm0 (fun j => if j < i then 0 else σ 714 (30 + j)) := hI
    show Ok (zfX12_serveAll_L2 k24 (fu + 1) (nI i) τ) _
    unfold zfX12_serveAll_L2
    rw [if_neg (by rw [show (24 : Int32) = nI 24 from rfl, n_le (by decide) (by omega)]; omega), show (30 : Int32) + nI i = nI (30 + i) from n_add 30 i, ck_t ((n_in (by omega)).mpr (by omega)), ok_lt, ok_lt, n_ix (by omega), show nI i + 1 = nI (i + 1) from n_add _ 1]
    refine hk (nI (i + 1), zst τ 714 (30 + i) 0) ⟨rfl, ?_⟩
    refine (hI.tww hK.1 hi (v := 0)).cg (fun _ _ => rfl) (fun _ _ => rfl) (fun j hj => ?_)
    by_cases e : j = i
    · subst e; rw [upd_s, if_pos (by omega)]
    · rw [upd_n e]
      by_cases c : j < i
      · rw [if_pos c, if_pos (by omega)]
      · rw [if_neg c, if_neg (by omega)]
  · rintro fu ⟨y, τ⟩ ⟨hy, hI⟩
    have hy : y = nI 24 := hy
    subst hy
    have hI : SR n N g0 ask ga σ τ X0.1 X0.2.1 (fun i => b0 i + X0.2.2.2 i) gm0 (fun j => if j < 24 then 0 else σ 714 (30 + j)) := hI
    have hI : SR n N g0 ask ga σ τ X0.1 X0.2.1 (fun i => b0 i + X0.2.2.2 i) gm0 (fun _ => 0) := hI.cg (fun _ _ => rfl) (fun _ _ => rfl) (fun j hj => by rw [if_pos hj])
    show Ok (zfX12_serveAll_L2 k24 (fu + 1) (nI 24) τ) _
    unfold zfX12_serveAll_L2
    rw [if_pos (by decide), h24]
    refine ok_lg (fun k70 h70 => ?_)
    have key : ∀ (r fu : Nat) (υ : Mm), r ≤ 21 → r < fu → SI n N m h0 g0 ask ga wo b0 gm0 σ w wa X0 ((r : Int) - 1) 0 υ → Ok (zfX12_serveAll_L27 k70 fu (nI r + (-1)) υ) (fun σ' => ∃ gm ww, SR n N g0 ask ga σ σ' (sAll N (hob h0) g0 ask wo w m X0).1 (sAll N (hob h0) g0 ask wo w m X0).2.1 (fun i => b0 i + (sAll N (hob h0) g0 ask wo w m X0).2.2.2 i) gm ww ∧
      (∀ i, i < m → gm i = gm0 i + nI ((sAll N (hob h0) g0 ask wo w m X0).2.2.1 (4 * i + wa i)) ∧ ∀ x, x < 3 → ww (4 * i + x) = nI (fK i (wa i) (x + 1) (sAll N (hob h0) g0 ask wo w m X0).2.2.1)) ∧
      (∀ i, m ≤ i → i < 6 → gm i = gm0 i ∧ ∀ x, x < 3 → ww (4 * i + x) = 0) ∧ ∀ i, i < 6 → ww (4 * i + 3) = 0) := by
      intro r
      induction r with
      | zero =>
        intro fu υ _ hf hI
        obtain ⟨fu, rfl⟩ : ∃ g, fu = g + 1 := ⟨fu - 1, by omega⟩
        unfold zfX12_serveAll_L27
        rw [if_pos (by decide), h70, ok_s]
        obtain ⟨j, gm, ww, i1, i2, i3, i4, i5, i6⟩ := hI
        have hj : j = m := by
          by_cases e : j = m
          · exact e
          · exfalso
            have := (i2 j (by omega)).mp (Or.inl (by
              have h := (hwo (w j) (w1 j (by omega))).2
              rw [h.1, n_ti (by have := h.2; omega)]; omega))
            omega
        subst hj
        refine ⟨gm, ww, i3, fun i hi => ?_, fun i h1 h2 => i5 i h2 (fun k hk e => by have := w1 k hk; omega), i6⟩
        obtain ⟨k, hk, rfl⟩ := w3 i hi
        exact i4 k hk
      | succ r ih =>
        intro fu υ hr hf hI
        obtain ⟨fu, rfl⟩ : ∃ g, fu = g + 1 := ⟨fu - 1, by omega⟩
        rw [show nI (r + 1) + (-1) = nI r from n_neg r]
        unfold zfX12_serveAll_L27
        rw [if_neg (n_nlt0 (by omega))]
        refine ok_lg (fun k64 h64 => ?_)
        have hr1 : (((r + 1 : Nat) : Int) - 1) = (r : Int) := by omega
        rw [hr1] at hI
        rw [← n_0]
        refine r_L33 (W := (r : Int)) (Wi := nI r) (n_ti (by omega)) hK hm h25 (fun i hi => (hwo i hi).1) hX hwa hz hcm w1 w2 w3 (fun φ hφ => ?_) m 0 NF υ (by omega) (by unfold NF; omega) hI
        rw [h64, ok_lt]
        refine ih fu φ (by omega) (by omega) ?_
        obtain ⟨j, gm, ww, i1, i2, i3⟩ := hφ
        refine ⟨j, gm, ww, i1, fun k hk => ?_, i3⟩
        rw [← i2 k hk]
        have := w1 k hk
        unfold bef
        omega
    rw [show (20 : Int32) = nI 21 + (-1) by decide]
    refine key 21 NF τ (by omega) (by unfold NF; omega) ⟨0, gm0, fun _ => 0, Nat.zero_le _, fun k hk => ?_, hI, fun k hk => absurd hk (Nat.not_lt_zero k), fun i hi _ => ⟨rfl, fun _ _ => rfl⟩, fun _ _ => rfl⟩
    have h := (hwo (w k) (w1 k hk)).2
    unfold bef
    rw [h.1, n_ti (by have := h.2; omega)]
    have := h.2
    omega
end
