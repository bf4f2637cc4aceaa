/-! ===== the class's sorts by worth ===== -/
theorem c_addB {q : Nat} {σ : Mm} {D : MD} {V : Nat → Int32} (h : CD q σ D) (hnb : D.1.2.1 < 6) : Ok (zfX0_addSort q (V 3) (V 4) (V 5) σ) (fun a => a.1 = 1 ∧ CD q a.2 (adD D 1 V) ∧ FrQ q σ a.2) := by
  obtain ⟨⟨ns, nb, hl⟩, S, B, L⟩ := D
  obtain ⟨b1, b2, b3, h1, h2, h3, h4, h5, h6, h7, h8, h9⟩ := h
  dsimp only at *
  obtain ⟨w, w1, w2, w3⟩ := h9
  have hin : inb (nI nb) 6 := (n_in (by omega)).mpr (by omega)
  unfold zfX0_addSort
  have hNF : 10 < NF := by unfold NF; omega
  generalize NF = N at hNF ⊢
  simp only [lt_p]
  rw [h2, if_pos (by rw [show (6 : Int32) = nI 6 from rfl, n_lt (by omega) (by decide)]; exact hnb), ck_t hin, n_ix (by omega)]
  rw [zst_n (show q ≠ q + 4 by omega), h2, ck_t hin, n_ix (by omega), zst_n (show q ≠ q + 5 by omega), zst_n (show q ≠ q + 4 by omega), h2, ck_t hin, n_ix (by omega), zst_n (show q ≠ q + 6 by omega), zst_n (show q ≠ q + 5 by omega), zst_n (show q ≠ q + 4 by omega), h2]
  generalize hτ : zst (zst (zst σ (q + 4) nb (V 3)) (q + 5) nb (V 4)) (q + 6) nb (V 5) = τ
  have r4 : τ (q + 4) = upd (σ (q + 4)) nb (V 3) := by rw [← hτ, zst_n (by omega), zst_n (by omega), zst_s]
  have r5 : τ (q + 5) = upd (σ (q + 5)) nb (V 4) := by rw [← hτ, zst_n (by omega), zst_s, zst_n (by omega)]
  have r6 : τ (q + 6) = upd (σ (q + 6)) nb (V 5) := by rw [← hτ, zst_s, zst_n (by omega), zst_n (by omega)]
  have rr : ∀ c, c < q + 4 ∨ q + 6 < c → τ c = σ c := fun c hc => by rw [← hτ, zst_n (by omega), zst_n (by omega), zst_n (by omega)]
  have hwt : ∀ k, k < nb → τ (q + 4) (w k) = B (3 * w k) := fun k hk => by
    rw [r4, upd_n (by have := (w1 k hk).2; omega)]
    exact (h8 (w k) (w1 k hk).2).1
  have fin : ∀ k (υ : Mm), k ≤ nb → (∀ c, c ≠ q + 7 → υ c = τ c) → (∀ j, j < k → υ (q + 7) j = nI (w j)) → (∀ j, k ≤ j → j < nb → υ (q + 7) (j + 1) = nI (w j) ∧ B (3 * w j) < V 3) → (0 < k → V 3 ≤ B (3 * w (k - 1))) →
      Ok (ck (inb (nI k) 6) (some ((1 : Int32), zst (zst υ (q + 7) (ix (nI k)) (υ q 1)) q 1 (zst υ (q + 7) (ix (nI k)) (υ q 1) q 1 + 1)))) (fun a => a.1 = 1 ∧ CD q a.2 (adD ((ns, nb, hl), S, B, L) 1 V) ∧ FrQ q σ a.2) := by
    intro k υ hk e1 e2 e3 e4
    rw [ok_ck]
    refine ⟨(n_in (by omega)).mpr (by omega), ?_⟩
    rw [ok_s, n_ix (by omega), zst_n (show q ≠ q + 7 by omega), e1 q (by omega), rr q (by omega), h2]
    dsimp only
    refine ⟨rfl, ?_, fun c hc => ?_⟩
    · generalize hφ : zst (zst υ (q + 7) k (nI nb)) q 1 (nI nb + 1) = φ
      have f7 : φ (q + 7) = upd (υ (q + 7)) k (nI nb) := by rw [← hφ, zst_n (by omega), zst_s]
      have fq : φ q 1 = nI (nb + 1) := by rw [← hφ, zst_v]; exact n_add _ 1
      have fk : ∀ j, j ≠ 1 → φ q j = σ q j := fun j hj => by rw [← hφ, zst_k hj, zst_n (by omega), e1 _ (by omega), rr _ (by omega)]
      have fc : ∀ c, c ≠ q → c ≠ q + 7 → φ c = τ c := fun c c1 c2 => by rw [← hφ, zst_n c1, zst_n c2, e1 c c2]
      unfold CD adD
      rw [if_neg (by decide), if_pos rfl]
      dsimp only
      rw [fq, fk 0 (by decide), fk 2 (by decide), fk 3 (by decide), fk 4 (by decide), fc (q + 1) (by omega) (by omega), fc (q + 2) (by omega) (by omega), fc (q + 3) (by omega) (by omega), fc (q + 4) (by omega) (by omega), fc (q + 5) (by omega) (by omega), fc (q + 6) (by omega) (by omega), f7, rr (q + 1) (by omega), rr (q + 2) (by omega), rr (q + 3) (by omega), r4, r5, r6]
      have hB : ∀ s, s < nb → (if 3 * nb ≤ 3 * s then V (3 + (3 * s - 3 * nb)) else B (3 * s)) = B (3 * s) := fun s hs => if_neg (by omega)
      have hBn : (if 3 * nb ≤ 3 * nb then V (3 + (3 * nb - 3 * nb)) else B (3 * nb)) = V 3 := by rw [if_pos (Nat.le_refl _), show 3 + (3 * nb - 3 * nb) = 3 by omega]
      refine ⟨b1, by omega, b3, h1, rfl, h3, h4, h5, h6, h7, fun j hj => ?_, ?_⟩
      · by_cases e : j = nb
        · subst e
          rw [upd_s, upd_s, upd_s, if_pos (by omega), if_pos (by omega), if_pos (by omega), show 3 + (3 * j - 3 * j) = 3 by omega, show 3 + (3 * j + 1 - 3 * j) = 4 by omega, show 3 + (3 * j + 2 - 3 * j) = 5 by omega]
          exact ⟨rfl, rfl, rfl⟩
        · rw [upd_n e, upd_n e, upd_n e, if_neg (by omega), if_neg (by omega), if_neg (by omega)]
          exact h8 j (by omega)
      · refine ⟨fun j => if j < k then w j else if j = k then nb else w (j - 1), fun j hj => ?_, fun i j hij hj => ?_, fun s hs => ?_⟩
        · dsimp only
          by_cases c1 : j < k
          · rw [if_pos c1, upd_n (by omega)]
            exact ⟨e2 j c1, by have := (w1 j (by omega)).2; omega⟩
          · rw [if_neg c1]
            by_cases c2 : j = k
            · rw [if_pos c2, c2, upd_s]; exact ⟨rfl, by omega⟩
            · rw [if_neg c2, upd_n c2]
              have := (e3 (j - 1) (by omega) (by omega)).1
              rw [show j - 1 + 1 = j by omega] at this
              exact ⟨this, by have := (w1 (j - 1) (by omega)).2; omega⟩
        · dsimp only
          have le1 : ∀ i, i < k → V 3 ≤ B (3 * w i) := by
            intro i hi
            have g := e4 (by omega)
            by_cases c : i = k - 1
            · rw [c]; exact g
            · rw [Int32.le_iff_toInt_le] at g ⊢
              rcases w2 i (k - 1) (by omega) (by omega) with g2 | ⟨g2, -⟩
              · rw [Int32.lt_iff_toInt_lt] at g2; omega
              · rw [g2]; exact g
          by_cases c1 : i < k
          · rw [if_pos c1, hB _ (w1 i (by omega)).2]
            by_cases c2 : j < k
            · rw [if_pos c2, hB _ (w1 j (by omega)).2]; exact w2 i j hij (by omega)
            · rw [if_neg c2]
              by_cases c3 : j = k
              · rw [if_pos c3, hBn]
                have g := le1 i c1
                by_cases e : B (3 * w i) = V 3
                · exact Or.inr ⟨e, (w1 i (by omega)).2⟩
                · left
                  rw [Int32.le_iff_toInt_le] at g
                  rw [Int32.lt_iff_toInt_lt]
                  have : (B (3 * w i)).toInt ≠ (V 3).toInt := fun q => e (Int32.toInt_inj.mp q)
                  omega
              · rw [if_neg c3, hB _ (w1 (j - 1) (by omega)).2]; exact w2 i (j - 1) (by omega) (by omega)
          · rw [if_neg c1, if_neg (show ¬ j < k by omega), if_neg (show ¬ j = k by omega), hB _ (w1 (j - 1) (by omega)).2]
            by_cases c3 : i = k
            · rw [if_pos c3, hBn]
              exact Or.inl (e3 (j - 1) (by omega) (by omega)).2
            · rw [if_neg c3, hB _ (w1 (i - 1) (by omega)).2]; exact w2 (i - 1) (j - 1) (by omega) (by omega)
        · by_cases c : s = nb
          · exact ⟨k, by omega, by dsimp only; rw [if_neg (by omega), if_pos rfl, c]⟩
          · obtain ⟨k0, g1, g2⟩ := w3 s (by omega)
            by_cases c2 : k0 < k
            · exact ⟨k0, by omega, by dsimp only; rw [if_pos c2, g2]⟩
            · exact ⟨k0 + 1, by omega, by dsimp only; rw [if_neg (by omega), if_neg (by omega), show k0 + 1 - 1 = k0 by omega, g2]⟩
    · rw [zst_n (by omega), zst_n (by omega), e1 c (by omega), rr c (by omega)]
  have key : ∀ k fu (υ : Mm), k ≤ nb → k < fu → (∀ c, c ≠ q + 7 → υ c = τ c) → (∀ j, j < k → υ (q + 7) j = nI (w j)) → (∀ j, k ≤ j → j < nb → υ (q + 7) (j + 1) = nI (w j) ∧ B (3 * w j) < V 3) →
      Ok (zfX0_addSort_L47 (fun x4_92 σ92 => ck (inb x4_92 6) (some (1, zst (zst σ92 (q + 7) (ix x4_92) (σ92 q 1)) q 1 (zst σ92 (q + 7) (ix x4_92) (σ92 q 1) q 1 + 1)))) q (V 3) fu (nI k) υ) (fun a => a.1 = 1 ∧ CD q a.2 (adD ((ns, nb, hl), S, B, L) 1 V) ∧ FrQ q σ a.2) := by
    intro k
    induction k with
    | zero =>
      intro fu υ hk hf e1 e2 e3
      obtain ⟨fu, rfl⟩ : ∃ g, fu = g + 1 := ⟨fu - 1, by omega⟩
      unfold zfX0_addSort_L47
      rw [if_pos (by decide)]
      exact fin 0 υ hk e1 e2 e3 (fun h => by omega)
    | succ k ih =>
      intro fu υ hk hf e1 e2 e3
      obtain ⟨fu, rfl⟩ : ∃ g, fu = g + 1 := ⟨fu - 1, by omega⟩
      unfold zfX0_addSort_L47
      have x1 : nI (k + 1) - 1 = nI k := by rw [show (1 : Int32) = nI 1 from rfl, n_sub (by omega)]; rfl
      have x2 : nI (k + 1) + (-1) = nI k := n_neg _
      have hwk := w1 k (by omega)
      rw [if_neg (by rw [show (0 : Int32) = nI 0 from rfl, n_le (by omega) (by decide)]; omega), x1, ok_ck, n_ix (by omega : k < 2147483648), e2 k (by omega)]
      refine ⟨(n_in (by omega)).mpr (by omega), ?_⟩
      rw [ok_ck]
      refine ⟨(n_in (by omega)).mpr (by omega), ?_⟩
      rw [n_ix (by omega : w k < 2147483648), e1 (q + 4) (by omega), hwt k (by omega)]
      by_cases c : V 3 ≤ B (3 * w k)
      · rw [if_pos c]
        exact fin (k + 1) υ hk e1 e2 e3 (fun _ => by rw [show k + 1 - 1 = k by omega]; exact c)
      · rw [if_neg c, ok_ck]
        refine ⟨(n_in (by omega)).mpr (by omega), ?_⟩
        rw [ok_ck]
        refine ⟨(n_in (by omega)).mpr (by omega), ?_⟩
        simp only [lt_p]
        rw [x2, n_ix (by omega)]
        refine ih fu _ (by omega) (by omega) (fun c hc => by rw [zst_n hc]; exact e1 c hc) (fun j hj => by rw [zst_k (by omega)]; exact e2 j (by omega)) (fun j hj1 hj2 => ?_)
        by_cases e : j = k
        · subst e
          rw [zst_v]
          exact ⟨rfl, by rw [Int32.le_iff_toInt_le] at c; rw [Int32.lt_iff_toInt_lt]; omega⟩
        · rw [zst_k (by omega)]; exact e3 j (by omega) hj2
  exact key nb N τ (by omega) (by omega) (fun _ _ => rfl) (fun j hj => by rw [rr _ (by omega)]; exact (w1 j hj).1) (fun j h1 h2 => by omega)
