/-! ===== rest: the reference ===== -/
/-- askings told, by a row: only the sellers' count -/
theorem Kb.re {P : Pm} {rc : Nat} {s σ τ : Mm} {f g : Nat → Int32} (h : Kb (tellP P f) rc s σ τ) (e : ∀ k, k < pn P → f k = g k) : Kb (tellP P g) rc s σ τ := by
  obtain ⟨k1, k2, k3, ⟨p1, p2, p3, p4, p5, p6, p7⟩, k5, k6⟩ := h
  refine ⟨k1, k2, k3, ⟨p1, p2, p3, p4, p5, fun k hk => ?_, p7⟩, k5, k6⟩
  obtain ⟨a, b, c, d, e2⟩ := p6 k hk
  exact ⟨a, b, c, d.trans (e k hk), e2⟩
theorem Kb.z {P : Pm} {rc : Nat} {s σ τ : Mm} {k : Nat} {v : Int32} (hk : 43 < k ∧ k ≠ 62 ∧ k ≠ 66 ∧ k < 71 ∧ k ≠ 234 ∧ k ≠ 272) (h : Kb P rc s σ τ) : Kb P rc s σ (zst τ 703 k v) := by
  obtain ⟨k1, k2, k3, ⟨p1, p2, p3, p4, p5, p6, p7⟩, k5, k6⟩ := h
  have q : ∀ c, c ≠ 703 → zst τ 703 k v c = τ c := fun c hc => zst_n hc
  have q7 : ∀ x, x ≠ k → zst τ 703 k v 703 x = τ 703 x := fun x hx => zst_k hx
  refine ⟨k1.trans ⟨fun c hc => q c (by omega), fun j _ => by rw [q 714 (by omega)], fun j hj => q7 j (by omega)⟩, fun j hj => by rw [q 715 (by omega)]; exact k2 j hj, k3.fr14 (q 714 (by omega)), ⟨by rw [q7 24 (by omega)]; exact p1, by rw [q7 25 (by omega)]; exact p2, by rw [q7 41 (by omega), zst_v], by rw [q7 42 (by omega)]; exact p4, by rw [q 710 (by omega)]; exact p5, fun j hj => ?_, fun i hi => ?_⟩, by rw [q7 43 (by omega)]; exact k5, k6.of (q 705 (by omega)) (fun r _ => by rw [q 706 (by omega)])⟩
  · rw [q 708 (by omega), q 717 (by omega), q 716 (by omega), q7 41 (by omega)]; exact p6 j hj
  · rw [q 709 (by omega)]; exact p7 i hi
theorem r_isRest {B : Nat} {P : Pm} {rc p row : Nat} {s υ τ0 : Mm} (hs : Ks P rc B s) (h3 : pn P ≤ 3) (hb : s 0 0 = nI (p - 1)) (hp0 : 0 < p) (hp21 : p ≤ 21) (hkb : Kb (tellP P (rF p (pn P) row)) rc s υ τ0) (h41 : τ0 703 41 = s 0 3) (h54 : υ 714 54 = nI (p - 1)) :
    Ok (zfX12_isRest τ0) (fun b => Fl b.1 (ARn P s p row) ∧ Kb (tellP P (rF p (pn P) row)) rc s υ b.2 ∧ b.2 703 41 = s 0 3 ∧ ∀ k, (17 < k ∧ k ≠ 45 ∧ k ≠ 46) → b.2 703 k = τ0 703 k) := by
  obtain ⟨p1, p2, p3, p4, p5, p6⟩ := id hs
  unfold zfX12_isRest
  refine ok_lg (fun k102 h102 => ?_)
  refine ok_lg (fun k110 h110 => ?_)
  refine ok_up (F := fun fu (x : Int32 × Mm) => zfX12_isRest_L2 k110 k102 fu x.1 x.2) (pn P) (fun i x => x.1 = nI i ∧ Kb (tellP P (rF p (pn P) row)) rc s υ x.2 ∧ x.2 703 41 = s 0 3 ∧ (∀ k, (17 < k ∧ k ≠ 45 ∧ k ≠ 46) → x.2 703 k = τ0 703 k) ∧ ∀ k, k < i → ¬ hob (s 0 3) k → ∀ j, j < p → tkF P s (rF p (pn P) (chD p (pn P - 1 - k) row j)) k ≤ tkF P s (rF p (pn P) row) k) ?_ ?_ 0 NF (0, τ0) ⟨rfl, hkb, h41, fun _ _ => rfl, fun k hk => absurd hk (Nat.not_lt_zero k)⟩ (by omega) (by unfold NF; omega)
  · rintro i fu ⟨y, τ⟩ hi ⟨hy, g1, g2, g3, g4⟩ hk
    have hy : y = nI i := hy
    subst hy
    have g1 : Kb (tellP P (rF p (pn P) row)) rc s υ τ := g1
    have g2 : τ 703 41 = s 0 3 := g2
    have g3 : ∀ k, (17 < k ∧ k ≠ 45 ∧ k ≠ 46) → τ 703 k = τ0 703 k := g3
    show Ok (zfX12_isRest_L2 k110 k102 (fu + 1) (nI i) τ) _
    unfold zfX12_isRest_L2
    have e24 : τ 703 24 = nI (pn P) := g1.2.2.2.1.1
    rw [e24, if_neg (by rw [n_le (by omega) (by omega)]; omega)]
    refine ok_lg (fun J hJ => ?_)
    have go : ∀ φ, Kb (tellP P (rF p (pn P) row)) rc s υ φ → φ 703 41 = s 0 3 → (∀ k, (17 < k ∧ k ≠ 45 ∧ k ≠ 46) → φ 703 k = τ0 703 k) → (¬ hob (s 0 3) i → ∀ j, j < p → tkF P s (rF p (pn P) (chD p (pn P - 1 - i) row j)) i ≤ tkF P s (rF p (pn P) row) i) → Ok (J φ) _ := fun φ a1 a2 a3 a4 => by
      simp only [hJ]
      refine ok_lg (fun y2 ey => ?_)
      rw [show nI i + 1 = nI (i + 1) from n_add _ 1] at ey
      refine hk (y2, φ) ⟨ey, a1, a2, a3, fun k hk2 => ?_⟩
      by_cases e : k = i
      · subst e; exact a4
      · exact g4 k (by omega)
    rw [g2]
    by_cases ch : hob (s 0 3) i
    · rw [if_neg (fun h => r_has.mp h ch)]
      exact go τ g1 g2 g3 (fun h => absurd ch h)
    · rw [if_pos (r_has.mpr ch)]
      have hin5 : inb (nI i) 5 := (n_in (by omega)).mpr (by omega)
      have tk : ∀ (r : Nat) (φ : Mm), Kb (tellP P (rF p (pn P) r)) rc s υ φ → φ 703 41 = s 0 3 → Ok (zfX12_takenBy (nI i) φ) (fun b => b.1 = tkF P s (rF p (pn P) r) i ∧ Kb (tellP P (rF p (pn P) r)) rc s υ b.2 ∧ b.2 703 41 = s 0 3 ∧ (∀ k, (17 < k ∧ k ≠ 45 ∧ k ≠ 46) → b.2 703 k = φ 703 k) ∧ b.2 717 = φ 717 ∧ b.2 715 = φ 715) := fun r φ a1 a2 => by
        refine ok_mono (r_takenBy (B := B) (v := s 0 3) a1 (Kq.tell p1 (fun k _ => rF_ok hp0 hp21 k)) p2 p3 p5 a2 p6 hi) (fun b hb2 => ?_)
        obtain ⟨t1, t2, t3, t4, t5⟩ := hb2
        refine ⟨?_, t2, t3, t4, t5 717 (by omega), t5 715 (by omega)⟩
        have hto : pto (tellP P (rF p (pn P) r)) i = nI (loD p (pn P - 1 - i) r) := rF_k hi
        have hlt := loD_lt (p := p) (i := pn P - 1 - i) (row := r) hp0
        rw [t1]
        unfold tkn tkF
        rw [zst_self rfl, dA_to (by rw [hto]; exact n_ne1 (by omega))]
        rfl
      have e717 : ∀ (r : Nat) (φ : Mm), Kb (tellP P (rF p (pn P) r)) rc s υ φ → φ 717 i = nI (loD p (pn P - 1 - i) r) := fun r φ h => by
        have : φ 717 i = rF p (pn P) r i := (h.2.2.2.1.2.2.2.2.2.1 i hi).2.2.2.1
        rw [this, rF_k hi]
      rw [ck_t hin5, n_ix (by omega), e717 row τ g1]
      refine ok_lg (fun x2 hx2 => ?_)
      subst hx2
      rw [ok_bd2]
      refine ok_mono (tk row τ g1 g2) (fun b hb2 => ?_)
      obtain ⟨t1, t2, t3, t4, t5, t6⟩ := hb2
      rw [t1]
      refine ok_lg (fun K90 hK90 => ?_)
      have hlt := loD_lt (p := p) (i := pn P - 1 - i) (row := row) hp0
      have fin : ∀ (x : Int32) (j : Nat) (φ : Mm), (∃ f, Kb (tellP P f) rc s υ φ ∧ ∀ k, k < pn P → k ≠ i → f k = rF p (pn P) row k) → φ 703 41 = s 0 3 → (∀ k, (17 < k ∧ k ≠ 45 ∧ k ≠ 46) → φ 703 k = τ0 703 k) → (x = 0 ∧ ∀ j, j < p → tkF P s (rF p (pn P) (chD p (pn P - 1 - i) row j)) i ≤ tkF P s (rF p (pn P) row) i) ∨ (x ≠ 0 ∧ ¬ ARn P s p row) → Ok (K90 x φ) (fun b => Fl b.1 (ARn P s p row) ∧ Kb (tellP P (rF p (pn P) row)) rc s υ b.2 ∧ b.2 703 41 = s 0 3 ∧ ∀ k, (17 < k ∧ k ≠ 45 ∧ k ≠ 46) → b.2 703 k = τ0 703 k) := fun x j φ a1 a2 a3 a4 => by
        obtain ⟨f, a1, a5⟩ := a1
        simp only [hK90]
        rw [ck_t hin5]
        refine ok_lg (fun φ2 e2 => ?_)
        have kb2 : Kb (tellP P (rF p (pn P) row)) rc s υ φ2 := by
          rw [e2]
          refine (a1.tell (i := i) (x := nI (loD p (pn P - 1 - i) row))).re (fun k hk2 => ?_)
          by_cases e : k = i
          · rw [if_pos e, e, rF_k hi]
          · rw [if_neg e]; exact a5 k hk2 e
        have q : φ2 703 = φ 703 := by rw [e2, zst_n (by omega)]
        rcases a4 with ⟨e, a4⟩ | ⟨e, a4⟩
        · rw [if_pos e]
          exact go φ2 kb2 (by rw [q]; exact a2) (fun k hk2 => by rw [q]; exact a3 k hk2) (fun _ => a4)
        · rw [if_neg e]
          simp only [h102]
          rw [ok_s]
          exact ⟨Or.inl ⟨rfl, a4⟩, kb2, by dsimp only; rw [q]; exact a2, fun k hk2 => by dsimp only; rw [q]; exact a3 k hk2⟩
      refine ok_up (F := fun fu (x : Int32 × Int32 × Mm) => zfX12_isRest_L43 K90 (nI i) (tkF P s (rF p (pn P) row) i) fu x.1 x.2.1 x.2.2) p (fun j x => x.2.1 = nI j ∧ (∃ f, Kb (tellP P f) rc s υ x.2.2 ∧ ∀ k, k < pn P → k ≠ i → f k = rF p (pn P) row k) ∧ x.2.2 703 41 = s 0 3 ∧ (∀ k, (17 < k ∧ k ≠ 45 ∧ k ≠ 46) → x.2.2 703 k = τ0 703 k) ∧ ((x.1 = 0 ∧ ∀ j', j' < j → tkF P s (rF p (pn P) (chD p (pn P - 1 - i) row j')) i ≤ tkF P s (rF p (pn P) row) i) ∨ (x.1 ≠ 0 ∧ ¬ ARn P s p row))) ?_ ?_ 0 NF (0, 0, b.2)
        ⟨rfl, ⟨_, t2, fun _ _ _ => rfl⟩, t3, fun k hk2 => by dsimp only; rw [t4 k hk2]; exact g3 k hk2, Or.inl ⟨rfl, fun j hj => absurd hj (Nat.not_lt_zero j)⟩⟩ (by omega) (by unfold NF; omega)
      · rintro j fu2 ⟨x, y, φ⟩ hj ⟨hy, ⟨f, b1, b2⟩, b3, b4, b5⟩ hk2
        have hy : y = nI j := hy
        subst hy
        have b1 : Kb (tellP P f) rc s υ φ := b1
        have b3 : φ 703 41 = s 0 3 := b3
        have b4 : ∀ k, (17 < k ∧ k ≠ 45 ∧ k ≠ 46) → φ 703 k = τ0 703 k := b4
        have b5 : (x = 0 ∧ ∀ j', j' < j → tkF P s (rF p (pn P) (chD p (pn P - 1 - i) row j')) i ≤ tkF P s (rF p (pn P) row) i) ∨ (x ≠ 0 ∧ ¬ ARn P s p row) := b5
        show Ok (zfX12_isRest_L43 K90 (nI i) (tkF P s (rF p (pn P) row) i) (fu2 + 1) x (nI j) φ) _
        unfold zfX12_isRest_L43
        have e54 : φ 715 (ix 54) = nI (p - 1) := by rw [show ix 54 = 54 by decide, b1.2.1 54 (by omega)]; exact h54
        rw [e54, if_neg (by rw [n_lt (by omega) (by omega)]; omega)]
        rcases b5 with ⟨e, b5⟩ | ⟨e, b5⟩
        · rw [if_pos e, ck_t hin5, n_ix (by omega)]
          refine ok_lg (fun φ1 e1 => ?_)
          have hkr : Kb (tellP P (rF p (pn P) (chD p (pn P - 1 - i) row j))) rc s υ φ1 := by
            rw [e1]
            refine (b1.tell (i := i) (x := nI j)).re (fun k hk3 => ?_)
            rw [rF_k hk3, loD_ch hp0 hj]
            by_cases e : k = i
            · rw [if_pos e, if_pos (by omega)]
            · rw [if_neg e, if_neg (by omega), b2 k hk3 e, rF_k hk3]
          rw [ok_bd2]
          refine ok_mono (tk _ φ1 hkr (by rw [e1, zst_n (by omega)]; exact b3)) (fun b' hb' => ?_)
          obtain ⟨u1, u2, u3, u4, u5, u6⟩ := hb'
          rw [u1]
          refine ok_lg (fun J2 hJ2 => ?_)
          have nx : ∀ z : Int32, (z = 0 ∧ ∀ j', j' < j + 1 → tkF P s (rF p (pn P) (chD p (pn P - 1 - i) row j')) i ≤ tkF P s (rF p (pn P) row) i) ∨ (z ≠ 0 ∧ ¬ ARn P s p row) → Ok (J2 z b'.2) _ := fun z hz => by
            simp only [hJ2]
            refine ok_lg (fun y2 ey => ?_)
            rw [show nI j + 1 = nI (j + 1) from n_add _ 1] at ey
            refine hk2 (z, y2, b'.2) ⟨ey, ⟨_, u2, fun k hk3 e => ?_⟩, u3, fun k hk3 => ?_, hz⟩
            · rw [rF_k hk3, loD_ch hp0 hj, if_neg (by omega), rF_k hk3]
            · dsimp only
              rw [u4 k hk3, e1, zst_n (by omega)]; exact b4 k hk3
          by_cases c : tkF P s (rF p (pn P) (chD p (pn P - 1 - i) row j)) i ≤ tkF P s (rF p (pn P) row) i
          · rw [if_pos c]
            refine nx 0 (Or.inl ⟨rfl, fun j' hj' => ?_⟩)
            by_cases e : j' = j
            · subst e; exact c
            · exact b5 j' (by omega)
          · rw [if_neg c]
            exact nx 1 (Or.inr ⟨by decide, fun h => c (h i hi ch j hj)⟩)
        · rw [if_neg e]
          exact fin x j φ ⟨f, b1, b2⟩ b3 b4 (Or.inr ⟨e, b5⟩)
      · rintro fu2 ⟨x, y, φ⟩ ⟨hy, ⟨f, b1, b2⟩, b3, b4, b5⟩
        have hy : y = nI p := hy
        subst hy
        have b1 : Kb (tellP P f) rc s υ φ := b1
        show Ok (zfX12_isRest_L43 K90 (nI i) (tkF P s (rF p (pn P) row) i) (fu2 + 1) x (nI p) φ) _
        unfold zfX12_isRest_L43
        have e54 : φ 715 (ix 54) = nI (p - 1) := by rw [show ix 54 = 54 by decide, b1.2.1 54 (by omega)]; exact h54
        rw [e54, if_pos (by rw [n_lt (by omega) (by omega)]; omega)]
        exact fin x p φ ⟨f, b1, b2⟩ b3 b4 b5
  · rintro fu ⟨y, τ⟩ ⟨hy, g1, g2, g3, g4⟩
    have hy : y = nI (pn P) := hy
    subst hy
    have g1 : Kb (tellP P (rF p (pn P) row)) rc s υ τ := g1
    show Ok (zfX12_isRest_L2 k110 k102 (fu + 1) (nI (pn P)) τ) _
    unfold zfX12_isRest_L2
    have e24 : τ 703 24 = nI (pn P) := g1.2.2.2.1.1
    rw [e24, if_pos (Int32.le_refl _)]
    simp only [h110]
    rw [ok_s]
    exact ⟨Or.inr ⟨rfl, g4⟩, g1, g2, g3⟩
