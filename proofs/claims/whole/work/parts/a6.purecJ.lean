/-! ===== rest answers alike ===== -/
theorem rsp_c {P : Pm} {s : Mm} {p x : Nat} {w : Int32} {c : Nat} {a b : Int32} : ∀ m, (fo (rsp P s p w) x m (c, a)).1 = (fo (rsp P s p w) x m (c, b)).1 := by
  intro m
  induction m with
  | zero => rfl
  | succ m ih =>
    show (rsp P s p w (x + m) (fo (rsp P s p w) x m (c, a))).1 = (rsp P s p w (x + m) (fo (rsp P s p w) x m (c, b))).1
    by_cases e : ARw P s p (x + m)
    · rw [rsp_y e, rsp_y e]; dsimp only; rw [ih]
    · rw [rsp_n e, rsp_n e]; exact ih
theorem dv_pow {p l a y : Nat} (h1 : a * p ^ l ≤ y) (h2 : y < a * p ^ l + p ^ l) : y / p ^ l = a := by
  have hp : 0 < p ^ l := by omega
  apply Nat.div_eq_of_lt_le
  · exact h1
  · rw [Nat.succ_mul]; exact h2
theorem r_goR {B : Nat} {P : Pm} {rc p : Nat} {w : Int32} {s υ : Mm} (hs : Ks P rc B s) (h3 : pn P ≤ 3) (hb : s 0 0 = nI (p - 1)) (hp0 : 0 < p) (hp21 : p ≤ 21) (h54 : υ 714 54 = nI (p - 1)) : ∀ l dd k r0 c v f σ, k + l = pn P → l < dd → r0 < p ^ k → (∀ k', k' < k → hob (s 0 3) k' → loD p (k - 1 - k') r0 + 1 = p) → Kb (tellP P f) rc s υ σ → (∀ k', k' < k → f k' = nI (loD p (k - 1 - k') r0)) → σ 703 41 = s 0 3 → σ 703 57 = nI c → σ 703 58 = w → σ 703 59 = v → c + p ^ l ≤ 10000 →
    Ok (zfX12_goRests dd (nI k) (nI (hun p k r0)) σ) (fun τ => (∃ f', Kb (tellP P f') rc s υ τ ∧ ∀ k', k' < k → f' k' = nI (loD p (k - 1 - k') r0)) ∧ τ 703 41 = s 0 3 ∧ τ 703 58 = w ∧ τ 703 57 = nI (fo (rsp P s p w) (r0 * p ^ l) (p ^ l) (c, v)).1 ∧ τ 703 59 = (fo (rsp P s p w) (r0 * p ^ l) (p ^ l) (c, v)).2) := by
  have hpw := pow_rows hp21 h3
  intro l
  induction l with
  | zero =>
    intro dd k r0 c v f σ hkl hl hr hh hkb hf h41 h57 h58 h59 hc
    obtain ⟨dd, rfl⟩ : ∃ e, dd = e + 1 := ⟨dd - 1, by omega⟩
    have ek : k = pn P := by omega
    subst ek
    unfold zfX12_goRests
    have e24 : σ 703 24 = nI (pn P) := hkb.2.2.2.1.1
    rw [e24, if_pos rfl, ok_bd2]
    have kb : Kb (tellP P (rF p (pn P) r0)) rc s υ σ := hkb.re (fun k hk => by rw [hf k hk, rF_k hk])
    refine ok_mono (r_isRest hs h3 hb hp0 hp21 kb h41 h54) (fun b hb2 => ?_)
    obtain ⟨b1, b2, b3, b4⟩ := hb2
    have un : fo (rsp P s p w) (r0 * p ^ 0) (p ^ 0) (c, v) = rsp P s p w r0 (c, v) := by rw [Nat.pow_zero, Nat.mul_one]; rfl
    rw [un]
    have v57 : b.2 703 57 = nI c := by rw [b4 57 (by omega)]; exact h57
    have v58 : b.2 703 58 = w := by rw [b4 58 (by omega)]; exact h58
    have v59 : b.2 703 59 = v := by rw [b4 59 (by omega)]; exact h59
    have pf : ∀ k', k' < pn P → rF p (pn P) r0 k' = nI (loD p (pn P - 1 - k') r0) := fun k' hk => rF_k hk
    rcases b1 with ⟨e, b1⟩ | ⟨e, b1⟩
    · rw [if_pos e, ok_s, rsp_n (fun h => b1 h.1)]
      exact ⟨⟨_, b2, pf⟩, b3, v58, v57, v59⟩
    · rw [if_neg (by rw [e]; decide)]
      have hw : ARw P s p r0 := ⟨b1, hh⟩
      rw [rsp_y hw]
      refine ok_lg (fun J hJ => ?_)
      have go : ∀ φ, Kb (tellP P (rF p (pn P) r0)) rc s υ φ → φ 703 41 = s 0 3 → φ 703 58 = w → φ 703 57 = nI c → φ 703 59 = (if nI c = w then nI (hun p (pn P) r0) else v) → Ok (J φ) (fun τ => (∃ f', Kb (tellP P f') rc s υ τ ∧ ∀ k', k' < pn P → f' k' = nI (loD p (pn P - 1 - k') r0)) ∧ τ 703 41 = s 0 3 ∧ τ 703 58 = w ∧ τ 703 57 = nI (c + 1) ∧ τ 703 59 = (if nI c = w then nI (hun p (pn P) r0) else v)) := fun φ a1 a2 a3 a4 a5 => by
        simp only [hJ]
        refine ok_lg (fun φ2 e2 => ?_)
        rw [ok_s]
        refine ⟨⟨_, by rw [e2]; exact a1.z (by omega), pf⟩, by rw [e2, zst_k (by omega)]; exact a2, by rw [e2, zst_k (by omega)]; exact a3, ?_, ?_⟩
        · rw [e2, zst_v, a4]; exact n_add c 1
        · rw [e2, zst_k (by omega)]; exact a5
      rw [v57, v58]
      by_cases c1 : nI c = w
      · rw [if_pos c1]
        refine ok_lg (fun φ1 e1 => ?_)
        exact go φ1 (by rw [e1]; exact b2.z (by omega)) (by rw [e1, zst_k (by omega)]; exact b3) (by rw [e1, zst_k (by omega)]; exact v58) (by rw [e1, zst_k (by omega)]; exact v57) (by rw [e1, zst_v, if_pos c1])
      · rw [if_neg c1]
        exact go b.2 b2 b3 v58 v57 (by rw [if_neg c1]; exact v59)
  | succ l ih =>
    intro dd k r0 c v f σ hkl hl hr hh hkb hf h41 h57 h58 h59 hc
    obtain ⟨dd, rfl⟩ : ∃ e, dd = e + 1 := ⟨dd - 1, by omega⟩
    unfold zfX12_goRests
    have e24 : σ 703 24 = nI (pn P) := hkb.2.2.2.1.1
    rw [e24, if_neg (by rw [n_eq (by omega) (by omega)]; omega)]
    refine ok_lg (fun J hJ => ?_)
    have hpl : p ^ (l + 1) = p * p ^ l := by rw [Nat.pow_succ, Nat.mul_comm]
    have hq1 : 0 < p ^ l := by
      have := Nat.pow_le_pow_left (show 1 ≤ p from hp0) l
      rw [Nat.one_pow] at this
      exact this
    have main : ∀ i0, i0 < p → (hob (s 0 3) k → p - 1 ≤ i0) → fo (rsp P s p w) (r0 * p ^ (l + 1)) (i0 * p ^ l) (c, v) = (c, v) → Ok (J (nI i0) σ) (fun τ => (∃ f', Kb (tellP P f') rc s υ τ ∧ ∀ k', k' < k → f' k' = nI (loD p (k - 1 - k') r0)) ∧ τ 703 41 = s 0 3 ∧ τ 703 58 = w ∧ τ 703 57 = nI (fo (rsp P s p w) (r0 * p ^ (l + 1)) (p ^ (l + 1)) (c, v)).1 ∧ τ 703 59 = (fo (rsp P s p w) (r0 * p ^ (l + 1)) (p ^ (l + 1)) (c, v)).2) := fun i0 hi0 hho hfo => by
      simp only [hJ]
      refine ok_lg (fun K hK => ?_)
      refine ok_up (F := fun fu (x : Int32 × Mm) => zfX12_goRests_L66 K (nI k) (zfX12_goRests dd) (nI (hun p k r0)) fu x.1 x.2) p (fun j x => x.1 = nI j ∧ (hob (s 0 3) k → p - 1 ≤ j) ∧ (∃ f', Kb (tellP P f') rc s υ x.2 ∧ ∀ k', k' < k → f' k' = nI (loD p (k - 1 - k') r0)) ∧ x.2 703 41 = s 0 3 ∧ x.2 703 58 = w ∧ x.2 703 57 = nI (fo (rsp P s p w) (r0 * p ^ (l + 1)) (j * p ^ l) (c, v)).1 ∧ x.2 703 59 = (fo (rsp P s p w) (r0 * p ^ (l + 1)) (j * p ^ l) (c, v)).2) ?_ ?_ i0 NF (nI i0, σ) ⟨rfl, hho, ⟨f, hkb, hf⟩, h41, h58, by dsimp only; rw [hfo]; exact h57, by dsimp only; rw [hfo]; exact h59⟩ (by omega) (by unfold NF; omega)
      · rintro j fu ⟨y, τ⟩ hj ⟨hy, g0, ⟨f', g1, g2⟩, g3, g4, g5, g6⟩ hk
        have hy : y = nI j := hy
        subst hy
        have g1 : Kb (tellP P f') rc s υ τ := g1
        have g3 : τ 703 41 = s 0 3 := g3
        have g4 : τ 703 58 = w := g4
        have g5 : τ 703 57 = nI (fo (rsp P s p w) (r0 * p ^ (l + 1)) (j * p ^ l) (c, v)).1 := g5
        have g6 : τ 703 59 = (fo (rsp P s p w) (r0 * p ^ (l + 1)) (j * p ^ l) (c, v)).2 := g6
        show Ok (zfX12_goRests_L66 K (nI k) (zfX12_goRests dd) (nI (hun p k r0)) (fu + 1) (nI j) τ) _
        unfold zfX12_goRests_L66
        have e54 : τ 715 (ix 54) = nI (p - 1) := by rw [show ix 54 = 54 by decide, g1.2.1 54 (by omega)]; exact h54
        rw [e54, if_neg (by rw [n_lt (by omega) (by omega)]; omega), ck_t ((n_in (by omega)).mpr (by omega)), n_ix (by omega)]
        refine ok_lg (fun τ1 e1 => ?_)
        have kb1 := g1.tell (i := k) (x := nI j)
        rw [← e1] at kb1
        have q7 : τ1 703 = τ 703 := by rw [e1, zst_n (by omega)]
        have hun2 : (100 : Int32) * nI (hun p k r0) + nI j = nI (hun p (k + 1) (r0 * p + j)) := by rw [hun_s hj, show (100 : Int32) * nI (hun p k r0) = nI (100 * hun p k r0) from n_mul 100 _, n_add]
        have hr1 : r0 * p + j < p ^ (k + 1) := by
          have h2 := Nat.mul_le_mul_right p (show r0 + 1 ≤ p ^ k from hr)
          rw [Nat.add_mul] at h2
          rw [Nat.pow_succ]; omega
        have hcnt := rsp_le (P := P) (s := s) (p := p) (x := r0 * p ^ (l + 1)) (w := w) (r := (c, v)) (j * p ^ l)
        have hjp : (j + 1) * p ^ l ≤ p * p ^ l := Nat.mul_le_mul_right _ hj
        rw [Nat.succ_mul] at hjp
        have ex : (r0 * p + j) * p ^ l = r0 * p ^ (l + 1) + j * p ^ l := by rw [Nat.add_mul, Nat.mul_assoc, ← hpl]
        rw [ok_bd, show nI k + 1 = nI (k + 1) from n_add _ 1, hun2]
        refine ok_mono (ih dd (k + 1) (r0 * p + j) (fo (rsp P s p w) (r0 * p ^ (l + 1)) (j * p ^ l) (c, v)).1 (fo (rsp P s p w) (r0 * p ^ (l + 1)) (j * p ^ l) (c, v)).2 _ τ1 (by omega) (by omega) hr1 (fun k' hk' ho => ?_) kb1 (fun k' hk' => ?_) (by rw [q7]; exact g3) (by rw [q7]; exact g5) (by rw [q7]; exact g4) (by rw [q7]; exact g6) (by dsimp only at hcnt; omega)) (fun φ hφ => ?_)
        · by_cases e : k' = k
          · subst e
            rw [show k' + 1 - 1 - k' = 0 by omega, loD_0 hj]
            have := g0 ho
            omega
          · rw [show k + 1 - 1 - k' = (k - 1 - k') + 1 by omega, loD_s hj]
            exact hh k' (by omega) ho
        · by_cases e : k' = k
          · subst e
            rw [if_pos rfl, show k' + 1 - 1 - k' = 0 by omega, loD_0 hj]
          · rw [if_neg e, show k + 1 - 1 - k' = (k - 1 - k') + 1 by omega, loD_s hj]
            exact g2 k' (by omega)
        · obtain ⟨⟨f2, d1, d2⟩, d3, d4, d5, d6⟩ := hφ
          have eP : (fo (rsp P s p w) (r0 * p ^ (l + 1)) ((j + 1) * p ^ l) (c, v)) = fo (rsp P s p w) ((r0 * p + j) * p ^ l) (p ^ l) ((fo (rsp P s p w) (r0 * p ^ (l + 1)) (j * p ^ l) (c, v)).1, (fo (rsp P s p w) (r0 * p ^ (l + 1)) (j * p ^ l) (c, v)).2) := by
            rw [Nat.succ_mul, fo_add, ex]
          refine ok_lg (fun y2 ey => ?_)
          rw [show nI j + 1 = nI (j + 1) from n_add _ 1] at ey
          refine hk (y2, φ) ⟨ey, fun ho => by have := g0 ho; omega, ⟨f2, d1, fun k' hk' => ?_⟩, d3, d4, by dsimp only; rw [eP]; exact d5, by dsimp only; rw [eP]; exact d6⟩
          have := d2 k' (by omega)
          rw [show k + 1 - 1 - k' = (k - 1 - k') + 1 by omega, loD_s hj] at this
          exact this
      · rintro fu ⟨y, τ⟩ ⟨hy, g0, ⟨f', g1, g2⟩, g3, g4, g5, g6⟩
        have hy : y = nI p := hy
        subst hy
        have g1 : Kb (tellP P f') rc s υ τ := g1
        show Ok (zfX12_goRests_L66 K (nI k) (zfX12_goRests dd) (nI (hun p k r0)) (fu + 1) (nI p) τ) _
        unfold zfX12_goRests_L66
        have e54 : τ 715 (ix 54) = nI (p - 1) := by rw [show ix 54 = 54 by decide, g1.2.1 54 (by omega)]; exact h54
        rw [e54, if_pos (by rw [n_lt (by omega) (by omega)]; omega)]
        simp only [hK]
        rw [ok_s, show p ^ (l + 1) = p * p ^ l from hpl, ← hpl]
        rw [← hpl] at g5 g6
        exact ⟨⟨f', g1, g2⟩, g3, g4, g5, g6⟩
    rw [h41]
    by_cases ch : hob (s 0 3) k
    · rw [if_neg (fun h => r_has.mp h ch), show ix 54 = 54 by decide, hkb.2.1 54 (by omega), h54]
      refine main (p - 1) (by omega) (fun _ => Nat.le_refl _) (fo_id _ (fun y a b r => rsp_n (fun h => ?_)))
      have h2 := h.2 k (by omega) ch
      rw [show pn P - 1 - k = l by omega] at h2
      have ey : r0 * p ^ (l + 1) = r0 * p * p ^ l := by rw [hpl, Nat.mul_assoc]
      rw [ey] at a b
      -- the row lies in the block of one asking below the board
      have hq : r0 * p ≤ y / p ^ l := by
        rw [Nat.le_div_iff_mul_le hq1]; exact a
      have hq2 : y / p ^ l < r0 * p + (p - 1) := by
        rw [Nat.div_lt_iff_lt_mul hq1, Nat.add_mul]; exact b
      have hm : loD p l y = y / p ^ l - r0 * p := by
        unfold loD
        generalize y / p ^ l = z at hq hq2 ⊢
        obtain ⟨d, rfl⟩ : ∃ d, z = r0 * p + d := ⟨z - r0 * p, by omega⟩
        rw [Nat.mul_comm, Nat.mul_add_mod, Nat.mod_eq_of_lt (by omega)]; omega
      rw [hm] at h2
      omega
    · rw [if_pos (r_has.mpr ch)]
      exact main 0 hp0 (fun h => absurd h ch) (by rw [Nat.zero_mul]; rfl)
