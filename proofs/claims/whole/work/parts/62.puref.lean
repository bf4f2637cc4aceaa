/-! ===== the reference serves a sort ===== -/
section
variable {n N : Nat} {h0 : Int32} {g0 : Nat → Nat} {ask ga : Nat → Int32} {σ0 σ : Mm} {d : Nat → Nat} {sur : Int32} {bm gm ww : Nat → Int32}
theorem SR.tbm (hS : SR n N g0 ask ga σ0 σ d sur bm gm ww) {i : Nat} {v : Int32} : SR n N g0 ask ga σ0 (zst σ 723 i v) d sur (upd bm i v) gm ww := by
  obtain ⟨s1, s2, s3, s4, s5, s6, s7, s8, s9, s10⟩ := hS
  have e : ∀ c, c ≠ 723 → zst σ 723 i v c = σ c := fun c hc => zst_n hc
  refine ⟨fun k hk => by rw [e 714 (by decide), e 719 (by decide)]; exact s1 k hk, by rw [e 714 (by decide)]; exact s2, fun h => by rw [e 703 (by decide)]; exact s3 h, fun j hj => ⟨?_, by rw [e 724 (by decide)]; exact (s4 j hj).2⟩, fun j hj => by rw [e 714 (by decide)]; exact s5 j hj, s6, fun k hk => by rw [e 714 (by decide)]; exact s7 k hk, fun k hk => by rw [e 703 (by decide)]; exact s8 k hk, fun h => by rw [e 703 (by decide)]; exact s9 h, fun c x1 x2 x3 x4 x5 => by rw [e c x4]; exact s10 c x1 x2 x3 x4 x5⟩
  rw [zst_s]
  by_cases c : j = i
  · rw [c, upd_s, upd_s]
  · rw [upd_n c, upd_n c]; exact (s4 j hj).1
theorem SR.tgm (hS : SR n N g0 ask ga σ0 σ d sur bm gm ww) {i : Nat} {v : Int32} : SR n N g0 ask ga σ0 (zst σ 724 i v) d sur bm (upd gm i v) ww := by
  obtain ⟨s1, s2, s3, s4, s5, s6, s7, s8, s9, s10⟩ := hS
  have e : ∀ c, c ≠ 724 → zst σ 724 i v c = σ c := fun c hc => zst_n hc
  refine ⟨fun k hk => by rw [e 714 (by decide), e 719 (by decide)]; exact s1 k hk, by rw [e 714 (by decide)]; exact s2, fun h => by rw [e 703 (by decide)]; exact s3 h, fun j hj => ⟨by rw [e 723 (by decide)]; exact (s4 j hj).1, ?_⟩, fun j hj => by rw [e 714 (by decide)]; exact s5 j hj, s6, fun k hk => by rw [e 714 (by decide)]; exact s7 k hk, fun k hk => by rw [e 703 (by decide)]; exact s8 k hk, fun h => by rw [e 703 (by decide)]; exact s9 h, fun c x1 x2 x3 x4 x5 => by rw [e c x5]; exact s10 c x1 x2 x3 x4 x5⟩
  rw [zst_s]
  by_cases c : j = i
  · rw [c, upd_s, upd_s]
  · rw [upd_n c, upd_n c]; exact (s4 j hj).2
theorem SR.tww (hn : n ≤ 5) (hS : SR n N g0 ask ga σ0 σ d sur bm gm ww) {i : Nat} (hi : i < 24) {v : Int32} : SR n N g0 ask ga σ0 (zst σ 714 (30 + i) v) d sur bm gm (upd ww i v) := by
  obtain ⟨s1, s2, s3, s4, s5, s6, s7, s8, s9, s10⟩ := hS
  have e : ∀ c, c ≠ 714 → zst σ 714 (30 + i) v c = σ c := fun c hc => zst_n hc
  have ek : ∀ k, k ≠ 30 + i → zst σ 714 (30 + i) v 714 k = σ 714 k := fun k hk => zst_k hk
  refine ⟨fun k hk => by rw [ek _ (by omega), ek _ (by omega), ek _ (by omega), e 719 (by decide)]; exact s1 k hk, by rw [ek _ (by omega)]; exact s2, fun h => by rw [e 703 (by decide)]; exact s3 h, fun j hj => by rw [e 723 (by decide), e 724 (by decide)]; exact s4 j hj, fun j hj => ?_, s6, fun k hk => by rw [ek _ (by omega)]; exact s7 k hk, fun k hk => by rw [e 703 (by decide)]; exact s8 k hk, fun h => by rw [e 703 (by decide)]; exact s9 h, fun c x1 x2 x3 x4 x5 => by rw [e c x2]; exact s10 c x1 x2 x3 x4 x5⟩
  by_cases c : j = i
  · rw [c, zst_v, upd_s]
  · rw [ek _ (by omega), upd_n c]; exact s5 j hj
def gmk (gm : Nat → Int32) (i k x : Nat) : Nat → Int32 := if k = 0 then upd gm i (gm i + nI x) else gm
def wwk (ww : Nat → Int32) (i k x : Nat) : Nat → Int32 := if k = 0 then ww else upd ww (4 * i + k - 1) (ww (4 * i + k - 1) + nI x)
theorem gmk_0 {i k : Nat} : gmk gm i k 0 = gm := by
  unfold gmk; split
  · exact upd_self (by rw [n_0]; grind)
  · rfl
theorem wwk_0 {i k : Nat} : wwk ww i k 0 = ww := by
  unfold wwk; split
  · rfl
  · exact upd_self (by rw [n_0]; grind)
theorem gmk_s {i k x : Nat} : gmk (gmk gm i k 1) i k x = gmk gm i k (x + 1) := by
  unfold gmk
  by_cases c : k = 0
  · simp only [c, if_true]
    rw [upd_upd, upd_s, ← n_add x 1, n_1]
    congr 1; grind
  · simp only [c, if_false]
theorem wwk_s {i k x : Nat} : wwk (wwk ww i k 1) i k x = wwk ww i k (x + 1) := by
  unfold wwk
  by_cases c : k = 0
  · simp only [c, if_true]
  · simp only [c, if_false]
    rw [upd_upd, upd_s, ← n_add x 1, n_1]
    congr 1; grind
end
section
variable {n N : Nat} {h0 : Int32} {g0 : Nat → Nat} {ask ga : Nat → Int32} {σ0 : Mm}
theorem r_L21 {K : Mm → Option Mm} {Q : Mm → Prop} {wo : Int32} {i k many : Nat} (hK : SRk n N h0 g0 ask σ0) (hi : i < 6) (hk : k < 4) (hm : many ≤ 1000) (hwo : σ0 709 (3 * i) = wo) : ∀ b fu (σ : Mm) (d : Nat → Nat) (sur : Int32) (bm gm ww : Nat → Int32), b ≤ many → b < fu → SR n N g0 ask ga σ0 σ d sur bm gm ww →
    (∀ σ', SR n N g0 ask ga σ0 σ' (buyN N (hob h0) g0 ask wo b d sur).1 (buyN N (hob h0) g0 ask wo b d sur).2.1 (upd bm i (bm i + nI (buyN N (hob h0) g0 ask wo b d sur).2.2)) (gmk gm i k (b - (buyN N (hob h0) g0 ask wo b d sur).2.2)) (wwk ww i k (b - (buyN N (hob h0) g0 ask wo b d sur).2.2)) → Ok (K σ') Q) →
    Ok (zfX12_serve_L21 (nI many) K (nI i) (nI k) fu (nI (many - b)) σ) Q := by
  have hii : inb (nI i) 6 := (n_in (by omega)).mpr hi
  intro b
  induction b with
  | zero =>
    intro fu σ d sur bm gm ww hb hf hS hQ
    obtain ⟨fu, rfl⟩ : ∃ g, fu = g + 1 := ⟨fu - 1, by omega⟩
    unfold zfX12_serve_L21
    rw [if_pos (by rw [n_le (by omega) (by omega)]; omega)]
    refine hQ σ ?_
    show SR n N g0 ask ga σ0 σ d sur (upd bm i (bm i + nI 0)) (gmk gm i k 0) (wwk ww i k 0)
    rw [gmk_0, wwk_0, upd_self (by rw [n_0]; grind)]
    exact hS
  | succ b ih =>
    intro fu σ d sur bm gm ww hb hf hS hQ
    obtain ⟨fu, rfl⟩ : ∃ g, fu = g + 1 := ⟨fu - 1, by omega⟩
    unfold zfX12_serve_L21
    rw [if_neg (by rw [n_le (by omega) (by omega)]; omega)]
    have enx : nI (many - (b + 1)) + 1 = nI (many - b) := by rw [show nI (many - (b + 1)) + 1 = nI (many - (b + 1) + 1) from n_add _ 1]; congr 1; omega
    rcases r_buys hK hS hi hwo with ⟨hno, hb0⟩ | ⟨c, σ1, hc, hp, hb1, hS1⟩
    · have st := fun b => buyN_stop (N := N) (hd := hob h0) (g0 := g0) (ask := ask) (wo := wo) (b := b) (d := d) (s := sur) hno
      rw [st (b + 1)] at hQ
      rw [hb0, bd2_some]
      simp only [lt_p, if_true, ck_t hii, enx, n_ix (show i < 2147483648 by omega)]
      have go : ∀ σ', SR n N g0 ask ga σ0 σ' d sur bm (gmk gm i k 1) (wwk ww i k 1) → Ok (zfX12_serve_L21 (nI many) K (nI i) (nI k) fu (nI (many - b)) σ') Q := by
        intro σ' hS'
        refine ih fu σ' d sur bm _ _ (by omega) (by omega) hS' (fun σ2 h2 => hQ σ2 ?_)
        rw [st b] at h2
        dsimp only at h2 ⊢
        rw [Nat.sub_zero, gmk_s, wwk_s] at h2
        exact h2
      by_cases ck0 : k = 0
      · subst ck0
        rw [if_pos (by decide), (hS.2.2.2.1 i hi).2]
        refine go _ ?_
        have := hS.tgm (i := i) (v := gm i + 1)
        unfold gmk wwk
        rw [if_pos rfl, if_pos rfl]
        exact this
      · have ek : ¬ nI k ≤ 0 := by rw [show (0 : Int32) = nI 0 from rfl, n_le (by omega) (by decide)]; omega
        have ei : ((30 + (4 * nI i)) + nI k) - 1 = nI (30 + (4 * i + k - 1)) := by
          rw [show (4 : Int32) * nI i = nI (4 * i) from n_mul 4 i, show (30 : Int32) + nI (4 * i) = nI (30 + 4 * i) from n_add 30 _, n_add, show (1 : Int32) = nI 1 from rfl, n_sub (by omega)]; congr 1; omega
        rw [if_neg ek, ei, ck_t ((n_in (by omega)).mpr (by omega)), ck_t ((n_in (by omega)).mpr (by omega)), n_ix (by omega), hS.2.2.2.2.1 _ (by omega)]
        refine go _ ?_
        have := hS.tww hK.1 (i := 4 * i + k - 1) (by omega) (v := ww (4 * i + k - 1) + 1)
        unfold gmk wwk
        rw [if_neg ck0, if_neg ck0]
        exact this
    · have un : buyN N (hob h0) g0 ask wo (b + 1) d sur = ((buyN N (hob h0) g0 ask wo b (updN d c (d c + 1)) (sur + (wo - ask c))).1, (buyN N (hob h0) g0 ask wo b (updN d c (d c + 1)) (sur + (wo - ask c))).2.1, (buyN N (hob h0) g0 ask wo b (updN d c (d c + 1)) (sur + (wo - ask c))).2.2 + 1) := by
        conv => lhs; unfold buyN
        rw [hc]
        dsimp only
        rw [if_pos hp]
      rw [un] at hQ
      dsimp only at hQ
      rw [hb1, bd2_some]
      simp only [lt_p, show ¬ (1 : Int32) = 0 by decide, if_false, ck_t hii, enx, n_ix (show i < 2147483648 by omega)]
      rw [(hS1.2.2.2.1 i hi).1]
      refine ih fu _ _ _ (upd bm i (bm i + 1)) gm ww (by omega) (by omega) (hS1.tbm (i := i) (v := bm i + 1)) (fun σ2 h2 => hQ σ2 ?_)
      have hle := buyN_le (N := N) (hd := hob h0) (g0 := g0) (ask := ask) (wo := wo) (b := b) (d := updN d c (d c + 1)) (s := sur + (wo - ask c))
      rw [upd_upd, upd_s] at h2
      generalize (buyN N (hob h0) g0 ask wo b (updN d c (d c + 1)) (sur + (wo - ask c))) = r at h2 hle ⊢
      rw [show b + 1 - (r.2.2 + 1) = b - r.2.2 by omega, ← n_add r.2.2 1, n_1, show bm i + (nI r.2.2 + 1) = bm i + 1 + nI r.2.2 by grind]
      exact h2
end
