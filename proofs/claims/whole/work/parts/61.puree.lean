/-! ===== the reference's buyers ===== -/
section
variable {n N : Nat} {h0 : Int32} {g0 : Nat → Nat} {ask ga : Nat → Int32} {σ0 σ : Mm}
theorem r_buys {d : Nat → Nat} {sur wo : Int32} {bm gm ww : Nat → Int32} {i : Nat} (hK : SRk n N h0 g0 ask σ0) (hS : SR n N g0 ask ga σ0 σ d sur bm gm ww) (hi : i < 6) (hwo : σ0 709 (3 * i) = wo) :
    ((∀ c, chp N (hob h0) g0 ask d = some c → ¬ ask c ≤ wo) ∧ zfX12_buys (nI i) σ = some (0, σ)) ∨
    ∃ c σ', chp N (hob h0) g0 ask d = some c ∧ ask c ≤ wo ∧ zfX12_buys (nI i) σ = some (1, σ') ∧ SR n N g0 ask ga σ0 σ' (updN d c (d c + 1)) (sur + (wo - ask c)) bm gm ww := by
  obtain ⟨k1, k2, k3, k4, k5, k6, k7, k8, k9⟩ := id hK
  obtain ⟨s1, s2, s3, s4, s5, s6, s7, s8, s9, s10⟩ := id hS
  have h718 : σ 718 = σ0 718 := s10 718 (by decide) (by decide) (by decide) (by decide) (by decide)
  have h709 : σ 709 = σ0 709 := s10 709 (by decide) (by decide) (by decide) (by decide) (by decide)
  have h24 : σ 703 24 = nI n := by rw [s8 24 (by decide)]; exact k3
  have e3 : (3 : Int32) * nI i = nI (3 * i) := n_mul 3 i
  have hin3 : inb (nI (3 * i)) 18 := (n_in (by omega)).mpr (by omega)
  unfold zfX12_buys
  rcases r_cheapest hK hS with ⟨hc, hn⟩ | ⟨c, hc, hn⟩
  · left
    refine ⟨fun c h => (by rw [hn] at h; cases h), ?_⟩
    rw [hc, bd_some, lt_p, if_pos rfl]
  · have his := chp_is hn
    have hcN := his.1.1
    have hcd := his.1.2.1
    have hin : inb (nI c) 6 := (n_in (by omega)).mpr (by omega)
    have a1 : σ 718 c = ask c := by rw [h718]; exact k5 c hcN
    rw [hc, bd_some]
    simp only [lt_p, e3, ck_t hin, ck_t hin3, n_ix (show c < 2147483648 by omega), n_ix (show 3 * i < 2147483648 by omega), show ix 55 = 55 by decide, if_neg (n_ne1 (show c < 2147483648 by omega)), h709, hwo, a1]
    by_cases cp : ask c ≤ wo
    case neg =>
      left
      refine ⟨fun c2 h => (by rw [hn] at h; cases h; exact cp), ?_⟩
      rw [if_neg cp]
    case pos =>
    right
    rw [if_pos cp]
    rw [zst_n (show 714 ≠ 719 by decide), zst_n (show 709 ≠ 719 by decide), h709, hwo, zst_n (show 718 ≠ 719 by decide), a1, s2]
    have hd' : ∀ k, updN d c (d c + 1) k ≤ g0 k := fun k => by
      by_cases e : k = c
      · subst e; rw [updN_s]; omega
      · rw [updN_n e]; exact s6 k
    rw [zst_n (show 703 ≠ 714 by decide), zst_n (show 703 ≠ 719 by decide), h24]
    by_cases ec : c = n
    · have hnN : N = n + 1 := by omega
      rw [if_pos (by rw [ec]), s3 (by omega)]
      refine ⟨c, _, hn, cp, rfl, ?_⟩
      generalize hτ : zst (zst (zst σ 719 c (σ 719 c + ask c)) 714 55 (sur + (wo - ask c))) 703 45 (nI (d n) + 1) = τ
      have t714 : τ 714 = upd (σ 714) 55 (sur + (wo - ask c)) := by rw [← hτ, zst_n (by decide), zst_s, zst_n (by decide)]
      have t719 : τ 719 = upd (σ 719) c (σ 719 c + ask c) := by rw [← hτ, zst_n (by decide), zst_n (by decide), zst_s]
      have t45 : τ 703 45 = nI (d n + 1) := by rw [← hτ, zst_v]; exact n_add _ 1
      have t703 : ∀ k, k ≠ 45 → τ 703 k = σ 703 k := fun k hk => by rw [← hτ, zst_k hk, zst_n (by decide), zst_n (by decide)]
      have tc : ∀ c', c' ≠ 703 → c' ≠ 714 → c' ≠ 719 → τ c' = σ c' := fun c' x1 x2 x3 => by rw [← hτ, zst_n x1, zst_n x2, zst_n x3]
      refine ⟨fun k hk => ?_, by rw [t714, upd_s], fun _ => by rw [t45, ec, updN_s], fun j hj => by rw [tc 723 (by decide) (by decide) (by decide), tc 724 (by decide) (by decide) (by decide)]; exact s4 j hj, fun j hj => by rw [t714, upd_n (by omega)]; exact s5 j hj, hd', fun k hk => by rw [t714, upd_n (by omega)]; exact s7 k hk, fun k hk => by rw [t703 k hk]; exact s8 k hk, fun h => by omega, fun c' x1 x2 x3 x4 x5 => by rw [tc c' x1 x2 x3]; exact s10 c' x1 x2 x3 x4 x5⟩
      rw [t714, t719, upd_n (by omega), upd_n (by omega), upd_n (by omega), upd_n (by omega), updN_n (by omega)]
      exact s1 k hk
    · have hcn : c < n := by omega
      have hne : ¬ nI c = nI n := by rw [n_eq (by omega) (by omega)]; exact ec
      rw [if_neg hne]
      have e12 : (12 : Int32) + nI c = nI (12 + c) := n_add 12 c
      have e24 : (24 : Int32) + nI c = nI (24 + c) := n_add 24 c
      simp only [e12, e24, ck_t (show inb (nI c) 57 from (n_in (by omega)).mpr (by omega)), ck_t (show inb (nI (12 + c)) 57 from (n_in (by omega)).mpr (by omega)), ck_t (show inb (nI (24 + c)) 57 from (n_in (by omega)).mpr (by omega)), n_ix (show 12 + c < 2147483648 by omega), n_ix (show 24 + c < 2147483648 by omega)]
      obtain ⟨q1, q2, q3, q4⟩ := s1 c hcn
      refine ⟨c, _, hn, cp, rfl, ?_⟩
      generalize hA : zst (zst σ 719 c (σ 719 c + ask c)) 714 55 (sur + (wo - ask c)) = A
      have A714 : A 714 = upd (σ 714) 55 (sur + (wo - ask c)) := by rw [← hA, zst_s, zst_n (by decide)]
      have A719 : A 719 = upd (σ 719) c (σ 719 c + ask c) := by rw [← hA, zst_n (by decide), zst_s]
      have Ac : ∀ c', c' ≠ 714 → c' ≠ 719 → A c' = σ c' := fun c' x1 x2 => by rw [← hA, zst_n x1, zst_n x2]
      have w1 : A 714 c = nI (g0 c - d c) := by rw [A714, upd_n (by omega)]; exact q1
      rw [w1, show nI (g0 c - d c) - 1 = nI (g0 c - (d c + 1)) by rw [show (1 : Int32) = nI 1 from rfl, n_sub (by omega)]; congr 1]
      generalize hB : zst A 714 c (nI (g0 c - (d c + 1))) = B
      have w2 : B 714 (12 + c) = ga c + nI (d c) * ask c := by rw [← hB, zst_k (by omega), A714, upd_n (by omega)]; exact q2
      have w3 : B 718 c = ask c := by rw [← hB, zst_n (by decide), Ac 718 (by decide) (by decide)]; exact a1
      rw [w2, w3]
      generalize hC : zst B 714 (12 + c) (ga c + nI (d c) * ask c + ask c) = C
      have w4 : C 714 (24 + c) = nI (d c) := by rw [← hC, zst_k (by omega), ← hB, zst_k (by omega), A714, upd_n (by omega)]; exact q3
      rw [w4]
      generalize hτ : zst C 714 (24 + c) (nI (d c) + 1) = τ
      have t714 : ∀ k, τ 714 k = if k = 24 + c then nI (d c) + 1 else if k = 12 + c then ga c + nI (d c) * ask c + ask c else if k = c then nI (g0 c - (d c + 1)) else if k = 55 then sur + (wo - ask c) else σ 714 k := by
        intro k
        rw [← hτ, zst_s]
        by_cases y1 : k = 24 + c
        · rw [if_pos y1, y1, upd_s]
        · rw [if_neg y1, upd_n y1, ← hC, zst_s]
          by_cases y2 : k = 12 + c
          · rw [if_pos y2, y2, upd_s]
          · rw [if_neg y2, upd_n y2, ← hB, zst_s]
            by_cases y3 : k = c
            · rw [if_pos y3, y3, upd_s]
            · rw [if_neg y3, upd_n y3, A714]
              by_cases y4 : k = 55
              · rw [if_pos y4, y4, upd_s]
              · rw [if_neg y4, upd_n y4]
      have tc : ∀ c', c' ≠ 714 → τ c' = A c' := fun c' x1 => by rw [← hτ, zst_n x1, ← hC, zst_n x1, ← hB, zst_n x1]
      refine ⟨fun k hk => ?_, ?_, fun h => by rw [tc 703 (by decide), Ac 703 (by decide) (by decide), updN_n (by omega)]; exact s3 h, fun j hj => by rw [tc 723 (by decide), tc 724 (by decide), Ac 723 (by decide) (by decide), Ac 724 (by decide) (by decide)]; exact s4 j hj, fun j hj => ?_, hd', fun k hk => ?_, fun k hk => by rw [tc 703 (by decide), Ac 703 (by decide) (by decide)]; exact s8 k hk, fun h => by rw [tc 703 (by decide), Ac 703 (by decide) (by decide)]; exact s9 h, fun c' x1 x2 x3 x4 x5 => by rw [tc c' x2, Ac c' x2 x3]; exact s10 c' x1 x2 x3 x4 x5⟩
      · rw [t714, t714, t714, tc 719 (by decide), A719]
        by_cases e : k = c
        · subst e
          rw [if_neg (by omega), if_neg (by omega), if_pos rfl, if_neg (by omega), if_pos rfl, if_pos rfl, upd_s, updN_s, q4, ← n_add (d k) 1, n_1]
          exact ⟨rfl, by grind, rfl, by grind⟩
        · rw [if_neg (by omega), if_neg (by omega), if_neg (by omega), if_neg (by omega), if_neg (by omega), if_neg (by omega), if_neg (by omega), if_neg (by omega), if_neg (by omega), if_neg (by omega), if_neg (by omega), if_neg (by omega), upd_n e, updN_n e]
          exact s1 k hk
      · rw [t714, if_neg (by omega), if_neg (by omega), if_neg (by omega), if_pos rfl]
      · rw [t714, if_neg (by omega), if_neg (by omega), if_neg (by omega), if_neg (by omega)]; exact s5 j hj
      · rw [t714, if_neg (by omega), if_neg (by omega), if_neg (by omega), if_neg (by omega)]; exact s7 k hk
end
