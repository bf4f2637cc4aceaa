/-! ===== clauses ===== -/
theorem r_among_y {r : Int32} : zfX12_isAmong 2 r = some (if r = 121 then 1 else 0) := by
  unfold zfX12_isAmong
  obtain ⟨m, hm⟩ : ∃ m, NF = m + 1 + 1 := ⟨19998, rfl⟩
  rw [hm]
  simp only [lt_p]
  generalize hk : (fun (_ : Unit) => some (1 : Int32)) = k19
  generalize hk2 : (fun (_ : Unit) => some (0 : Int32)) = k27
  have g : ∀ fu, zfX12_isAmong_L2 2 k27 r k19 (fu + 1) 0 = if (121 : Int32) = r then k19 () else zfX12_isAmong_L2 2 k27 r k19 fu 1 := by
    intro fu
    conv => lhs; unfold zfX12_isAmong_L2
    rw [show zsl 2 = 1 from rfl, show zLen.getD 2 0 = 1 from rfl, if_neg (by decide), ck_t (by decide : inb 0 1), show zsc 2 (ix 0) = 121 by decide, lt_p, show (0 : Int32) + 1 = 1 by decide]
  have g2 : ∀ fu, zfX12_isAmong_L2 2 k27 r k19 (fu + 1) 1 = k27 () := by
    intro fu
    unfold zfX12_isAmong_L2
    rw [show zsl 2 = 1 from rfl, if_pos (by decide)]
  rw [g, g2, ← hk, ← hk2]
  by_cases h : r = 121
  · rw [if_pos h.symm, if_pos h]
  · rw [if_neg (fun e => h e.symm), if_neg h]
theorem upd_comm {f : Nat → Int32} {k j : Nat} {v w : Int32} (h : k ≠ j) : upd (upd f k v) j w = upd (upd f j w) k v := by
  funext i; unfold upd
  by_cases h1 : i = j
  · by_cases h2 : i = k
    · exact absurd (h2.symm.trans h1) h
    · simp only [h1, h2, if_true, if_false]; rw [if_neg (by rw [← h1]; exact h2)]
  · by_cases h2 : i = k
    · simp only [h1, h2, if_true, if_false]; rw [if_neg (by rw [← h2]; exact h1)]
    · simp only [h1, h2, if_false]
theorem wrs_upd {f : Nat → Int32} {n : Nat} {L : List Int32} {k : Nat} {v : Int32} (h : k < n) : upd (wrs f n L) k v = wrs (upd f k v) n L := by
  induction L generalizing f n with
  | nil => rfl
  | cons b L ih =>
    show upd (wrs (upd f n b) (n + 1) L) k v = wrs (upd (upd f k v) n b) (n + 1) L
    rw [ih (by omega), upd_comm (by omega)]
theorem zst_comm {σ : Mm} {c k j : Nat} {v w : Int32} (h : k ≠ j) : zst (zst σ c k v) c j w = zst (zst σ c j w) c k v := by
  funext a
  by_cases h2 : a = c
  · subst h2; rw [zst_s, zst_s, zst_s, zst_s]; exact upd_comm h
  · rw [zst_n h2, zst_n h2, zst_n h2, zst_n h2]
theorem RM_z {σ : Mm} {a f d v : Int32} {k : Nat} (h : k < 10 ∨ 12 < k) : zst (RM σ a f d) 703 k v = RM (zst σ 703 k v) a f d := by
  unfold RM
  rw [zst_comm (show 12 ≠ k by omega), zst_comm (show 11 ≠ k by omega), zst_comm (show 10 ≠ k by omega)]
/-- what the reference keeps of the first clause that holds -/
def fnd (σ : Mm) (b v : Int32) : Mm := if σ 703 17 = 0 then (if b = 0 then σ else zst (zst σ 703 17 1) 703 14 v) else σ
def jR (x2 x3 : Int32) (S : Mm) : Option Mm := if (S 703 11) = (-1) then (if (S 703 17) = 0 then (if (121 : Int32) = (S 703 13) then (if x2 = 0 then some S else some (zst (zst S 703 17 1) 703 14 x3)) else some S) else some S) else some S
theorem jR_f {σ : Mm} {b v a f d : Int32} (hf : f ≠ -1) : jR b v (RM σ a f d) = some (RM σ a f d) := by
  unfold jR; rw [RM_f, if_neg hf]
theorem jR_s {σ : Mm} {b v a d : Int32} (h : σ 703 13 = 121) : jR b v (RM σ a (-1) d) = some (RM (fnd σ b v) a (-1) d) := by
  unfold jR fnd
  rw [RM_f, if_pos rfl, RM_k (by decide), RM_k (by decide), h, if_pos rfl]
  by_cases h1 : σ 703 17 = 0
  · rw [if_pos h1, if_pos h1]
    by_cases h2 : b = 0
    · rw [if_pos h2, if_pos h2]
    · rw [if_neg h2, if_neg h2, RM_z (by decide), RM_z (by decide)]
  · rw [if_neg h1, if_neg h1]
def tlC (S : Mm) : Option (Int32 × Mm) := bd2 (zfX3_take_46 63 S) (fun r91 σ91 => if r91 = 0 then some (0, σ91) else bd2 (zfX5_put 20063 σ91) (fun r103 σ103 => ck (zIsR (ix (σ103 46 3))) (ck (zIsR (ix (σ103 46 3))) (bd2 (zfX5_put 0 σ103) (fun r128 σ128 => bd2 (zfX5_sum RD 0 σ128) (fun r134 σ134 => if r134 = 0 then (some (0, σ134)) else (bd2 (zfX5_put 20059 σ134) (fun r146 σ146 => ck (zIsR (ix (σ146 46 3))) (ck (zIsR (ix (σ146 46 3))) (bd2 (zfX4_setHole (ix (σ146 46 3)) (σ103 (ix (σ103 46 3)) 2) σ146) (fun r162 σ162 => if r162 = 0 then (some (0, σ162)) else (some (1, σ162)))))))))))))
def tlR (b : Int32) (S : Mm) : Option Mm := bd2 (zfX12_takes 63 S) (fun r74 σ74 => if r74 = 0 then some σ74 else bd2 (zfX12_sum RD σ74) (fun v σ'' => jR b v σ''))
theorem c_hole {σ : Mm} {q m k : Nat} {a w : Int32} {f : Nat → Int32} (hq : zIsR q) (hk : k < 320) : zfX4_setHole q (nI k) (CM σ q a w (nI m) f) = some (1, CM σ q a w (nI m) (upd f k (nI m))) := by
  unfold zfX4_setHole
  simp only [lt_p]
  rw [if_neg (n_nlt0 (by omega)), if_pos (by rw [show (320 : Int32) = nI 320 from rfl, n_lt (by omega) (by decide)]; exact hk), ck_t ((n_in (by omega)).mpr hk), n_ix (by omega), CM_sc hq, CM_l hq]
theorem tl_c {σ : Mm} {t : Nat → Int32} {n p q l : Nat} {w : Int32} {f : Nat → Int32} (hq : zIsR q) (h3 : σ 46 3 = nI q) (hT : CT σ t n) (hp : p ≤ n) (hl : l + 2 ≤ 320) : tlC (CM σ q (nI p) w (nI l) f) =
    if sg t n (skp t n p) = 63 then bd2 (zfX5_sum RD 0 (CM σ q (nI (skp t n p + 1)) w (nI (l + 2)) (upd (upd f l 20063) (l + 1) 0))) (fun r134 σ134 => if r134 = 0 then (some (0, σ134)) else (bd2 (zfX5_put 20059 σ134) (fun r146 σ146 => ck (zIsR (ix (σ146 46 3))) (ck (zIsR (ix (σ146 46 3))) (bd2 (zfX4_setHole (ix (σ146 46 3)) (nI (l + 1)) σ146) (fun r162 σ162 => if r162 = 0 then (some (0, σ162)) else (some (1, σ162))))))))
    else some (0, CM σ q (nI (skp t n p)) (nI (skp t n p)) (nI l) f) := by
  have hqb : q < 2147483648 := by unfold zIsR at hq; omega
  unfold tlC
  generalize RD = N
  rw [c_take hq hT hp]
  by_cases h : sg t n (skp t n p) = 63
  · rw [if_pos h, if_pos h, bd2_some, if_neg (by decide), c_put hq h3 (by omega), bd2_some, CM_46 hq (by decide) (by decide), h3, n_ix hqb, ck_t hq, ck_t hq, CM_l hq, c_put hq h3 (by omega), bd2_some]
  · rw [if_neg h, if_neg h, bd2_some, if_pos rfl]
def RelT (t : Nat → Int32) (n p : Nat) : Prop :=
  (∃ e, p ≤ e ∧ e ≤ n ∧ (∀ σ q w l f, CT σ t n → zIsR q → σ 46 3 = nI q → l + (n - p) + 1 ≤ 300 → ∃ a l' f', tlC (CM σ q (nI p) w (nI l) f) = some (0, CM σ q a (nI e) l' f')) ∧ (∀ σ b, RT σ t n → ∃ a d', tlR b (RM σ (nI p) (-1) (nI 0)) = some (RM σ a (nI e) d'))) ∨
  (∃ p' Cs, p < p' ∧ p' ≤ n ∧ Cs.length + 1 ≤ p' - p ∧ (∀ σ q w l f, CT σ t n → zIsR q → σ 46 3 = nI q → l + (n - p) + 1 ≤ 300 → tlC (CM σ q (nI p) w (nI l) f) = some (1, CM σ q (nI p') w (nI (l + Cs.length + 3)) (wrs f l ([20063, nI (l + Cs.length + 3)] ++ Cs ++ [20059])))) ∧
    (∀ σ b, RT σ t n → σ 703 13 = 121 → ∃ v, tlR b (RM σ (nI p) (-1) (nI 0)) = some (RM (fnd σ b v) (nI p') (-1) (nI 0)) ∧ (LO σ → run (lamR σ) Cs [] = [v])))
theorem tail_rel {t : Nat → Int32} {n : Nat} (ht : ∀ k, k < n → 0 ≤ (t k).toInt ∧ (t k).toInt < 256) (hn : n ≤ 160) {p : Nat} (hp : p ≤ n) : RelT t n p := by
  have hp1 : p ≤ skp t n p := skp_ge
  have hp2 : skp t n p ≤ n := skp_le hp
  by_cases h : sg t n (skp t n p) = 63
  · have hlt : skp t n p < n := Classical.byContradiction fun q2 => by
      have : sg t n (skp t n p) = -1 := if_neg q2
      rw [h] at this; revert this; decide
    have hrr : ∀ σ b, RT σ t n → tlR b (RM σ (nI p) (-1) (nI 0)) = bd2 (zfX12_sum RD (RM σ (nI (skp t n p + 1)) (-1) (nI 0))) (fun v σ'' => jR b v σ'') := by
      intro σ b hR
      unfold tlR
      rw [r_takes hR hp, if_pos h, bd2_some, if_neg (by decide)]
    rcases sum_rel ht hn 6 RD 0 (by omega) (by decide) (skp t n p + 1) (by omega) with ⟨e, he0, he, hc, hr⟩ | ⟨p', C, g1, g2, g4, hc, hr⟩
    · refine Or.inl ⟨e, by omega, he, fun σ q w l f hT hq h3 h300 => ?_, fun σ b hR => ?_⟩
      · obtain ⟨a, l', f', hE⟩ := hc σ q w (l + 2) (upd (upd f l 20063) (l + 1) 0) hT hq h3 (by omega)
        rw [n_0] at hE
        exact ⟨a, l', f', by rw [tl_c hq h3 hT hp (by omega), if_pos h, hE, bd2_some, if_pos rfl]⟩
      · obtain ⟨v, a, d', hE⟩ := hr σ hR
        exact ⟨a, d', by rw [hrr σ b hR, hE, bd2_some, jR_f (n_ne1 (by omega))]⟩
    · refine Or.inr ⟨p', C, by omega, g2, by omega, fun σ q w l f hT hq h3 h300 => ?_, fun σ b hR h13 => ?_⟩
      · have hqb : q < 2147483648 := by unfold zIsR at hq; omega
        have hE := hc σ q w (l + 2) (upd (upd f l 20063) (l + 1) 0) hT hq h3 (by omega)
        rw [n_0] at hE
        rw [tl_c hq h3 hT hp (by omega), if_pos h, hE, bd2_some, if_neg (by decide), c_put hq h3 (by omega), bd2_some, CM_46 hq (by decide) (by decide), h3, n_ix hqb, ck_t hq, ck_t hq, c_hole hq (by omega), bd2_some, if_neg (by decide)]
        rw [upd_comm (by omega), wrs_upd (by omega), upd_upd, show l + 2 + C.length + 1 = l + C.length + 3 by omega]
        have : wrs f l ([20063, nI (l + C.length + 3)] ++ C ++ [20059]) = upd (wrs (upd (upd f l 20063) (l + 1) (nI (l + C.length + 3))) (l + 2) C) (l + 2 + C.length) 20059 := by
          rw [wrs_app, wrs_app, show l + ([20063, nI (l + C.length + 3)] ++ C).length = l + 2 + C.length by simp only [List.length_append, List.length_cons, List.length_nil]; omega]
          rfl
        rw [this]
      · obtain ⟨v, hE, hv⟩ := hr σ hR
        exact ⟨v, by rw [hrr σ b hR, hE, bd2_some, jR_s h13], fun hL => (hv hL).1 []⟩
  · refine Or.inl ⟨skp t n p, hp1, hp2, fun σ q w l f hT hq h3 h300 => ⟨_, _, _, by rw [tl_c hq h3 hT hp (by omega), if_neg h]⟩, fun σ b hR => ⟨nI (skp t n p), nI 0, ?_⟩⟩
    unfold tlR
    rw [r_takes hR hp, if_neg h, bd2_some, if_pos rfl]
