/-! ===== whole texts of rules ===== -/
def prg : Nat → List (Option (List Int32) × List Int32) → List Int32
  | _, [] => []
  | l, c :: cs => cdl l c ++ prg (l + clen c) cs
def plen : List (Option (List Int32) × List Int32) → Nat
  | [] => 0
  | c :: cs => clen c + plen cs
theorem prg_len {cs : List (Option (List Int32) × List Int32)} : ∀ {l : Nat}, (prg l cs).length = plen cs := by
  induction cs with
  | nil => intro l; rfl
  | cons c cs ih => intro l; show (cdl l c ++ prg (l + clen c) cs).length = _; rw [List.length_append, cdl_len, ih]; rfl
/-- what a text of clauses is worth -/
def PV (lam : Nat → Int32) : List (Option (List Int32) × List Int32) → Int32 → Prop
  | [], x => x = 0
  | c :: cs, x => ∃ b v, ClV lam c b v ∧ (if b = 0 then PV lam cs x else x = v)
theorem fnd_c {σ : Mm} {b v : Int32} {c : Nat} (h : c ≠ 703) : fnd σ b v c = σ c := by
  unfold fnd; repeat' split
  all_goals first | rfl | rw [zst_n h, zst_n h]
theorem fnd_k {σ : Mm} {b v : Int32} {k : Nat} (h : k ≠ 14) (h2 : k ≠ 17) : fnd σ b v 703 k = σ 703 k := by
  unfold fnd; repeat' split
  all_goals first | rfl | rw [zst_k h, zst_k h2]
theorem fnd_17 {σ : Mm} {b v : Int32} (h : σ 703 17 = 0) (hb : b ≠ 0) : fnd σ b v 703 17 = 1 ∧ fnd σ b v 703 14 = v := by
  unfold fnd
  rw [if_pos h, if_neg hb]
  exact ⟨by rw [zst_k (by decide), zst_v], zst_v⟩
theorem RT.fnd {σ : Mm} {t : Nat → Int32} {n : Nat} (h : RT σ t n) (b v : Int32) : RT (fnd σ b v) t n :=
  h.of (fnd_k (by decide) (by decide)) (fnd_k (by decide) (by decide)) (fnd_k (by decide) (by decide)) (fnd_c (by decide)) (fnd_c (by decide))
/-- what the reference's reading leaves as it was -/
def FrR (σ τ : Mm) : Prop := (∀ c, c ≠ 703 → τ c = σ c) ∧ ∀ k, (k < 10 ∨ k = 13 ∨ k = 15 ∨ k = 16 ∨ 17 < k) → τ 703 k = σ 703 k
theorem FrR.rm {σ : Mm} {a f d : Int32} : FrR σ (RM σ a f d) := ⟨fun c hc => RM_c hc, fun k hk => RM_k (by omega)⟩
theorem FrR.fnd {σ τ : Mm} {b v : Int32} (h : FrR (fnd σ b v) τ) : FrR σ τ := ⟨fun c hc => (h.1 c hc).trans (fnd_c hc), fun k hk => (h.2 k hk).trans (fnd_k (by omega) (by omega))⟩
def kG (S : Mm) : Option Mm := if (S 703 11) = (-1) then (bd2 (zfX12_look S) (fun r75 σ75 => if r75 = (-1) then (some σ75) else (bd2 (zfX12_fails σ75) (fun r83 σ83 => some σ83)))) else (some S)
def GL (fu : Nat) (S : Mm) : Option Mm := bd (zfX12_clause S) (fun σ29 => zfX12_goThrough_L32 kG fu σ29)
theorem gl_f {σ : Mm} {fu : Nat} {a f d : Int32} (hf : f ≠ -1) : zfX12_goThrough_L32 kG (fu + 1) (RM σ a f d) = some (RM σ a f d) := by
  unfold zfX12_goThrough_L32 kG
  rw [RM_f, if_neg hf, if_neg hf]
theorem gl_s {σ : Mm} {t : Nat → Int32} {n p fu : Nat} {d : Int32} (hR : RT σ t n) (hp : p ≤ n) : zfX12_goThrough_L32 kG (fu + 1) (RM σ (nI p) (-1) d) =
    if sg t n (skp t n p) = 59 then GL fu (RM σ (nI (skp t n p + 1)) (-1) d) else if sg t n (skp t n p) = -1 then some (RM σ (nI (skp t n p)) (-1) d) else some (RM σ (nI (skp t n p)) (nI (skp t n p)) d) := by
  conv => lhs; unfold zfX12_goThrough_L32
  rw [RM_f, if_pos rfl, r_lk hR hp, bd2_some]
  by_cases h : sg t n (skp t n p) = 59
  · rw [if_pos h, if_pos h]
    simp only [lt_p]
    rw [RM_at, RM_sa, show nI (skp t n p) + 1 = nI (skp t n p + 1) from n_add _ 1]
    rfl
  · rw [if_neg h, if_neg h]
    unfold kG
    rw [RM_f, if_pos rfl, r_lk hR (skp_le hp), bd2_some, skp_skp]
    by_cases h2 : sg t n (skp t n p) = -1
    · rw [if_pos h2, if_pos h2]
    · rw [if_neg h2, if_neg h2, r_fails, if_pos rfl, bd2_some]
def CL (fu : Nat) (i : Nat) (S : Mm) : Option (Int32 × Mm) := zfX5_read_L16 (fun σ65 => some (σ65 46 1, σ65)) (fun σ30 => some (σ30 46 2, σ30)) (fun σ43 => some ((-1), σ43)) (fun σ54 => some (σ54 46 2, σ54)) fu (nI i) S
theorem cL_f {σ : Mm} {q i fu : Nat} {a w l : Int32} {f : Nat → Int32} {S : Mm} (hq : zIsR q) (hi : i ≤ 160) (hS : zfX5_clause S = some (0, CM σ q a w l f)) : CL (fu + 1) i S = some (w, CM σ q a w l f) := by
  unfold CL zfX5_read_L16
  rw [if_neg (by rw [show (160 : Int32) = nI 160 from rfl, n_lt (by decide) (by omega)]; omega), hS, bd2_some, if_pos rfl, CM_w hq]
theorem cL_s {σ : Mm} {t : Nat → Int32} {n p q i fu : Nat} {w l : Int32} {f : Nat → Int32} {S : Mm} (hq : zIsR q) (hT : CT σ t n) (hp : p ≤ n) (hi : i ≤ 160) (hS : zfX5_clause S = some (1, CM σ q (nI p) w l f)) : CL (fu + 1) i S =
    if sg t n (skp t n p) = 59 then CL fu (i + 1) (CM σ q (nI (skp t n p + 1)) w l f) else if sg t n (skp t n p) = -1 then some (-1, CM σ q (nI (skp t n p)) w l f) else some (nI (skp t n p), CM σ q (nI (skp t n p)) (nI (skp t n p)) l f) := by
  conv => lhs; unfold CL zfX5_read_L16
  rw [if_neg (by rw [show (160 : Int32) = nI 160 from rfl, n_lt (by decide) (by omega)]; omega), hS, bd2_some, if_neg (by decide), c_sg hq hT hp, bd2_some]
  by_cases h2 : sg t n (skp t n p) = -1
  · rw [if_pos h2, if_neg (by rw [h2]; decide), if_pos h2]
  · rw [if_neg h2, c_take hq hT (skp_le hp), skp_skp]
    by_cases h : sg t n (skp t n p) = 59
    · rw [if_pos h, if_pos h, bd2_some, if_neg (by decide)]
      simp only [lt_p]
      rw [show nI i + 1 = nI (i + 1) from n_add _ 1]
      rfl
    · rw [if_neg h, if_neg h, if_neg h2, bd2_some, if_pos rfl, CM_w hq]
def RelL (t : Nat → Int32) (n p i fuc fur : Nat) : Prop :=
  (∃ e, e ≤ n ∧ (∀ σ q w l f, CT σ t n → zIsR q → σ 46 3 = nI q → l + (n - p) ≤ 300 → ∃ a l' f', CL fuc i (CM σ q (nI p) w (nI l) f) = some (nI e, CM σ q a (nI e) l' f')) ∧ (∀ σ, RT σ t n → σ 703 13 = 121 → ∃ τ, GL fur (RM σ (nI p) (-1) (nI 0)) = some τ ∧ τ 703 11 = nI e ∧ FrR σ τ)) ∨
  (∃ cs, plen cs ≤ n - p ∧ (∀ σ q w l f, CT σ t n → zIsR q → σ 46 3 = nI q → l + (n - p) ≤ 300 → ∃ a, CL fuc i (CM σ q (nI p) w (nI l) f) = some (-1, CM σ q a w (nI (l + plen cs)) (wrs f l (prg l cs)))) ∧
    (∀ σ, RT σ t n → σ 703 13 = 121 → ∃ τ, GL fur (RM σ (nI p) (-1) (nI 0)) = some τ ∧ τ 703 11 = -1 ∧ FrR σ τ ∧ (LO σ → (σ 703 17 ≠ 0 → τ 703 14 = σ 703 14) ∧ (σ 703 17 = 0 → σ 703 14 = 0 → PV (lamR σ) cs (τ 703 14)))))
theorem lamR_fnd {σ : Mm} {b v : Int32} : lamR (fnd σ b v) = lamR σ := by
  funext k; unfold lamR; rw [fnd_c (by decide)]
theorem LO.fnd {σ : Mm} {b v : Int32} (h : LO σ) : LO (fnd σ b v) := by
  intro k hk; rw [lamR_fnd]; exact h k hk
theorem read_loop {t : Nat → Int32} {n : Nat} (ht : ∀ k, k < n → 0 ≤ (t k).toInt ∧ (t k).toInt < 256) (hn : n ≤ 160) : ∀ m p, n - p = m → p ≤ n → ∀ i fuc fur, i ≤ p → n - p < fuc → n - p < fur → RelL t n p i fuc fur := by
  intro m
  induction m using Nat.strongRecOn with
  | _ m ih =>
  intro p hm hp i fuc fur hi hfc hfr
  obtain ⟨fuc, rfl⟩ : ∃ g, fuc = g + 1 := ⟨fuc - 1, by omega⟩
  obtain ⟨fur, rfl⟩ : ∃ g, fur = g + 1 := ⟨fur - 1, by omega⟩
  rcases clause_rel ht hn hp with ⟨e, he0, he, hc, hr⟩ | ⟨p1, c, h1, h2, h4, hc, hr⟩
  · refine Or.inl ⟨e, he, fun σ q w l f hT hq h3 h300 => ?_, fun σ hR h13 => ?_⟩
    · obtain ⟨a, l', f', hE⟩ := hc σ q w l f hT hq h3 h300
      exact ⟨a, l', f', cL_f hq (by omega) hE⟩
    · obtain ⟨a, d', hE⟩ := hr σ hR
      refine ⟨RM σ a (nI e) d', ?_, RM_f, FrR.rm⟩
      unfold GL
      rw [hE, bd_some, gl_f (n_ne1 (by omega))]
  · have hs1 : p1 ≤ skp t n p1 := skp_ge
    have hs2 : skp t n p1 ≤ n := skp_le h2
    have hcs := fun σ q w l f hT hq h3 h300 => cL_s (fu := fuc) (i := i) hq hT h2 (by omega) (hc σ q w l f hT hq h3 h300)
    have hrs : ∀ σ, RT σ t n → σ 703 13 = 121 → ∃ b v, (LO σ → ClV (lamR σ) c b v) ∧ GL (fur + 1) (RM σ (nI p) (-1) (nI 0)) = if sg t n (skp t n p1) = 59 then GL fur (RM (fnd σ b v) (nI (skp t n p1 + 1)) (-1) (nI 0)) else if sg t n (skp t n p1) = -1 then some (RM (fnd σ b v) (nI (skp t n p1)) (-1) (nI 0)) else some (RM (fnd σ b v) (nI (skp t n p1)) (nI (skp t n p1)) (nI 0)) := by
      intro σ hR h13
      obtain ⟨b, v, hE, hv⟩ := hr σ hR h13
      refine ⟨b, v, hv, ?_⟩
      conv => lhs; unfold GL
      rw [hE, bd_some, gl_s (hR.fnd b v) h2]
    by_cases o : sg t n (skp t n p1) = 59
    · have hlt : skp t n p1 < n := Classical.byContradiction fun q2 => by
        have : sg t n (skp t n p1) = -1 := if_neg q2
        rw [o] at this; revert this; decide
      rcases ih (n - (skp t n p1 + 1)) (by omega) (skp t n p1 + 1) rfl (by omega) (i + 1) fuc fur (by omega) (by omega) (by omega) with ⟨e, he, hc', hr'⟩ | ⟨cs, hl, hc', hr'⟩
      · refine Or.inl ⟨e, he, fun σ q w l f hT hq h3 h300 => ?_, fun σ hR h13 => ?_⟩
        · rw [hcs σ q w l f hT hq h3 h300, if_pos o]
          exact hc' σ q w (l + clen c) _ hT hq h3 (by omega)
        · obtain ⟨b, v, hv, hE⟩ := hrs σ hR h13
          obtain ⟨τ, hE', hτ, hF⟩ := hr' (fnd σ b v) (hR.fnd b v) ((fnd_k (by decide) (by decide)).trans h13)
          exact ⟨τ, by rw [hE, if_pos o, hE'], hτ, hF.fnd⟩
      · refine Or.inr ⟨c :: cs, by show clen c + plen cs ≤ _; omega, fun σ q w l f hT hq h3 h300 => ?_, fun σ hR h13 => ?_⟩
        · obtain ⟨a, hE⟩ := hc' σ q w (l + clen c) (wrs f l (cdl l c)) hT hq h3 (by omega)
          refine ⟨a, ?_⟩
          rw [hcs σ q w l f hT hq h3 h300, if_pos o, hE]
          show _ = some (-1, CM σ q a w (nI (l + (clen c + plen cs))) (wrs f l (cdl l c ++ prg (l + clen c) cs)))
          rw [wrs_app f l (cdl l c), cdl_len, Nat.add_assoc]
        · obtain ⟨b, v, hv, hE⟩ := hrs σ hR h13
          obtain ⟨τ, hE', hτ, hF, hV⟩ := hr' (fnd σ b v) (hR.fnd b v) ((fnd_k (by decide) (by decide)).trans h13)
          refine ⟨τ, by rw [hE, if_pos o, hE'], hτ, hF.fnd, fun hL => ⟨fun h17 => ?_, fun h17 h14 => ?_⟩⟩
          · have e : fnd σ b v = σ := if_neg h17
            have := (hV hL.fnd).1
            rw [e] at this
            exact this h17
          · refine ⟨b, v, hv hL, ?_⟩
            by_cases hb : b = 0
            · rw [if_pos hb]
              have e : fnd σ b v = σ := by unfold fnd; rw [if_pos h17, if_pos hb]
              have := (hV hL.fnd).2
              rw [lamR_fnd, e] at this
              exact this h17 h14
            · rw [if_neg hb]
              have ⟨e1, e2⟩ := fnd_17 (v := v) h17 hb
              have := (hV hL.fnd).1 (by rw [e1]; decide)
              rw [e2] at this
              exact this
    · by_cases o2 : sg t n (skp t n p1) = -1
      · refine Or.inr ⟨[c], by show clen c + 0 ≤ _; omega, fun σ q w l f hT hq h3 h300 => ?_, fun σ hR h13 => ?_⟩
        · refine ⟨nI (skp t n p1), ?_⟩
          rw [hcs σ q w l f hT hq h3 h300, if_neg o, if_pos o2]
          show _ = some (-1, CM σ q _ w (nI (l + (clen c + 0))) (wrs f l (cdl l c ++ [])))
          rw [List.append_nil, Nat.add_zero]
        · obtain ⟨b, v, hv, hE⟩ := hrs σ hR h13
          refine ⟨_, by rw [hE, if_neg o, if_pos o2], RM_f, (FrR.rm (σ := fnd σ b v)).fnd, fun hL => ⟨fun h17 => ?_, fun h17 h14 => ?_⟩⟩
          · have e : fnd σ b v = σ := if_neg h17
            rw [RM_k (by decide), e]
          · refine ⟨b, v, hv hL, ?_⟩
            rw [RM_k (by decide)]
            by_cases hb : b = 0
            · rw [if_pos hb]
              have e : fnd σ b v = σ := by unfold fnd; rw [if_pos h17, if_pos hb]
              rw [e]; exact h14
            · rw [if_neg hb]
              exact (fnd_17 (v := v) h17 hb).2
      · refine Or.inl ⟨skp t n p1, hs2, fun σ q w l f hT hq h3 h300 => ?_, fun σ hR h13 => ?_⟩
        · rw [hcs σ q w l f hT hq h3 h300, if_neg o, if_neg o2]
          exact ⟨_, _, _, rfl⟩
        · obtain ⟨b, v, hv, hE⟩ := hrs σ hR h13
          exact ⟨_, by rw [hE, if_neg o, if_neg o2], RM_f, (FrR.rm (σ := fnd σ b v)).fnd⟩
