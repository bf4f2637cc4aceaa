/-! ===== reading: what both readers share ===== -/
theorem upd_self {f : Nat → Int32} {k : Nat} {v : Int32} (h : f k = v) : upd f k v = f := by
  funext j; unfold upd; split
  · subst_vars; rfl
  · rfl
theorem upd_upd {f : Nat → Int32} {k : Nat} {v w : Int32} : upd (upd f k v) k w = upd f k w := by
  funext j; unfold upd; split <;> rfl
theorem zst_self {σ : Mm} {c k : Nat} {v : Int32} (h : σ c k = v) : zst σ c k v = σ := by
  funext a; unfold zst; split
  · rename_i e; subst e; exact upd_self h
  · rfl
theorem zst_zst {σ : Mm} {c k : Nat} {v w : Int32} : zst (zst σ c k v) c k w = zst σ c k w := by
  funext a; unfold zst; by_cases h : a = c
  · simp only [h, if_true]; exact upd_upd
  · simp only [h, if_false]
theorem zst_v {σ : Mm} {c k : Nat} {v : Int32} : zst σ c k v c k = v := by rw [zst_s, upd_s]
theorem zst_k {σ : Mm} {c k j : Nat} {v : Int32} (h : j ≠ k) : zst σ c k v c j = σ c j := by rw [zst_s, upd_n h]
/-- past blanks -/
def skp (t : Nat → Int32) (n p : Nat) : Nat := if p < n ∧ t p = 32 then skp t n (p + 1) else p
termination_by n - p
/-- the sign at a place, -1 behind the last -/
def sg (t : Nat → Int32) (n p : Nat) : Int32 := if p < n then t p else -1
theorem skp_ge {t : Nat → Int32} {n p : Nat} : p ≤ skp t n p := by
  induction h : n - p using Nat.strongRecOn generalizing p with
  | _ m ih =>
    rw [skp]; split
    · rename_i hp; exact Nat.le_trans (by omega) (ih (n - (p + 1)) (by omega) rfl)
    · exact Nat.le_refl _
theorem skp_le {t : Nat → Int32} {n p : Nat} (hp : p ≤ n) : skp t n p ≤ n := by
  induction h : n - p using Nat.strongRecOn generalizing p with
  | _ m ih =>
    rw [skp]; split
    · exact ih (n - (p + 1)) (by omega) (by omega) rfl
    · exact hp
theorem skp_skp {t : Nat → Int32} {n p : Nat} : skp t n (skp t n p) = skp t n p := by
  induction h : n - p using Nat.strongRecOn generalizing p with
  | _ m ih =>
    by_cases hp : p < n ∧ t p = 32
    · rw [show skp t n p = skp t n (p + 1) by rw [skp, if_pos hp]]
      exact ih (n - (p + 1)) (by omega) rfl
    · rw [show skp t n p = p by rw [skp, if_neg hp]]
      rw [skp, if_neg hp]
theorem skp_s {t : Nat → Int32} {n p : Nat} (h : p < n ∧ t p = 32) : skp t n p = skp t n (p + 1) := by rw [skp, if_pos h]
theorem skp_n {t : Nat → Int32} {n p : Nat} (h : ¬ (p < n ∧ t p = 32)) : skp t n p = p := by rw [skp, if_neg h]
/-- the tape as the class holds it -/
def CT (σ : Mm) (t : Nat → Int32) (n : Nat) : Prop := σ 1 1 = nI n ∧ n ≤ 160 ∧ ∀ k, k < n → σ 2 k = t k
theorem CT.of {σ σ' : Mm} {t : Nat → Int32} {n : Nat} (h : CT σ t n) (h1 : σ' 1 = σ 1) (h2 : σ' 2 = σ 2) : CT σ' t n := ⟨by rw [h1]; exact h.1, h.2.1, fun k hk => by rw [h2]; exact h.2.2 k hk⟩
theorem c_byteAt {σ : Mm} {t : Nat → Int32} {n p : Nat} (h : CT σ t n) (hp : p ≤ n) : zfX9_byteAt (nI p) σ = some (sg t n p) := by
  obtain ⟨h1, h2, h3⟩ := h
  unfold zfX9_byteAt sg
  simp only [lt]
  rw [if_neg (n_nlt0 (by omega)), h1, show (160 : Int32) = nI 160 from rfl]
  simp only [n_le (a := n) (b := p) (by omega) (by omega), n_le (a := 160) (b := p) (by omega) (by omega)]
  by_cases hpn : p < n
  · rw [if_neg (by omega), if_neg (by omega), if_pos hpn, ck_t ((n_in (by omega)).mpr (by omega)), n_ix (by omega), h3 p hpn]
  · rw [if_pos (by omega), if_neg hpn]
theorem c_sign_46 {σ : Mm} {t : Nat → Int32} {n p : Nat} (h : CT σ t n) (hp : σ 46 1 = nI p) (hpn : p ≤ n) : zfX3_sign_46 σ = some (sg t n (skp t n p), zst σ 46 1 (nI (skp t n p))) := by
  unfold zfX3_sign_46
  simp only [lt]
  have hn := h.2.1
  have key : ∀ m i fu (τ : Mm), m = n - (p + i) → p + i ≤ n → τ = zst σ 46 1 (nI (p + i)) → skp t n (p + i) = skp t n p → 160 - i < fu → i ≤ 160 →
      zfX3_sign_46_L2 (fun σ41 => bd (zfX9_byteAt (σ41 46 1) σ41) (fun r49 => some (r49, σ41))) fu (nI i) τ = some (sg t n (skp t n p), zst σ 46 1 (nI (skp t n p))) := by
    intro m
    induction m with
    | zero =>
      intro i fu τ hm hi hτ hs hf hi6
      obtain ⟨fu, rfl⟩ : ∃ g, fu = g + 1 := ⟨fu - 1, by omega⟩
      have hpi : p + i = n := by omega
      have hT : CT τ t n := h.of (by rw [hτ, zst_n (by decide)]) (by rw [hτ, zst_n (by decide)])
      have hP : τ 46 1 = nI (p + i) := by rw [hτ, zst_v]
      have hsk : skp t n (p + i) = p + i := skp_n (by omega)
      have e1 : zfX9_byteAt (nI (p + i)) τ = some (-1) := by rw [c_byteAt hT hi]; unfold sg; rw [if_neg (by omega)]
      have fin : (bd (zfX9_byteAt (τ 46 1) τ) (fun r49 => some (r49, τ))) = some (sg t n (skp t n p), zst σ 46 1 (nI (skp t n p))) := by
        rw [hP, c_byteAt hT hi, bd_some, ← hs, hsk, hτ]
      unfold zfX3_sign_46_L2
      split
      · exact fin
      · rw [hP, e1, bd_some, if_neg (by decide), bd_some, ← hs, hsk, hτ]
        unfold sg
        rw [if_neg (by omega)]
    | succ m ih =>
      intro i fu τ hm hi hτ hs hf hi6
      obtain ⟨fu, rfl⟩ : ∃ g, fu = g + 1 := ⟨fu - 1, by omega⟩
      have hT : CT τ t n := h.of (by rw [hτ, zst_n (by decide)]) (by rw [hτ, zst_n (by decide)])
      have hP : τ 46 1 = nI (p + i) := by rw [hτ, zst_v]
      unfold zfX3_sign_46_L2
      rw [show (160 : Int32) = nI 160 from rfl, if_neg (by rw [n_le (by omega) (by omega)]; omega), hP, c_byteAt hT hi, bd_some]
      have e1 : sg t n (p + i) = t (p + i) := if_pos (by omega)
      rw [e1]
      by_cases hb : t (p + i) = 32
      · rw [if_pos hb]
        simp only [lt]
        rw [show nI i + 1 = nI (i + 1) from n_add i 1, show nI (p + i) + 1 = nI (p + (i + 1)) from n_add (p + i) 1]
        exact ih (i + 1) fu _ (by omega) (by omega) (by rw [hτ, zst_zst]) (by rw [← hs, skp_s (p := p + i) ⟨by omega, hb⟩]; rfl) (by omega) (by omega)
      · rw [if_neg hb, bd_some, ← hs, skp_n (by simp [hb]), e1, hτ]
  exact key (n - p) 0 NF σ rfl hpn (by rw [zst_self (by rw [hp]; rfl)]) rfl (by unfold NF; omega) (by omega)
theorem c_sign_43 {σ : Mm} {t : Nat → Int32} {n p : Nat} (h : CT σ t n) (hp : σ 43 1 = nI p) (hpn : p ≤ n) : zfX3_sign_43 σ = some (sg t n (skp t n p), zst σ 43 1 (nI (skp t n p))) := by
  unfold zfX3_sign_43
  simp only [lt]
  have hn := h.2.1
  have key : ∀ m i fu (τ : Mm), m = n - (p + i) → p + i ≤ n → τ = zst σ 43 1 (nI (p + i)) → skp t n (p + i) = skp t n p → 160 - i < fu → i ≤ 160 →
      zfX3_sign_43_L2 (fun σ41 => bd (zfX9_byteAt (σ41 43 1) σ41) (fun r49 => some (r49, σ41))) fu (nI i) τ = some (sg t n (skp t n p), zst σ 43 1 (nI (skp t n p))) := by
    intro m
    induction m with
    | zero =>
      intro i fu τ hm hi hτ hs hf hi6
      obtain ⟨fu, rfl⟩ : ∃ g, fu = g + 1 := ⟨fu - 1, by omega⟩
      have hpi : p + i = n := by omega
      have hT : CT τ t n := h.of (by rw [hτ, zst_n (by decide)]) (by rw [hτ, zst_n (by decide)])
      have hP : τ 43 1 = nI (p + i) := by rw [hτ, zst_v]
      have hsk : skp t n (p + i) = p + i := skp_n (by omega)
      have e1 : zfX9_byteAt (nI (p + i)) τ = some (-1) := by rw [c_byteAt hT hi]; unfold sg; rw [if_neg (by omega)]
      have fin : (bd (zfX9_byteAt (τ 43 1) τ) (fun r49 => some (r49, τ))) = some (sg t n (skp t n p), zst σ 43 1 (nI (skp t n p))) := by
        rw [hP, c_byteAt hT hi, bd_some, ← hs, hsk, hτ]
      unfold zfX3_sign_43_L2
      split
      · exact fin
      · rw [hP, e1, bd_some, if_neg (by decide), bd_some, ← hs, hsk, hτ]
        unfold sg
        rw [if_neg (by omega)]
    | succ m ih =>
      intro i fu τ hm hi hτ hs hf hi6
      obtain ⟨fu, rfl⟩ : ∃ g, fu = g + 1 := ⟨fu - 1, by omega⟩
      have hT : CT τ t n := h.of (by rw [hτ, zst_n (by decide)]) (by rw [hτ, zst_n (by decide)])
      have hP : τ 43 1 = nI (p + i) := by rw [hτ, zst_v]
      unfold zfX3_sign_43_L2
      rw [show (160 : Int32) = nI 160 from rfl, if_neg (by rw [n_le (by omega) (by omega)]; omega), hP, c_byteAt hT hi, bd_some]
      have e1 : sg t n (p + i) = t (p + i) := if_pos (by omega)
      rw [e1]
      by_cases hb : t (p + i) = 32
      · rw [if_pos hb]
        simp only [lt]
        rw [show nI i + 1 = nI (i + 1) from n_add i 1, show nI (p + i) + 1 = nI (p + (i + 1)) from n_add (p + i) 1]
        exact ih (i + 1) fu _ (by omega) (by omega) (by rw [hτ, zst_zst]) (by rw [← hs, skp_s (p := p + i) ⟨by omega, hb⟩]; rfl) (by omega) (by omega)
      · rw [if_neg hb, bd_some, ← hs, skp_n (by simp [hb]), e1, hτ]
  exact key (n - p) 0 NF σ rfl hpn (by rw [zst_self (by rw [hp]; rfl)]) rfl (by unfold NF; omega) (by omega)
/-- the text as the reference holds it -/
def RT (σ : Mm) (t : Nat → Int32) (n : Nat) : Prop := ∃ c b, σ 703 5 = nI c ∧ (c = 704 ∧ b + n ≤ 160 ∨ c = 705 ∧ b + n ≤ 800) ∧ σ 703 8 = nI b ∧ σ 703 9 = nI n ∧ Tp t (fun k => σ c (b + k)) n
theorem RT.of {σ σ' : Mm} {t : Nat → Int32} {n : Nat} (h : RT σ t n) (h1 : σ' 703 5 = σ 703 5) (h2 : σ' 703 8 = σ 703 8) (h3 : σ' 703 9 = σ 703 9) (h4 : σ' 704 = σ 704) (h5 : σ' 705 = σ 705) : RT σ' t n := by
  obtain ⟨c, b, e1, e2, e3, e4, e5⟩ := h
  refine ⟨c, b, h1.trans e1, e2, h2.trans e3, h3.trans e4, ?_⟩
  rcases e2 with ⟨rfl, _⟩ | ⟨rfl, _⟩
  · rw [h4]; exact e5
  · rw [h5]; exact e5
theorem RT.at_ {σ : Mm} {t : Nat → Int32} {n : Nat} (h : RT σ t n) (k : Nat) (hk : k ≠ 5) (h8 : k ≠ 8) (h9 : k ≠ 9) (v : Int32) : RT (zst σ 703 k v) t n :=
  h.of (zst_k (Ne.symm hk)) (zst_k (Ne.symm h8)) (zst_k (Ne.symm h9)) (zst_n (by decide)) (zst_n (by decide))
theorem RT.n {σ : Mm} {t : Nat → Int32} {n : Nat} (h : RT σ t n) : σ 703 9 = nI n ∧ n ≤ 800 := by
  obtain ⟨c, b, e1, e2, e3, e4, e5⟩ := h
  exact ⟨e4, by omega⟩
/-- a place of the text is read -/
theorem RT.get {σ : Mm} {t : Nat → Int32} {n : Nat} (h : RT σ t n) {p : Nat} (hp : p < n) {β : Type} (hat : σ 703 10 = nI p) (o : Int32 → Option β) : ∃ v : Int32, v &&& 255 = t p ∧ -128 ≤ v.toInt ∧ v.toInt < 128 ∧
    ck (zIsB (ix (σ 703 5))) (ck (inb ((σ 703 8) + (σ 703 10)) (zs (ix (σ 703 5))).2) (o (σ (ix (σ 703 5)) (ix ((σ 703 8) + (σ 703 10)))))) = o v := by
  obtain ⟨c, b, e1, e2, e3, e4, e5⟩ := h
  obtain ⟨g1, g2, g3⟩ := e5 p hp
  refine ⟨σ c (b + p), g1, g2, g3, ?_⟩
  rw [e1, e3, hat, n_add, n_ix (by omega), n_ix (by omega)]
  rcases e2 with ⟨rfl, hb⟩ | ⟨rfl, hb⟩
  · rw [ck_t (by decide), ck_t ((n_in (by omega)).mpr (by show b + p < 160; omega))]
  · rw [ck_t (by decide), ck_t ((n_in (by omega)).mpr (by show b + p < 800; omega))]
theorem and255 (x : Int32) : (x &&& 255).toInt = x.toInt % 256 := by
  have h1 : (x &&& 255).toBitVec.toNat = x.toBitVec.toNat % 256 := by
    rw [Int32.toBitVec_and, BitVec.toNat_and]
    exact Nat.and_two_pow_sub_one_eq_mod _ 8
  have h2 : (x &&& 255).toInt = ((x &&& 255).toBitVec.toNat : Int) := by
    show (x &&& 255).toBitVec.toInt = _
    rw [BitVec.toInt_eq_toNat_cond, if_pos (by rw [h1]; omega)]
  rw [h2, h1]
  show _ = x.toBitVec.toInt % 256
  rw [BitVec.toInt_eq_toNat_cond]
  have := x.toBitVec.isLt
  split <;> omega
theorem tp_in {v w : Int32} (h : v &&& 255 = w) : 0 ≤ w.toInt ∧ w.toInt < 256 := by
  rw [← h, and255]; omega
/-- a signed byte and the byte it stands for, below 128 -/
theorem tp_eq {v w : Int32} (h : v &&& 255 = w) (h1 : -128 ≤ v.toInt) (h2 : v.toInt < 128) (c : Int32) (hc : 0 ≤ c.toInt) (hc2 : c.toInt < 128) : v = c ↔ w = c := by
  rw [← Int32.toInt_inj, ← Int32.toInt_inj, ← h, and255]; omega
theorem tp_lo {v w : Int32} (h : v &&& 255 = w) (h1 : -128 ≤ v.toInt) (h2 : v.toInt < 128) : (v < 48 ∨ 57 < v) ↔ (w < 48 ∨ 57 < w) := by
  rw [Int32.lt_iff_toInt_lt, Int32.lt_iff_toInt_lt, Int32.lt_iff_toInt_lt, Int32.lt_iff_toInt_lt, ← h, and255]
  have e1 : (48 : Int32).toInt = 48 := by decide
  have e2 : (57 : Int32).toInt = 57 := by decide
  omega
theorem r_look {σ : Mm} {t : Nat → Int32} {n p : Nat} (h : RT σ t n) (hp : σ 703 10 = nI p) (hpn : p ≤ n) : zfX12_look σ = some (sg t n (skp t n p), zst σ 703 10 (nI (skp t n p))) := by
  unfold zfX12_look
  simp only [lt]
  have hn := h.n
  have key : ∀ m i fu (τ : Mm), m = n - i → p ≤ i → i ≤ n → τ = zst σ 703 10 (nI i) → skp t n i = skp t n p → n - i < fu →
      zfX12_look_L0 (fun σ43 => if (σ43 703 9) ≤ (σ43 703 10) then (some ((-1), σ43)) else (ck (zIsB (ix (σ43 703 5))) (ck (inb ((σ43 703 8) + (σ43 703 10)) (zs (ix (σ43 703 5))).2) (some ((σ43 (ix (σ43 703 5)) (ix ((σ43 703 8) + (σ43 703 10)))) &&& 255, σ43))))) fu τ = some (sg t n (skp t n p), zst σ 703 10 (nI (skp t n p))) := by
    intro m
    induction m with
    | zero =>
      intro i fu τ hm hpi hi hτ hs hf
      obtain ⟨fu, rfl⟩ : ∃ g, fu = g + 1 := ⟨fu - 1, by omega⟩
      have hin : i = n := by omega
      have hT : RT τ t n := by rw [hτ]; exact h.at_ 10 (by decide) (by decide) (by decide) _
      have hP : τ 703 10 = nI i := by rw [hτ, zst_v]
      have hsk : skp t n i = i := skp_n (by omega)
      unfold zfX12_look_L0
      rw [hP, hT.n.1, if_pos (by rw [n_le (by omega) (by omega)]; omega), if_pos (by rw [n_le (by omega) (by omega)]; omega), ← hs, hsk, hτ]
      unfold sg
      rw [if_neg (by omega)]
    | succ m ih =>
      intro i fu τ hm hpi hi hτ hs hf
      obtain ⟨fu, rfl⟩ : ∃ g, fu = g + 1 := ⟨fu - 1, by omega⟩
      have hT : RT τ t n := by rw [hτ]; exact h.at_ 10 (by decide) (by decide) (by decide) _
      have hP : τ 703 10 = nI i := by rw [hτ, zst_v]
      have hng : ¬ (τ 703 9 ≤ τ 703 10) := by rw [hP, hT.n.1, n_le (by omega) (by omega)]; omega
      unfold zfX12_look_L0
      rw [if_neg hng]
      obtain ⟨v, v1, v2, v3, v4⟩ := hT.get (p := i) (by omega) hP (fun w => if w = 32 then (lt (zst τ 703 10 ((τ 703 10) + 1)) (fun σ37 => zfX12_look_L0 (fun σ43 => if (σ43 703 9) ≤ (σ43 703 10) then (some ((-1), σ43)) else (ck (zIsB (ix (σ43 703 5))) (ck (inb ((σ43 703 8) + (σ43 703 10)) (zs (ix (σ43 703 5))).2) (some ((σ43 (ix (σ43 703 5)) (ix ((σ43 703 8) + (σ43 703 10)))) &&& 255, σ43))))) fu σ37)) else (if (τ 703 9) ≤ (τ 703 10) then (some ((-1), τ)) else (ck (zIsB (ix (τ 703 5))) (ck (inb ((τ 703 8) + (τ 703 10)) (zs (ix (τ 703 5))).2) (some ((τ (ix (τ 703 5)) (ix ((τ 703 8) + (τ 703 10)))) &&& 255, τ))))))
      rw [v4]
      have hv := tp_eq v1 v2 v3 32 (by decide) (by decide)
      by_cases hb : t i = 32
      · rw [if_pos (hv.mpr hb)]
        simp only [lt]
        rw [hP, show nI i + 1 = nI (i + 1) from n_add i 1]
        exact ih (i + 1) fu _ (by omega) (by omega) (by omega) (by rw [hτ, zst_zst]) (by rw [← hs, skp_s (p := i) ⟨by omega, hb⟩]) (by omega)
      · rw [if_neg (fun e => hb (hv.mp e)), if_neg hng]
        obtain ⟨w, w1, w2, w3, w4⟩ := hT.get (p := i) (by omega) hP (fun w => some (w &&& 255, τ))
        rw [w4, w1, ← hs, skp_n (by simp [hb]), hτ]
        unfold sg
        rw [if_pos (by omega)]
  have hself : σ = zst σ 703 10 (nI p) := (zst_self hp).symm
  exact key (n - p) p NF σ rfl (Nat.le_refl _) hpn hself rfl (by unfold NF; omega)
/-! ===== the reference's reader: place a, fault f, depth d ===== -/
def RM (σ : Mm) (a f d : Int32) : Mm := zst (zst (zst σ 703 10 a) 703 11 f) 703 12 d
theorem RM_at {σ : Mm} {a f d : Int32} : RM σ a f d 703 10 = a := by unfold RM; rw [zst_k (by decide), zst_k (by decide), zst_v]
theorem RM_f {σ : Mm} {a f d : Int32} : RM σ a f d 703 11 = f := by unfold RM; rw [zst_k (by decide), zst_v]
theorem RM_d {σ : Mm} {a f d : Int32} : RM σ a f d 703 12 = d := by unfold RM; rw [zst_v]
theorem RM_k {σ : Mm} {a f d : Int32} {k : Nat} (h : k < 10 ∨ 12 < k) : RM σ a f d 703 k = σ 703 k := by
  unfold RM; rw [zst_k (by omega), zst_k (by omega), zst_k (by omega)]
theorem RM_c {σ : Mm} {a f d : Int32} {c : Nat} (h : c ≠ 703) : RM σ a f d c = σ c := by
  unfold RM; rw [zst_n h, zst_n h, zst_n h]
theorem RM_ext {σ τ : Mm} (h1 : ∀ c, c ≠ 703 → τ c = σ c) (h2 : ∀ k, (k < 10 ∨ 12 < k) → τ 703 k = σ 703 k) : τ = RM σ (τ 703 10) (τ 703 11) (τ 703 12) := by
  funext c
  by_cases hc : c = 703
  · subst hc
    funext k
    by_cases h : k < 10 ∨ 12 < k
    · rw [RM_k h, h2 k h]
    · have : k = 10 ∨ k = 11 ∨ k = 12 := by omega
      rcases this with rfl | rfl | rfl
      · rw [RM_at]
      · rw [RM_f]
      · rw [RM_d]
  · rw [RM_c hc, h1 c hc]
theorem RM_self {σ : Mm} : RM σ (σ 703 10) (σ 703 11) (σ 703 12) = σ := (RM_ext (fun _ _ => rfl) (fun _ _ => rfl)).symm
theorem RM_sa {σ : Mm} {a f d v : Int32} : zst (RM σ a f d) 703 10 v = RM σ v f d := by
  refine (RM_ext (σ := σ) (fun c hc => ?_) (fun k hk => ?_)).trans ?_
  · rw [zst_n hc, RM_c hc]
  · rw [zst_k (by omega), RM_k hk]
  · rw [zst_v, zst_k (by decide), zst_k (by decide), RM_f, RM_d]
theorem RM_sf {σ : Mm} {a f d v : Int32} : zst (RM σ a f d) 703 11 v = RM σ a v d := by
  refine (RM_ext (σ := σ) (fun c hc => ?_) (fun k hk => ?_)).trans ?_
  · rw [zst_n hc, RM_c hc]
  · rw [zst_k (by omega), RM_k hk]
  · rw [zst_v, zst_k (by decide), zst_k (by decide), RM_at, RM_d]
theorem RM_sd {σ : Mm} {a f d v : Int32} : zst (RM σ a f d) 703 12 v = RM σ a f v := by
  refine (RM_ext (σ := σ) (fun c hc => ?_) (fun k hk => ?_)).trans ?_
  · rw [zst_n hc, RM_c hc]
  · rw [zst_k (by omega), RM_k hk]
  · rw [zst_v, zst_k (by decide), zst_k (by decide), RM_at, RM_f]
theorem RT.rm {σ : Mm} {t : Nat → Int32} {n : Nat} (h : RT σ t n) (a f d : Int32) : RT (RM σ a f d) t n :=
  h.of (RM_k (by decide)) (RM_k (by decide)) (RM_k (by decide)) (RM_c (by decide)) (RM_c (by decide))
section
variable {σ : Mm} {t : Nat → Int32} {n p : Nat} {f d : Int32}
theorem r_lk (h : RT σ t n) (hpn : p ≤ n) : zfX12_look (RM σ (nI p) f d) = some (sg t n (skp t n p), RM σ (nI (skp t n p)) f d) := by
  rw [r_look (h.rm _ _ _) RM_at hpn, RM_sa]
theorem r_fails {a : Int32} : zfX12_fails (RM σ a f d) = some (0, RM σ a (if f = -1 then a else f) d) := by
  unfold zfX12_fails
  simp only [lt]
  rw [RM_f]
  by_cases hf : f = -1
  · rw [if_pos hf, if_pos hf, RM_at, RM_sf]
  · rw [if_neg hf, if_neg hf]
theorem r_takes {c : Int32} (h : RT σ t n) (hpn : p ≤ n) : zfX12_takes c (RM σ (nI p) (-1) d) =
    if sg t n (skp t n p) = c then some (1, RM σ (nI (skp t n p + 1)) (-1) d) else some (0, RM σ (nI (skp t n p)) (nI (skp t n p)) d) := by
  unfold zfX12_takes
  simp only [lt]
  rw [if_pos RM_f, r_lk h hpn]
  simp only [bd2]
  split
  · rw [RM_at, RM_sa, show nI (skp t n p) + 1 = nI (skp t n p + 1) from n_add _ 1]
  · rw [r_fails, if_pos rfl]; rfl
theorem r_takes_f {c a : Int32} (hf : f ≠ -1) : zfX12_takes c (RM σ a f d) = some (0, RM σ a f d) := by
  unfold zfX12_takes
  simp only [lt]
  rw [RM_f, if_neg hf, r_fails, if_neg hf]; rfl
/-- a digit stands at a place -/
abbrev isd (t : Nat → Int32) (n p : Nat) : Prop := p < n ∧ ¬ (t p < 48 ∨ 57 < t p)
theorem isd_iff (h : ∀ k, k < n → 0 ≤ (t k).toInt) : isd t n p ↔ ¬ (sg t n p < 48) ∧ ¬ (57 < sg t n p) := by
  unfold isd sg
  by_cases hp : p < n
  · simp only [hp, if_true, true_and, not_or]
  · simp only [hp, if_false, false_and, false_iff]
    decide
theorem r_isDigit (h : RT σ t n) (hat : σ 703 10 = nI p) (hpn : p ≤ n) : zfX12_isDigit σ = some (if isd t n p then 1 else 0) := by
  have hn := h.n
  unfold zfX12_isDigit
  simp only [lt]
  by_cases hp : p < n
  · rw [if_neg (by rw [hat, hn.1, n_le (by omega) (by omega)]; omega)]
    obtain ⟨v, v1, v2, v3, v4⟩ := h.get hp hat (fun w => if w < 48 then some (0 : Int32) else ck (zIsB (ix (σ 703 5))) (ck (inb ((σ 703 8) + (σ 703 10)) (zs (ix (σ 703 5))).2) (if 57 < (σ (ix (σ 703 5)) (ix ((σ 703 8) + (σ 703 10)))) then some 0 else some 1)))
    rw [v4]
    obtain ⟨w, w1, w2, w3, w4⟩ := h.get hp hat (fun w => if 57 < w then some 0 else some (1 : Int32))
    rw [w4]
    have a1 := tp_lo v1 v2 v3
    have a2 := tp_lo w1 w2 w3
    have e1 : (48 : Int32).toInt = 48 := by decide
    have e2 : (57 : Int32).toInt = 57 := by decide
    have hvw : v = w := by
      have := v1.trans w1.symm
      have := congrArg Int32.toInt this
      rw [and255, and255] at this
      rw [← Int32.toInt_inj]; omega
    subst hvw
    unfold isd
    simp only [hp, true_and]
    by_cases b1 : v < 48
    · rw [if_pos b1, if_neg (by rw [← a1]; simp [b1])]
    · rw [if_neg b1]
      by_cases b2 : 57 < v
      · rw [if_pos b2, if_neg (by rw [← a1]; simp [b2])]
      · rw [if_neg b2, if_pos (by rw [← a1]; simp [b1, b2])]
  · rw [if_pos (by rw [hat, hn.1, n_le (by omega) (by omega)]; omega), if_neg (fun q => hp q.1)]
end
/-! ===== the class's reader of rules: place p, wrong at w, the rule q's length l and code f ===== -/
def wr (σ : Mm) (c : Nat) (r : Nat → Int32) : Mm := fun a => if a = c then r else σ a
theorem wr_s {σ : Mm} {c : Nat} {r : Nat → Int32} : wr σ c r c = r := if_pos rfl
theorem wr_n {σ : Mm} {c a : Nat} {r : Nat → Int32} (h : a ≠ c) : wr σ c r a = σ a := if_neg h
def CM (σ : Mm) (q : Nat) (p w l : Int32) (f : Nat → Int32) : Mm := wr (zst (zst (zst σ 46 1 p) 46 2 w) q 2 l) (q + 1) f
section
variable {σ : Mm} {t : Nat → Int32} {n p q : Nat} {a w l : Int32} {f : Nat → Int32}
theorem CM_p (hq : zIsR q) : CM σ q a w l f 46 1 = a := by
  unfold CM; rw [wr_n (by unfold zIsR at hq; omega), zst_n (by unfold zIsR at hq; omega), zst_k (by decide), zst_v]
theorem CM_w (hq : zIsR q) : CM σ q a w l f 46 2 = w := by
  unfold CM; rw [wr_n (by unfold zIsR at hq; omega), zst_n (by unfold zIsR at hq; omega), zst_v]
theorem CM_46 (hq : zIsR q) {k : Nat} (h : k ≠ 1) (h2 : k ≠ 2) : CM σ q a w l f 46 k = σ 46 k := by
  unfold CM; rw [wr_n (by unfold zIsR at hq; omega), zst_n (by unfold zIsR at hq; omega), zst_k h2, zst_k h]
theorem CM_l (hq : zIsR q) : CM σ q a w l f q 2 = l := by
  unfold CM; rw [wr_n (by omega), zst_v]
theorem CM_q (hq : zIsR q) {k : Nat} (h : k ≠ 2) : CM σ q a w l f q k = σ q k := by
  unfold CM; rw [wr_n (by omega), zst_k h, zst_n (by unfold zIsR at hq; omega), zst_n (by unfold zIsR at hq; omega)]
theorem CM_f : CM σ q a w l f (q + 1) = f := wr_s
theorem CM_c {c : Nat} (h : c ≠ 46) (h2 : c ≠ q) (h3 : c ≠ q + 1) : CM σ q a w l f c = σ c := by
  unfold CM; rw [wr_n h3, zst_n h2, zst_n h, zst_n h]
theorem CM_ext {τ : Mm} (hq : zIsR q) (h1 : ∀ c, c ≠ 46 → c ≠ q → c ≠ q + 1 → τ c = σ c) (h2 : ∀ k, k ≠ 1 → k ≠ 2 → τ 46 k = σ 46 k) (h3 : ∀ k, k ≠ 2 → τ q k = σ q k) : τ = CM σ q (τ 46 1) (τ 46 2) (τ q 2) (τ (q + 1)) := by
  funext c
  by_cases e1 : c = q + 1
  · subst e1; rw [CM_f]
  · by_cases e2 : c = q
    · subst e2
      funext k
      by_cases e3 : k = 2
      · subst e3; rw [CM_l hq]
      · rw [CM_q hq e3, h3 k e3]
    · by_cases e4 : c = 46
      · subst e4
        funext k
        by_cases e5 : k = 1
        · subst e5; rw [CM_p hq]
        · by_cases e6 : k = 2
          · subst e6; rw [CM_w hq]
          · rw [CM_46 hq e5 e6, h2 k e5 e6]
      · rw [CM_c e4 e2 e1, h1 c e4 e2 e1]
theorem CM_sp (hq : zIsR q) {v : Int32} : zst (CM σ q a w l f) 46 1 v = CM σ q v w l f := by
  have hq' := hq
  unfold zIsR at hq'
  refine (CM_ext (σ := σ) hq (fun c h1 h2 h3 => ?_) (fun k h1 h2 => ?_) (fun k h => ?_)).trans ?_
  · rw [zst_n h1, CM_c h1 h2 h3]
  · rw [zst_k h1, CM_46 hq h1 h2]
  · rw [zst_n (by omega), CM_q hq h]
  · rw [zst_v, zst_k (by decide), zst_n (by omega), zst_n (by omega), CM_w hq, CM_l hq, CM_f]
theorem CM_sw (hq : zIsR q) {v : Int32} : zst (CM σ q a w l f) 46 2 v = CM σ q a v l f := by
  have hq' := hq
  unfold zIsR at hq'
  refine (CM_ext (σ := σ) hq (fun c h1 h2 h3 => ?_) (fun k h1 h2 => ?_) (fun k h => ?_)).trans ?_
  · rw [zst_n h1, CM_c h1 h2 h3]
  · rw [zst_k h2, CM_46 hq h1 h2]
  · rw [zst_n (by omega), CM_q hq h]
  · rw [zst_v, zst_k (by decide), zst_n (by omega), zst_n (by omega), CM_p hq, CM_l hq, CM_f]
theorem CM_sl (hq : zIsR q) {v : Int32} : zst (CM σ q a w l f) q 2 v = CM σ q a w v f := by
  have hq' := hq
  unfold zIsR at hq'
  refine (CM_ext (σ := σ) hq (fun c h1 h2 h3 => ?_) (fun k h1 h2 => ?_) (fun k h => ?_)).trans ?_
  · rw [zst_n h2, CM_c h1 h2 h3]
  · rw [zst_n (by omega), CM_46 hq h1 h2]
  · rw [zst_k h, CM_q hq h]
  · rw [zst_v, zst_n (by omega), zst_n (by omega), CM_p hq, CM_w hq, CM_f]
theorem CM_sc (hq : zIsR q) {k : Nat} {v : Int32} : zst (CM σ q a w l f) (q + 1) k v = CM σ q a w l (upd f k v) := by
  have hq' := hq
  unfold zIsR at hq'
  refine (CM_ext (σ := σ) hq (fun c h1 h2 h3 => ?_) (fun k h1 h2 => ?_) (fun k h => ?_)).trans ?_
  · rw [zst_n h3, CM_c h1 h2 h3]
  · rw [zst_n (by omega), CM_46 hq h1 h2]
  · rw [zst_n (by omega), CM_q hq h]
  · rw [zst_n (by omega), zst_n (by omega), zst_s, CM_p hq, CM_w hq, CM_l hq, CM_f]
theorem CT.cm (hq : zIsR q) (h : CT σ t n) : CT (CM σ q a w l f) t n := by
  unfold zIsR at hq
  exact h.of (CM_c (by decide) (by omega) (by omega)) (CM_c (by decide) (by omega) (by omega))
theorem c_sg (hq : zIsR q) (h : CT σ t n) (hpn : p ≤ n) : zfX3_sign_46 (CM σ q (nI p) w l f) = some (sg t n (skp t n p), CM σ q (nI (skp t n p)) w l f) := by
  rw [c_sign_46 (h.cm hq) (CM_p hq) hpn, CM_sp hq]
theorem c_wrong (hq : zIsR q) : zfX3_wrong_46 (CM σ q a w l f) = some (0, CM σ q a a l f) := by
  unfold zfX3_wrong_46
  simp only [lt]
  rw [CM_p hq, CM_sw hq]
theorem c_put (hq : zIsR q) (h3 : σ 46 3 = nI q) {m : Nat} (hm : m < 320) {v : Int32} : zfX5_put v (CM σ q a w (nI m) f) = some (1, CM σ q a w (nI (m + 1)) (upd f m v)) := by
  have hqb : q < 2147483648 := by unfold zIsR at hq; omega
  unfold zfX5_put zfX4_put
  simp only [lt]
  rw [CM_46 hq (by decide) (by decide), h3, n_ix hqb, ck_t hq, ck_t hq, CM_l hq, if_pos (by rw [show (320 : Int32) = nI 320 from rfl, n_lt (by omega) (by decide)]; exact hm), ck_t ((n_in (by omega)).mpr hm), n_ix (by omega), CM_sc hq, CM_l hq, CM_sl hq, show nI m + 1 = nI (m + 1) from n_add _ 1]
  rfl
theorem c_take (hq : zIsR q) (h : CT σ t n) (hpn : p ≤ n) {c : Int32} : zfX3_take_46 c (CM σ q (nI p) w l f) =
    if sg t n (skp t n p) = c then some (1, CM σ q (nI (skp t n p + 1)) w l f) else some (0, CM σ q (nI (skp t n p)) (nI (skp t n p)) l f) := by
  unfold zfX3_take_46
  rw [c_sg hq h hpn]
  simp only [bd2, lt]
  split
  · rw [CM_p hq, CM_sp hq, show nI (skp t n p) + 1 = nI (skp t n p + 1) from n_add _ 1]
  · rw [c_wrong hq]; rfl
end
/-! ===== numbers in a text ===== -/
/-- so many digits may still come from p on: the place where one too many stands, or the place behind them and the value -/
def num (t : Nat → Int32) (n : Nat) : Nat → Nat → Int32 → Except Nat (Nat × Int32)
  | r, p, v => if p < n ∧ ¬ (t p < 48 ∨ 57 < t p) then (match r with | 0 => .error p | r + 1 => num t n r (p + 1) (v * 10 + (t p - 48))) else .ok (p, v)
theorem num_ge {t : Nat → Int32} {n r p p' : Nat} {v v' : Int32} (hpn : p ≤ n) (h : num t n r p v = .ok (p', v')) : p ≤ p' ∧ p' ≤ n := by
  induction r generalizing p v with
  | zero =>
    unfold num at h
    split at h
    · cases h
    · cases h; exact ⟨Nat.le_refl _, hpn⟩
  | succ r ih =>
    unfold num at h
    split at h
    · rename_i hd
      have := ih (p := p + 1) (by omega) h
      omega
    · cases h; exact ⟨Nat.le_refl _, hpn⟩
theorem num_pos {t : Nat → Int32} {n r p p' : Nat} {v v' : Int32} (hd : p < n ∧ ¬ (t p < 48 ∨ 57 < t p)) (h : num t n (r + 1) p v = .ok (p', v')) : p < p' := by
  unfold num at h
  rw [if_pos hd] at h
  exact (num_ge (by omega) h).1
section
variable {σ : Mm} {t : Nat → Int32} {n p q : Nat} {w l : Int32} {f : Nat → Int32}
theorem sg_dig (ht : ∀ k, k < n → 0 ≤ (t k).toInt ∧ (t k).toInt < 256) : (¬ (sg t n p - 48 < 0) ∧ sg t n p - 48 ≤ 9) ↔ (p < n ∧ ¬ (t p < 48 ∨ 57 < t p)) := by
  unfold sg
  by_cases hp : p < n
  · rw [if_pos hp]
    have := ht p hp
    generalize t p = x at this ⊢
    have h1 : 0 ≤ x := by rw [Int32.le_iff_toInt_le]; exact this.1
    have h2 : x < 256 := by rw [Int32.lt_iff_toInt_lt]; exact this.2
    constructor
    · intro h; refine ⟨hp, ?_⟩; grind
    · intro h; grind
  · rw [if_neg hp]
    simp only [hp, false_and, iff_false]
    decide
theorem c_num {m : Nat} (hq : zIsR q) (h : CT σ t n) (ht : ∀ k, k < n → 0 ≤ (t k).toInt ∧ (t k).toInt < 256) (hpn : p < n) (hd : ¬ (t p < 48 ∨ 57 < t p)) (hm : m < 1000) (h0 : 0 < m) :
    zfX3_number_46 (nI m) (CM σ q (nI p) w l f) = match num t n m p 0 with
      | .error e => some (-1, CM σ q (nI e) (nI e) l f)
      | .ok (p', v) => some (v, CM σ q (nI p') w l f) := by
  have hn := h.2.1
  unfold zfX3_number_46
  have hNF : m < NF := by unfold NF; omega
  generalize NF = N at hNF ⊢
  simp only [lt_p]
  rw [CM_p hq]
  have key : ∀ r i p2 (v : Int32) fu, i + r = m → p2 ≤ n → p + i = p2 → r < fu →
      zfX3_number_46_L10 (nI m) (fun x3_87 σ87 => if (σ87 46 1) = nI p then some (-1, zst σ87 46 2 (σ87 46 1)) else some (x3_87, σ87)) (fun σ53 => some (-1, zst σ53 46 2 (σ53 46 1))) (fun x3_44 σ44 => if (σ44 46 1) = nI p then some (-1, zst σ44 46 2 (σ44 46 1)) else some (x3_44, σ44)) fu v (nI i) (CM σ q (nI p2) w l f) = match num t n r p2 v with
      | .error e => some (-1, CM σ q (nI e) (nI e) l f)
      | .ok (p', v) => some (v, CM σ q (nI p') w l f) := by
    intro r
    induction r with
    | zero =>
      intro i p2 v fu hi hp2 hpi hf
      obtain ⟨fu, rfl⟩ : ∃ g, fu = g + 1 := ⟨fu - 1, by omega⟩
      unfold zfX3_number_46_L10 num
      have e1 : i = m := by omega
      subst e1
      rw [if_neg (by rw [n_lt (by omega) (by omega)]; omega), CM_p hq, c_byteAt (h.cm hq) hp2, bd_some]
      simp only [lt_p]
      have hg := sg_dig (p := p2) ht
      by_cases hd2 : p2 < n ∧ ¬ (t p2 < 48 ∨ 57 < t p2)
      · obtain ⟨g1, g2⟩ := hg.mpr hd2
        rw [if_neg g1, if_pos g2, if_pos trivial, if_pos hd2, CM_sw hq]
      · rw [if_neg hd2]
        have hne : ¬ (nI p2 = nI p) := by rw [n_eq (by omega) (by omega)]; omega
        by_cases g1 : sg t n p2 - 48 < 0
        · rw [if_pos g1, if_neg hne]
        · rw [if_neg g1, if_neg (fun g2 => hd2 (hg.mp ⟨g1, g2⟩)), if_neg hne]
    | succ r ih =>
      intro i p2 v fu hi hp2 hpi hf
      obtain ⟨fu, rfl⟩ : ∃ g, fu = g + 1 := ⟨fu - 1, by omega⟩
      unfold zfX3_number_46_L10 num
      rw [if_neg (by rw [n_lt (by omega) (by omega)]; omega), CM_p hq, c_byteAt (h.cm hq) hp2, bd_some]
      simp only [lt_p]
      have hg := sg_dig (p := p2) ht
      by_cases hd2 : p2 < n ∧ ¬ (t p2 < 48 ∨ 57 < t p2)
      · obtain ⟨g1, g2⟩ := hg.mpr hd2
        rw [if_neg g1, if_pos g2, if_neg (by rw [n_eq (by omega) (by omega)]; omega), if_pos hd2, CM_sp hq, show nI p2 + 1 = nI (p2 + 1) from n_add _ 1, show nI i + 1 = nI (i + 1) from n_add _ 1, ih (i + 1) (p2 + 1) _ fu (by omega) (by omega) (by omega) (by omega)]
        rw [show sg t n p2 = t p2 from if_pos hd2.1]
      · rw [if_neg hd2]
        have hne : ¬ (nI p2 = nI p) := by
          rw [n_eq (by omega) (by omega)]
          intro e
          rw [e] at hd2
          exact hd2 ⟨hpn, hd⟩
        by_cases g1 : sg t n p2 - 48 < 0
        · rw [if_pos g1, if_neg hne]
        · rw [if_neg g1, if_neg (fun g2 => hd2 (hg.mp ⟨g1, g2⟩)), if_neg hne]
  exact key m 0 p 0 N (by omega) (by omega) (by omega) hNF
end
section
variable {σ : Mm} {t : Nat → Int32} {n p q : Nat} {f d : Int32}
theorem tp_dig {v w : Int32} (h : v &&& 255 = w) (h1 : -128 ≤ v.toInt) (h2 : v.toInt < 128) (hd : ¬ (w < 48 ∨ 57 < w)) : v = w := by
  have e := tp_lo h h1 h2
  have hd2 : ¬ (v < 48 ∨ 57 < v) := fun q => hd (e.mp q)
  rw [not_or, Int32.lt_iff_toInt_lt, Int32.lt_iff_toInt_lt] at hd2
  have e1 : (48 : Int32).toInt = 48 := by decide
  have e2 : (57 : Int32).toInt = 57 := by decide
  rw [← Int32.toInt_inj, ← h, and255]
  omega
theorem r_num (h : RT σ t n) {k156 : Int32 → Mm → Option (Int32 × Mm)} {k110 : Mm → Option (Int32 × Mm)} :
    ∀ r i p (v : Int32) fu, i + r = 4 → p ≤ n → r < fu → zfX12_atom_L90 k156 k110 fu v (nI i) (RM σ (nI p) (-1) d) = match num t n r p v with
      | .error e => k110 (RM σ (nI e) (-1) d)
      | .ok (p', v) => k156 v (RM σ (nI p') (-1) d) := by
  intro r
  induction r with
  | zero =>
    intro i p v fu hi hp hf
    obtain ⟨fu, rfl⟩ : ∃ g, fu = g + 1 := ⟨fu - 1, by omega⟩
    have e1 : i = 4 := by omega
    subst e1
    unfold zfX12_atom_L90 num
    rw [r_isDigit (h.rm _ _ _) RM_at hp (t := t), bd_some]
    unfold isd
    by_cases hd : p < n ∧ ¬ (t p < 48 ∨ 57 < t p)
    · rw [if_pos hd, if_pos hd, if_neg (by decide), if_pos RM_f, if_pos (by rfl)]
    · rw [if_neg hd, if_neg hd, if_pos rfl]
  | succ r ih =>
    intro i p v fu hi hp hf
    obtain ⟨fu, rfl⟩ : ∃ g, fu = g + 1 := ⟨fu - 1, by omega⟩
    unfold zfX12_atom_L90 num
    rw [r_isDigit (h.rm _ _ _) RM_at hp (t := t), bd_some]
    unfold isd
    by_cases hd : p < n ∧ ¬ (t p < 48 ∨ 57 < t p)
    · rw [if_pos hd, if_pos hd, if_neg (by decide), if_pos RM_f, if_neg (by rw [show (4 : Int32) = nI 4 from rfl, n_eq (by omega) (by omega)]; omega)]
      obtain ⟨w, w1, w2, w3, w4⟩ := (h.rm (nI p) (-1) d).get hd.1 RM_at (fun w => (lt (((10 * v) + w) - 48) (fun x2_139 => lt (zst (RM σ (nI p) (-1) d) 703 10 (((RM σ (nI p) (-1) d) 703 10) + 1)) (fun σ147 => lt (nI i + 1) (fun x3_150 => zfX12_atom_L90 k156 k110 fu x2_139 x3_150 σ147)))))
      rw [w4]
      simp only [lt_p]
      rw [RM_at, RM_sa, show nI p + 1 = nI (p + 1) from n_add _ 1, show nI i + 1 = nI (i + 1) from n_add _ 1, ih (i + 1) (p + 1) _ fu (by omega) (by omega) (by omega), tp_dig w1 w2 w3 hd.2, show 10 * v + t p - 48 = v * 10 + (t p - 48) by grind]
    · rw [if_neg hd, if_neg hd, if_pos rfl]
end
/-! ===== letters ===== -/
theorem nf7 : ∃ m, NF = m + 7 := ⟨19993, rfl⟩
/-- the letter k of a rule by its sign -/
def lett (k : Nat) : Int32 := [112, 103, 99, 100, 117, 119].getD k 0
def letN (x : Int32) : Option Nat := if x = 112 then some 0 else if x = 103 then some 1 else if x = 99 then some 2 else if x = 100 then some 3 else if x = 117 then some 4 else if x = 119 then some 5 else none
theorem c_let {k141 : Mm → Option (Int32 × Mm)} {r : Int32} {k115 : Int32 → Mm → Option (Int32 × Mm)} {σ : Mm} : zfX5_atom_L96 k141 r k115 NF 0 σ = match letN r with | some k => k115 (nI k) σ | none => k141 σ := by
  obtain ⟨m, hm⟩ := nf7
  rw [hm]
  unfold letN
  have g : ∀ i fu, i < 6 → zfX5_atom_L96 k141 r k115 (fu + 1) (nI i) σ = if lett i = r then k115 (nI i) σ else zfX5_atom_L96 k141 r k115 fu (nI (i + 1)) σ := by
    intro i fu hi
    conv => lhs; unfold zfX5_atom_L96
    rw [show zsl 1 = nI 6 from rfl, show zLen.getD 1 0 = 6 from rfl, if_neg (by rw [n_le (by decide) (by omega)]; omega), ck_t ((n_in (by omega)).mpr hi), n_ix (by omega), lt_p, show nI i + 1 = nI (i + 1) from n_add _ 1]
    have : zsc 1 i = lett i := by
      have : i = 0 ∨ i = 1 ∨ i = 2 ∨ i = 3 ∨ i = 4 ∨ i = 5 := by omega
      rcases this with rfl | rfl | rfl | rfl | rfl | rfl <;> decide
    rw [this]
  have g6 : zfX5_atom_L96 k141 r k115 (m + 1) (nI 6) σ = k141 σ := by
    unfold zfX5_atom_L96
    rw [show zsl 1 = nI 6 from rfl, if_pos (by decide)]
  rw [← n_0, show m + 7 = m + 6 + 1 from rfl, g 0 _ (by decide), show m + 6 = m + 5 + 1 from rfl, g 1 _ (by decide), show m + 5 = m + 4 + 1 from rfl, g 2 _ (by decide), show m + 4 = m + 3 + 1 from rfl, g 3 _ (by decide), show m + 3 = m + 2 + 1 from rfl, g 4 _ (by decide), show m + 2 = m + 1 + 1 from rfl, g 5 _ (by decide), g6]
  simp only [show lett 0 = 112 from rfl, show lett 1 = 103 from rfl, show lett 2 = 99 from rfl, show lett 3 = 100 from rfl, show lett 4 = 117 from rfl, show lett 5 = 119 from rfl]
  simp only [eq_comm (b := r)]
  repeat' split
  all_goals simp_all
theorem r_among {r : Int32} : zfX12_isAmong 1 r = some (if (letN r).isSome then 1 else 0) := by
  unfold zfX12_isAmong
  obtain ⟨m, hm⟩ := nf7
  rw [hm]
  simp only [lt_p]
  unfold letN
  generalize hk : (fun (_ : Unit) => some (1 : Int32)) = k19
  generalize hk2 : (fun (_ : Unit) => some (0 : Int32)) = k27
  have g : ∀ i fu, i < 6 → zfX12_isAmong_L2 1 k27 r k19 (fu + 1) (nI i) = if lett i = r then k19 () else zfX12_isAmong_L2 1 k27 r k19 fu (nI (i + 1)) := by
    intro i fu hi
    conv => lhs; unfold zfX12_isAmong_L2
    rw [show zsl 1 = nI 6 from rfl, show zLen.getD 1 0 = 6 from rfl, if_neg (by rw [n_le (by decide) (by omega)]; omega), ck_t ((n_in (by omega)).mpr hi), n_ix (by omega), lt_p, show nI i + 1 = nI (i + 1) from n_add _ 1]
    have : zsc 1 i = lett i := by
      have : i = 0 ∨ i = 1 ∨ i = 2 ∨ i = 3 ∨ i = 4 ∨ i = 5 := by omega
      rcases this with rfl | rfl | rfl | rfl | rfl | rfl <;> decide
    rw [this]
  have g6 : zfX12_isAmong_L2 1 k27 r k19 (m + 1) (nI 6) = k27 () := by
    unfold zfX12_isAmong_L2
    rw [show zsl 1 = nI 6 from rfl, if_pos (by decide)]
  rw [← n_0, show m + 7 = m + 6 + 1 from rfl, g 0 _ (by decide), show m + 6 = m + 5 + 1 from rfl, g 1 _ (by decide), show m + 5 = m + 4 + 1 from rfl, g 2 _ (by decide), show m + 4 = m + 3 + 1 from rfl, g 3 _ (by decide), show m + 3 = m + 2 + 1 from rfl, g 4 _ (by decide), show m + 2 = m + 1 + 1 from rfl, g 5 _ (by decide), g6]
  simp only [show lett 0 = 112 from rfl, show lett 1 = 103 from rfl, show lett 2 = 99 from rfl, show lett 3 = 100 from rfl, show lett 4 = 117 from rfl, show lett 5 = 119 from rfl, ← hk, ← hk2]
  simp only [eq_comm (b := r)]
  repeat' split
  all_goals simp_all [n_0]
