section ZW
variable {p : Program} {l : Launch} {e : Env} {R : Room} {s : State} {m : MethodId} {args : Array Value} {below : List Frame} {meth : Method} {c : Code} {H : Heap} {locs : List Loc} {cells slots : Nat} {Q : State → Prop}
variable {cc : ByteArray} {nL : Nat} {own : String} {D : va_G} {A0 : Nat} {σ : Mm} {G : Gm} {n : Nat} {pc : Nat} {ls : Array Slot} {rest : List Value}
/-- a field is read: an int -/
theorem zw_getI (F : zx p s m c cc nL args own D A0) (Z : zh D A0 σ G n s.heap H locs) {ci N idx : Nat} {C ref : String} {T : u_T} {ty : Nat → FieldType} (hC : zC ci C T N ty) {a k : Nat} (ha : a < n) (hs : zs a = (ci, N)) (hk : k < N) (h0 : zk ci k = 0)
    (hl : Cond.fieldLink own idx ref (T k).2.1 (T k).2.2.1 ∈ zTB) (hsame : (T k).1 = ref ∨ Cond.sameField ref (T k).1 (T k).2.1 (T k).2.2.1 ∈ zTB) (hd : decode cc pc = .ok (.getfield idx, 3))
    (kk : W p l e R s m args below meth c H locs cells slots Q (F0 m (pc + 3) ls (.int (σ a k) :: rest))) : W p l e R s m args below meth c H locs cells slots Q (F0 m pc ls (.ref (A0 + a) :: rest)) := by
  obtain ⟨⟨hx, hb, -, hown, hts⟩, hK, -⟩ := F
  refine va_get (C := C) (T := T) (N := N) (ci := ci) (v := .int (σ a k)) hx hb hts hC.2.2.1 hown hK Z.1 a (fs := (List.range N).map (zfv D A0 σ G ci a)) (by rw [zwl_get ha, zent_o hs hC.2.1]) hC.1 k hk (hts _ hl) (fun x h => ?_) ?_ hd kk
  · rcases hsame with q | q
    · rw [← q]; exact h
    · exact u_same (hts _ q) x h
  · rw [zfs_get hk, zfv, if_pos h0]
/-- a field is read: a long -/
theorem zw_getJ (F : zx p s m c cc nL args own D A0) (Z : zh D A0 σ G n s.heap H locs) {ci N idx : Nat} {C ref : String} {T : u_T} {ty : Nat → FieldType} (hC : zC ci C T N ty) {a k : Nat} (ha : a < n) (hs : zs a = (ci, N)) (hk : k < N) (h0 : zk ci k = 1)
    (hl : Cond.fieldLink own idx ref (T k).2.1 (T k).2.2.1 ∈ zTB) (hsame : (T k).1 = ref ∨ Cond.sameField ref (T k).1 (T k).2.1 (T k).2.2.1 ∈ zTB) (hd : decode cc pc = .ok (.getfield idx, 3))
    (kk : W p l e R s m args below meth c H locs cells slots Q (F0 m (pc + 3) ls (.long (zj (σ a k) (σ a (k + 200))) :: rest))) : W p l e R s m args below meth c H locs cells slots Q (F0 m pc ls (.ref (A0 + a) :: rest)) := by
  obtain ⟨⟨hx, hb, -, hown, hts⟩, hK, -⟩ := F
  refine va_get (C := C) (T := T) (N := N) (ci := ci) (v := .long (zj (σ a k) (σ a (k + 200)))) hx hb hts hC.2.2.1 hown hK Z.1 a (fs := (List.range N).map (zfv D A0 σ G ci a)) (by rw [zwl_get ha, zent_o hs hC.2.1]) hC.1 k hk (hts _ hl) (fun x h => ?_) ?_ hd kk
  · rcases hsame with q | q
    · rw [← q]; exact h
    · exact u_same (hts _ q) x h
  · rw [zfs_get hk, zfv, h0]; rfl
/-- a field is read: a link -/
theorem zw_getR (F : zx p s m c cc nL args own D A0) (Z : zh D A0 σ G n s.heap H locs) {ci N idx : Nat} {C ref : String} {T : u_T} {ty : Nat → FieldType} (hC : zC ci C T N ty) {a k b : Nat} (ha : a < n) (hs : zs a = (ci, N)) (hk : k < N) (h0 : zk ci k = 2) (hG : G a k = some b)
    (hl : Cond.fieldLink own idx ref (T k).2.1 (T k).2.2.1 ∈ zTB) (hsame : (T k).1 = ref ∨ Cond.sameField ref (T k).1 (T k).2.1 (T k).2.2.1 ∈ zTB) (hd : decode cc pc = .ok (.getfield idx, 3))
    (kk : W p l e R s m args below meth c H locs cells slots Q (F0 m (pc + 3) ls (.ref (A0 + b) :: rest))) : W p l e R s m args below meth c H locs cells slots Q (F0 m pc ls (.ref (A0 + a) :: rest)) := by
  obtain ⟨⟨hx, hb, -, hown, hts⟩, hK, -⟩ := F
  refine va_get (C := C) (T := T) (N := N) (ci := ci) (v := .ref (A0 + b)) hx hb hts hC.2.2.1 hown hK Z.1 a (fs := (List.range N).map (zfv D A0 σ G ci a)) (by rw [zwl_get ha, zent_o hs hC.2.1]) hC.1 k hk (hts _ hl) (fun x h => ?_) ?_ hd kk
  · rcases hsame with q | q
    · rw [← q]; exact h
    · exact u_same (hts _ q) x h
  · rw [zfs_get hk, zfv, h0, hG]; rfl
/-- a link that changes is read -/
theorem zw_getM (F : zx p s m c cc nL args own D A0) (Z : zh D A0 σ G n s.heap H locs) {ci N idx : Nat} {C ref : String} {T : u_T} {ty : Nat → FieldType} (hC : zC ci C T N ty) {a k : Nat} (ha : a < n) (hs : zs a = (ci, N)) (hk : k < N) (h0 : zk ci k = 3) (hG : ¬ σ a k = 0)
    (hl : Cond.fieldLink own idx ref (T k).2.1 (T k).2.2.1 ∈ zTB) (hsame : (T k).1 = ref ∨ Cond.sameField ref (T k).1 (T k).2.1 (T k).2.2.1 ∈ zTB) (hd : decode cc pc = .ok (.getfield idx, 3))
    (kk : W p l e R s m args below meth c H locs cells slots Q (F0 m (pc + 3) ls (.ref (A0 + ix (σ a k)) :: rest))) : W p l e R s m args below meth c H locs cells slots Q (F0 m pc ls (.ref (A0 + a) :: rest)) := by
  obtain ⟨⟨hx, hb, -, hown, hts⟩, hK, -⟩ := F
  refine va_get (C := C) (T := T) (N := N) (ci := ci) (v := .ref (A0 + ix (σ a k))) hx hb hts hC.2.2.1 hown hK Z.1 a (fs := (List.range N).map (zfv D A0 σ G ci a)) (by rw [zwl_get ha, zent_o hs hC.2.1]) hC.1 k hk (hts _ hl) (fun x h => ?_) ?_ hd kk
  · rcases hsame with q | q
    · rw [← q]; exact h
    · exact u_same (hts _ q) x h
  · rw [zfs_get hk, zfv, h0]
    show some (if σ a k = 0 then _ else _) = _
    rw [if_neg hG]
/-- what a store leaves -/
theorem zw_putv (F : zx p s m c cc nL args own D A0) (Z : zh D A0 σ G n s.heap H locs) {ci N idx : Nat} {C ref : String} {T : u_T} {ty : Nat → FieldType} (hC : zC ci C T N ty) {a k : Nat} {v : Value} {σ1 : Mm} {G1 : Gm} (ha : a < n) (hs : zs a = (ci, N)) (hk : k < N) (ho : ∀ b, b ≠ a → σ1 b = σ b ∧ G1 b = G b) (hv : v = zfv D A0 σ1 G1 ci a k) (hj : ∀ j, j ≠ k → j < N → zfv D A0 σ1 G1 ci a j = zfv D A0 σ G ci a j)
    (hl : Cond.fieldLink own idx ref (T k).2.1 (T k).2.2.1 ∈ zTB) (hsame : (T k).1 = ref ∨ Cond.sameField ref (T k).1 (T k).2.1 (T k).2.2.1 ∈ zTB) (hfin : (T k).2.2.2 = false ∨ ((T k).2.2.2 = true ∧ meth.name = "<init>" ∧ (T k).1 = own)) (hn : narrow (ty k) v = v) (hfit : fits (ty k) v = true) (hd : decode cc pc = .ok (.putfield idx, 3))
    (kk : ∀ (H1 : Heap) (locs1 : List Loc), zh D A0 σ1 G1 n s.heap H1 locs1 → W p l e R s m args below meth c H1 locs1 cells slots Q (F0 m (pc + 3) ls rest)) : W p l e R s m args below meth c H locs cells slots Q (F0 m pc ls (v :: .ref (A0 + a) :: rest)) := by
  obtain ⟨⟨hx, hb, -, hown, hts⟩, hK, -⟩ := F
  have hg : (zwl D A0 σ G n)[a]? = some (A0 + a, .inr (ci, (List.range N).map (zfv D A0 σ G ci a))) := by rw [zwl_get ha, zent_o hs hC.2.1]
  have hsm : ∀ x, s.fieldFound? (T k).1 (T k).2.1 (T k).2.2.1 = some x → s.fieldFound? ref (T k).2.1 (T k).2.2.1 = some x := fun x h => by
    rcases hsame with q | q
    · rw [← q]; exact h
    · exact u_same (hts _ q) x h
  have hset : (zwl D A0 σ G n).set a (A0 + a, .inr (ci, ((List.range N).map (zfv D A0 σ G ci a)).set k v)) = zwl D A0 σ1 G1 n := by
    refine zwl_set ha ho ?_
    rw [zent_o hs hC.2.1]
    congr 2
    apply List.ext_getElem?
    intro j
    by_cases hjN : j < N
    · rw [zfs_get hjN]
      by_cases hjk : j = k
      · subst hjk
        rw [List.getElem?_set_self (by simpa using hk), hv]
      · rw [List.getElem?_set_ne (Ne.symm hjk), zfs_get hjN, hj j hjk hjN]
    · rw [List.getElem?_eq_none (by simp; omega), List.getElem?_eq_none (by simp; omega)]
  have kk' : ∀ (H1 : Heap) (locs1 : List Loc), va_P D vwCl ((zwl D A0 σ G n).set a (A0 + a, .inr (ci, ((List.range N).map (zfv D A0 σ G ci a)).set k v))) H1 → va_D (zA A0) ((zwl D A0 σ G n).set a (A0 + a, .inr (ci, ((List.range N).map (zfv D A0 σ G ci a)).set k v))) → va_S (zA A0) s.heap H1 locs1 → W p l e R s m args below meth c H1 locs1 cells slots Q (F0 m (pc + 3) ls rest) := fun H1 locs1 hP _ hS => kk H1 locs1 ⟨by rw [← hset]; exact hP, hS⟩
  rcases hfin with hf | ⟨hf, hi, hdc⟩
  · exact va_put (C := C) (T := T) (N := N) (ci := ci) (ty := ty k) hx hb hts hC.2.2.1 ty hC.2.2.2.1 hC.2.2.2.2 hown hK Z.1 zwl_D Z.2 a hg hC.1 k hk (hts _ hl) hsm hf (hC.2.2.2.1 k hk) hn hfit (by simpa using hk) hd kk'
  · exact va_putF (C := C) (T := T) (N := N) (ci := ci) (ty := ty k) hx hb hts hC.2.2.1 ty hC.2.2.2.1 hC.2.2.2.2 hown hK Z.1 zwl_D Z.2 a hg hC.1 k hk (hts _ hl) hsm hf hi hdc (hC.2.2.2.1 k hk) hn hfit (by simpa using hk) hd kk'
theorem zfv_ho {D : va_G} {A0 : Nat} {σ : Mm} {G : Gm} {ci a k : Nat} {v : Int32} (j : Nat) (hj : j ≠ k) (hk : ¬ zk ci j = 1 ∨ j + 200 ≠ k) : zfv D A0 (zst σ a k v) G ci a j = zfv D A0 σ G ci a j := by
  have h1 : zst σ a k v a j = σ a j := by rw [zst_s]; exact pk_un hj
  have h2 : zk ci j = 1 → zst σ a k v a (j + 200) = σ a (j + 200) := fun q => by rw [zst_s]; exact pk_un (by rcases hk with h | h; exact absurd q h; exact h)
  unfold zfv
  rw [h1]
  by_cases q : zk ci j = 1
  · rw [h2 q]
  · rw [if_neg q, if_neg q]
/-- a field is written: an int -/
theorem zw_putI (F : zx p s m c cc nL args own D A0) (Z : zh D A0 σ G n s.heap H locs) {ci N idx : Nat} {C ref : String} {T : u_T} {ty : Nat → FieldType} (hC : zC ci C T N ty) {a k : Nat} {v : Int32} (ha : a < n) (hs : zs a = (ci, N)) (hk : k < N) (h0 : zk ci k = 0) (hk2 : k < 200)
    (hl : Cond.fieldLink own idx ref (T k).2.1 (T k).2.2.1 ∈ zTB) (hsame : (T k).1 = ref ∨ Cond.sameField ref (T k).1 (T k).2.1 (T k).2.2.1 ∈ zTB) (hfin : (T k).2.2.2 = false) (hn : narrow (ty k) (.int v) = .int v ∧ fits (ty k) (.int v) = true) (hd : decode cc pc = .ok (.putfield idx, 3))
    (kk : ∀ (σ1 : Mm) (H1 : Heap) (locs1 : List Loc), σ1 = zst σ a k v → zh D A0 σ1 G n s.heap H1 locs1 → W p l e R s m args below meth c H1 locs1 cells slots Q (F0 m (pc + 3) ls rest)) : W p l e R s m args below meth c H locs cells slots Q (F0 m pc ls (.int v :: .ref (A0 + a) :: rest)) :=
  zw_putv F Z hC (σ1 := zst σ a k v) (G1 := G) ha hs hk (fun b hb => ⟨zst_n hb, rfl⟩) (by rw [zfv, if_pos h0, zst_s, pk_us]) (fun j hj _ => zfv_ho j hj (Or.inr (by omega))) hl hsame (Or.inl hfin) hn.1 hn.2 hd (fun H1 locs1 Z1 => kk _ H1 locs1 rfl Z1)
/-- a field is written: a long -/
theorem zw_putJ (F : zx p s m c cc nL args own D A0) (Z : zh D A0 σ G n s.heap H locs) {ci N idx : Nat} {C ref : String} {T : u_T} {ty : Nat → FieldType} (hC : zC ci C T N ty) {a k : Nat} {v : Int64} (ha : a < n) (hs : zs a = (ci, N)) (hk : k < N) (h0 : zk ci k = 1) (hN : N < 200)
    (hl : Cond.fieldLink own idx ref (T k).2.1 (T k).2.2.1 ∈ zTB) (hsame : (T k).1 = ref ∨ Cond.sameField ref (T k).1 (T k).2.1 (T k).2.2.1 ∈ zTB) (hfin : (T k).2.2.2 = false) (hn : narrow (ty k) (.long v) = .long v ∧ fits (ty k) (.long v) = true) (hd : decode cc pc = .ok (.putfield idx, 3))
    (kk : ∀ (σ1 : Mm) (H1 : Heap) (locs1 : List Loc), σ1 = zstL σ a k v → zh D A0 σ1 G n s.heap H1 locs1 → W p l e R s m args below meth c H1 locs1 cells slots Q (F0 m (pc + 3) ls rest)) : W p l e R s m args below meth c H locs cells slots Q (F0 m pc ls (.long v :: .ref (A0 + a) :: rest)) :=
  zw_putv F Z hC (σ1 := zstL σ a k v) (G1 := G) ha hs hk (fun b hb => ⟨by unfold zstL; rw [zst_n hb, zst_n hb], rfl⟩)
    (by
      rw [zfv, h0]
      unfold zstL
      rw [zst_s, pk_us, pk_un (by omega), zst_s, pk_us, zj_eq]
      rfl)
    (fun j hj hjN => by
      unfold zstL
      rw [zfv_ho j (by omega) (Or.inr (by omega)), zfv_ho j hj (Or.inr (by omega))]) hl hsame (Or.inl hfin) hn.1 hn.2 hd (fun H1 locs1 Z1 => kk _ H1 locs1 rfl Z1)
/-- a link that changes is written -/
theorem zw_putM (F : zx p s m c cc nL args own D A0) (Z : zh D A0 σ G n s.heap H locs) {ci N idx : Nat} {C ref : String} {T : u_T} {ty : Nat → FieldType} (hC : zC ci C T N ty) {a k b : Nat} (ha : a < n) (hs : zs a = (ci, N)) (hk : k < N) (h0 : zk ci k = 3) (hk2 : k < 200) (hb0 : 0 < b) (hb1 : b < 1000)
    (hl : Cond.fieldLink own idx ref (T k).2.1 (T k).2.2.1 ∈ zTB) (hsame : (T k).1 = ref ∨ Cond.sameField ref (T k).1 (T k).2.1 (T k).2.2.1 ∈ zTB) (hfin : (T k).2.2.2 = false) (hn : ∀ q, narrow (ty k) (.ref q) = .ref q ∧ fits (ty k) (.ref q) = true) (hd : decode cc pc = .ok (.putfield idx, 3))
    (kk : ∀ (σ1 : Mm) (H1 : Heap) (locs1 : List Loc), σ1 = zst σ a k (nI b) → zh D A0 σ1 G n s.heap H1 locs1 → W p l e R s m args below meth c H1 locs1 cells slots Q (F0 m (pc + 3) ls rest)) : W p l e R s m args below meth c H locs cells slots Q (F0 m pc ls (.ref (A0 + b) :: .ref (A0 + a) :: rest)) :=
  zw_putv F Z hC (σ1 := zst σ a k (nI b)) (G1 := G) ha hs hk (fun b hb => ⟨zst_n hb, rfl⟩)
    (by
      rw [zfv, h0, zst_s, pk_us, ix, nI_clamp (by omega)]
      show _ = if nI b = 0 then _ else _
      rw [if_neg (nI_ne0 hb0 (by omega))])
    (fun j hj _ => zfv_ho j hj (Or.inr (by omega))) hl hsame (Or.inl hfin) (hn _).1 (hn _).2 hd (fun H1 locs1 Z1 => kk _ H1 locs1 rfl Z1)
/-- a place of a row is read -/
theorem zw_iald (F : zx p s m c cc nL args own D A0) (Z : zh D A0 σ G n s.heap H locs) {a N : Nat} {i : Int32} (ha : a < n) (hs : zs a = (50, N)) (hin : inb i N) (hd : decode cc pc = .ok (.iaload, 1))
    (kk : W p l e R s m args below meth c H locs cells slots Q (F0 m (pc + 1) ls (.int (σ a (ix i)) :: rest))) : W p l e R s m args below meth c H locs cells slots Q (F0 m pc ls (.int i :: .ref (A0 + a) :: rest)) :=
  va_iald (tys := zTY D) F.1.1 F.1.2.1 F.2.1 Z.1 a 0 (by rw [zwl_get ha, zent_i hs (by decide) (by decide)]) rfl (inb_vp hin) hd kk
theorem zw_zald (F : zx p s m c cc nL args own D A0) (Z : zh D A0 σ G n s.heap H locs) {a N : Nat} {i : Int32} (ha : a < n) (hs : zs a = (51, N)) (hin : inb i N) (hd : decode cc pc = .ok (.baload, 1))
    (kk : W p l e R s m args below meth c H locs cells slots Q (F0 m (pc + 1) ls (.int (σ a (ix i)) :: rest))) : W p l e R s m args below meth c H locs cells slots Q (F0 m pc ls (.int i :: .ref (A0 + a) :: rest)) :=
  va_zald (tys := zTY D) F.1.1 F.1.2.1 F.2.1 Z.1 a 1 (by rw [zwl_get ha, zent_i hs (by decide) (by decide)]) rfl (inb_vp hin) hd kk
theorem zw_bald (F : zx p s m c cc nL args own D A0) (Z : zh D A0 σ G n s.heap H locs) {a N : Nat} {i : Int32} (ha : a < n) (hs : zs a = (52, N)) (hin : inb i N) (hd : decode cc pc = .ok (.baload, 1))
    (kk : W p l e R s m args below meth c H locs cells slots Q (F0 m (pc + 1) ls (.int (σ a (ix i)) :: rest))) : W p l e R s m args below meth c H locs cells slots Q (F0 m pc ls (.int i :: .ref (A0 + a) :: rest)) :=
  va_bald (tys := zTY D) F.1.1 F.1.2.1 F.2.1 Z.1 a 2 (by rw [zwl_get ha, zent_i hs (by decide) (by decide)]) rfl (inb_vp hin) hd kk
theorem zw_lald (F : zx p s m c cc nL args own D A0) (Z : zh D A0 σ G n s.heap H locs) {a N : Nat} {i : Int32} (ha : a < n) (hs : zs a = (53, N)) (hin : inb i N) (hd : decode cc pc = .ok (.laload, 1))
    (kk : W p l e R s m args below meth c H locs cells slots Q (F0 m (pc + 1) ls (.long (zj (σ a (ix i)) (σ a (ix i + 200))) :: rest))) : W p l e R s m args below meth c H locs cells slots Q (F0 m pc ls (.int i :: .ref (A0 + a) :: rest)) :=
  va_lald (tys := zTY D) F.1.1 F.1.2.1 F.2.1 Z.1 a 3 (f := fun j => zj (σ a j) (σ a (j + 200))) (by rw [zwl_get ha, zent_l hs]) rfl (inb_vp hin) hd kk
/-- a link of a row is read -/
theorem zw_aald (F : zx p s m c cc nL args own D A0) (Z : zh D A0 σ G n s.heap H locs) {a N ty b : Nat} {i : Int32} {C : String} (ha : a < n) (hs : zs a = (50 + ty, N)) (hty : 4 ≤ ty) (ht : (zTY D)[ty]? = some (D.1 (50 + ty), .object C)) (hin : inb i N) (hG : G a (ix i) = some b) (hd : decode cc pc = .ok (.aaload, 1))
    (kk : W p l e R s m args below meth c H locs cells slots Q (F0 m (pc + 1) ls (.ref (A0 + b) :: rest))) : W p l e R s m args below meth c H locs cells slots Q (F0 m pc ls (.int i :: .ref (A0 + a) :: rest)) :=
  va_aldq (tys := zTY D) F.1.1 F.1.2.1 F.2.1 Z.1 a ty (f := fun j => (G a j).map (fun b => A0 + b)) (by rw [zwl_get ha, zent_q hs (by omega)]) ht (inb_vp hin) hd (by show W _ _ _ _ _ _ _ _ _ _ _ _ _ _ _ (F0 m (pc + 1) ls (va_rf ((G a (ix i)).map (fun b => A0 + b)) :: rest)); rw [hG]; exact kk)
theorem zwl_ast {a ci N i : Nat} {v : Int32} (ha : a < n) (hs : zs a = (ci, N)) (h1 : 50 ≤ ci) (h2 : ci < 53) : (zwl D A0 σ G n).set a (A0 + a, .inl (D.1 ci, N, .inl (upd (σ a) i v))) = zwl D A0 (zst σ a i v) G n :=
  zwl_set ha (fun b hb => ⟨zst_n hb, rfl⟩) (by rw [zent_i hs h1 h2, zst_s])
/-- a place of a row is written -/
theorem zw_iast (F : zx p s m c cc nL args own D A0) (Z : zh D A0 σ G n s.heap H locs) {a N : Nat} {i v : Int32} (ha : a < n) (hs : zs a = (50, N)) (hin : inb i N) (hd : decode cc pc = .ok (.iastore, 1))
    (kk : ∀ (σ1 : Mm) (H1 : Heap) (locs1 : List Loc), σ1 = zst σ a (ix i) v → zh D A0 σ1 G n s.heap H1 locs1 → W p l e R s m args below meth c H1 locs1 cells slots Q (F0 m (pc + 1) ls rest)) : W p l e R s m args below meth c H locs cells slots Q (F0 m pc ls (.int v :: .int i :: .ref (A0 + a) :: rest)) :=
  va_iast (tys := zTY D) F.1.1 F.1.2.1 F.2.1 Z.1 zwl_D Z.2 a 0 (f := σ a) (by rw [zwl_get ha, zent_i hs (by decide) (by decide)]) rfl (inb_vp hin) hd (fun H1 locs1 hP _ hS => kk _ H1 locs1 rfl ⟨by rw [← zwl_ast ha hs (by decide) (by decide)]; exact hP, hS⟩)
theorem zw_zast (F : zx p s m c cc nL args own D A0) (Z : zh D A0 σ G n s.heap H locs) {a N : Nat} {i v : Int32} (ha : a < n) (hs : zs a = (51, N)) (hin : inb i N) (hd : decode cc pc = .ok (.bastore, 1))
    (kk : ∀ (σ1 : Mm) (H1 : Heap) (locs1 : List Loc), σ1 = zst σ a (ix i) (vp_nar .boolean v) → zh D A0 σ1 G n s.heap H1 locs1 → W p l e R s m args below meth c H1 locs1 cells slots Q (F0 m (pc + 1) ls rest)) : W p l e R s m args below meth c H locs cells slots Q (F0 m pc ls (.int v :: .int i :: .ref (A0 + a) :: rest)) :=
  va_zast (tys := zTY D) F.1.1 F.1.2.1 F.2.1 Z.1 zwl_D Z.2 a 1 (f := σ a) (by rw [zwl_get ha, zent_i hs (by decide) (by decide)]) rfl (inb_vp hin) hd (fun H1 locs1 hP _ hS => kk _ H1 locs1 rfl ⟨by rw [← zwl_ast ha hs (by decide) (by decide)]; exact hP, hS⟩)
theorem zw_bast (F : zx p s m c cc nL args own D A0) (Z : zh D A0 σ G n s.heap H locs) {a N : Nat} {i v : Int32} (ha : a < n) (hs : zs a = (52, N)) (hin : inb i N) (hd : decode cc pc = .ok (.bastore, 1))
    (kk : ∀ (σ1 : Mm) (H1 : Heap) (locs1 : List Loc), σ1 = zst σ a (ix i) (vp_nar .byte v) → zh D A0 σ1 G n s.heap H1 locs1 → W p l e R s m args below meth c H1 locs1 cells slots Q (F0 m (pc + 1) ls rest)) : W p l e R s m args below meth c H locs cells slots Q (F0 m pc ls (.int v :: .int i :: .ref (A0 + a) :: rest)) :=
  va_bast (tys := zTY D) F.1.1 F.1.2.1 F.2.1 Z.1 zwl_D Z.2 a 2 (f := σ a) (by rw [zwl_get ha, zent_i hs (by decide) (by decide)]) rfl (inb_vp hin) hd (fun H1 locs1 hP _ hS => kk _ H1 locs1 rfl ⟨by rw [← zwl_ast ha hs (by decide) (by decide)]; exact hP, hS⟩)
/-- a row's length -/
theorem zw_alen (F : zx p s m c cc nL args own D A0) (Z : zh D A0 σ G n s.heap H locs) {a ty N : Nat} {ft : FieldType} {v : Int32} (ha : a < n) (hs : zs a = (50 + ty, N)) (ht : (zTY D)[ty]? = some (D.1 (50 + ty), ft)) (hv : Int32.ofNat N = v) (hd : decode cc pc = .ok (.arraylength, 1))
    (kk : W p l e R s m args below meth c H locs cells slots Q (F0 m (pc + 1) ls (.int v :: rest))) : W p l e R s m args below meth c H locs cells slots Q (F0 m pc ls (.ref (A0 + a) :: rest)) := by
  have e : ∃ x : vp_A, x.1 = N ∧ zent D A0 σ G a = .inl (D.1 (50 + ty), x) := by
    by_cases h3 : ty < 3
    · exact ⟨_, rfl, zent_i hs (by omega) (by omega)⟩
    · by_cases h4 : ty = 3
      · subst h4; exact ⟨_, rfl, zent_l hs⟩
      · exact ⟨_, rfl, zent_q hs (by omega)⟩
  obtain ⟨x, hx, he⟩ := e
  exact va_alen (tys := zTY D) F.1.1 F.1.2.1 F.2.1 Z.1 a ty (by rw [zwl_get ha, he]) ht (by rw [hx]; exact hv) hd kk
end ZW
