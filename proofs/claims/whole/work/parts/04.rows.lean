section ZW
variable {p : Program} {l : Launch} {e : Env} {R : Room} {s : State} {m : MethodId} {args : Array Value} {below : List Frame} {meth : Method} {c : Code} {H : Heap} {locs : List Loc} {cells slots : Nat} {Q : State → Prop}
variable {cc : ByteArray} {nL : Nat} {own : String} {D : va_G} {A0 : Nat} {σ : Mm} {G : Gm} {n : Nat} {pc : Nat} {ls : Array Slot} {rest : List Value}
/-- a field is read: an int -/
theorem zw_getI (F : zx p s m c cc nL args own D A0) (Z : zh D A0 σ G n s.heap H locs) {ci N idx : Nat} {C ref : String} {T : u_T} {ty : Nat → FieldType} (hC : zC ci C T N ty) {a k : Nat} (ha : a < n) (hs : zs a = (ci, N)) (hk : k < N) (h0 : zk ci k = 0)
    (hl : Cond.fieldLink own idx ref (T k).2.1 (T k).2.2.1 ∈ zTB) (hsame : (T k).1 = ref ∨ Cond.sameField ref (T k).1 (T k).2.1 (T k).2.2.1 ∈ zTB) (hd : decode cc pc = .ok (.getfield idx, 3))
    (kk : W p l e R s m args below meth c H locs cells slots Q (F0 m (pc + 3) ls (.int (σ a k) :: rest))) : W p l e R s m args below meth c H locs cells slots Q (F0 m pc ls (.ref (A0 + a) :: rest)) := by
  obtain ⟨⟨hx, hb, -, hown, hts⟩, hK, -⟩ := F
  refine va_get (C := C) (T := T) (N := N) (ci := ci) (v := .int (σ a k)) hx hb hts hC.2.2.1 hown hK Z.1 a (fs := (List.range N).map (zfv D A0 σ G ci a)) (by rw [zwl_get ha, zent_o hs hC.2.1]) hC.1 k hk (hts _ hl) (fun x h => ?_) ?_ hd kk
  · rcases hsame with q | q
    · rw [← q]; exact h
    · exact u_same (hts _ q) x h
  · rw [zfs_get hk, zfv, if_pos h0]
/-- a field is read: a long -/
theorem zw_getJ (F : zx p s m c cc nL args own D A0) (Z : zh D A0 σ G n s.heap H locs) {ci N idx : Nat} {C ref : String} {T : u_T} {ty : Nat → FieldType} (hC : zC ci C T N ty) {a k : Nat} (ha : a < n) (hs : zs a = (ci, N)) (hk : k < N) (h0 : zk ci k = 1)
    (hl : Cond.fieldLink own idx ref (T k).2.1 (T k).2.2.1 ∈ zTB) (hsame : (T k).1 = ref ∨ Cond.sameField ref (T k).1 (T k).2.1 (T k).2.2.1 ∈ zTB) (hd : decode cc pc = .ok (.getfield idx, 3))
    (kk : W p l e R s m args below meth c H locs cells slots Q (F0 m (pc + 3) ls (.long (zj (σ a k) (σ a (k + 200))) :: rest))) : W p l e R s m args below meth c H locs cells slots Q (F0 m pc ls (.ref (A0 + a) :: rest)) := by
  obtain ⟨⟨hx, hb, -, hown, hts⟩, hK, -⟩ := F
  refine va_get (C := C) (T := T) (N := N) (ci := ci) (v := .long (zj (σ a k) (σ a (k + 200)))) hx hb hts hC.2.2.1 hown hK Z.1 a (fs := (List.range N).map (zfv D A0 σ G ci a)) (by rw [zwl_get ha, zent_o hs hC.2.1]) hC.1 k hk (hts _ hl) (fun x h => ?_) ?_ hd kk
  · rcases hsame with q | q
    · rw [← q]; exact h
    · exact u_same (hts _ q) x h
  · rw [zfs_get hk, zfv, h0]; rfl
/-- a field is read: a link -/
theorem zw_getR (F : zx p s m c cc nL args own D A0) (Z : zh D A0 σ G n s.heap H locs) {ci N idx : Nat} {C ref : String} {T : u_T} {ty : Nat → FieldType} (hC : zC ci C T N ty) {a k b : Nat} (ha : a < n) (hs : zs a = (ci, N)) (hk : k < N) (h0 : zk ci k = 2) (hG : G a k = some b)
    (hl : Cond.fieldLink own idx ref (T k).2.1 (T k).2.2.1 ∈ zTB) (hsame : (T k).1 = ref ∨ Cond.sameField ref (T k).1 (T k).2.1 (T k).2.2.1 ∈ zTB) (hd : decode cc pc = .ok (.getfield idx, 3))
    (kk : W p l e R s m args below meth c H locs cells slots Q (F0 m (pc + 3) ls (.ref (A0 + b) :: rest))) : W p l e R s m args below meth c H locs cells slots Q (F0 m pc ls (.ref (A0 + a) :: rest)) := by
  obtain ⟨⟨hx, hb, -, hown, hts⟩, hK, -⟩ := F
  refine va_get (C := C) (T := T) (N := N) (ci := ci) (v := .ref (A0 + b)) hx hb hts hC.2.2.1 hown hK Z.1 a (fs := (List.range N).map (zfv D A0 σ G ci a)) (by rw [zwl_get ha, zent_o hs hC.2.1]) hC.1 k hk (hts _ hl) (fun x h => ?_) ?_ hd kk
  · rcases hsame with q | q
    · rw [← q]; exact h
    · exact u_same (hts _ q) x h
  · rw [zfs_get hk, zfv, h0, hG]; rfl
/-- a link that changes is read -/
theorem zw_getM (F : zx p s m c cc nL args own D A0) (Z : zh D A0 σ G n s.heap H locs) {ci N idx : Nat} {C ref : String} {T : u_T} {ty : Nat → FieldType} (hC : zC ci C T N ty) {a k : Nat} (ha : a < n) (hs : zs a = (ci, N)) (hk : k < N) (h0 : zk ci k = 3) (hG : ¬ σ a k = 0)
    (hl : Cond.fieldLink own idx ref (T k).2.1 (T k).2.2.1 ∈ zTB) (hsame : (T k).1 = ref ∨ Cond.sameField ref (T k).1 (T k).2.1 (T k).2.2.1 ∈ zTB) (hd : decode cc pc = .ok (.getfield idx, 3))
    (kk : W p l e R s m args below meth c H locs cells slots Q (F0 m (pc + 3) ls (.ref (A0 + ix (σ a k)) :: rest))) : W p l e R s m args below meth c H locs cells slots Q (F0 m pc ls (.ref (A0 + a) :: rest)) := by
  obtain ⟨⟨hx, hb, -, hown, hts⟩, hK, -⟩ := F
  refine va_get (C := C) (T := T) (N := N) (ci := ci) (v := .ref (A0 + ix (σ a k))) hx hb hts hC.2.2.1 hown hK Z.1 a (fs := (List.range N).map (zfv D A0 σ G ci a)) (by rw [zwl_get ha, zent_o hs hC.2.1]) hC.1 k hk (hts _ hl) (fun x h => ?_) ?_ hd kk
  · rcases hsame with q | q
    · rw [← q]; exact h
    · exact u_same (hts _ q) x h
  · rw [zfs_get hk, zfv, h0]
    show some (if σ a k = 0 then _ else _) = _
    rw [if_neg hG]
/-- what a store leaves -/
theorem zw_putv (F : zx p s m c cc nL args own D A0) (Z : zh D A0 σ G n s.heap H locs) {ci N idx : Nat} {C ref : String} {T : u_T} {ty : Nat → FieldType} (hC : zC ci C T N ty) {a k : Nat} {v : Value} {σ1 : Mm} {G1 : Gm} (ha : a < n) (hs : zs a = (ci, N)) (hk : k < N) (ho : ∀ b, b ≠ a → σ1 b = σ b ∧ G1 b = G b) (hv : v = zfv D A0 σ1 G1 ci a k) (hj : ∀ j, j ≠ k → j < N → zfv D A0 σ1 G1 ci a j = zfv D A0 σ G ci a j)
    (hl : Cond.fieldLink own idx ref (T k).2.1 (T k).2.2.1 ∈ zTB) (hsame : (T k).1 = ref ∨ Cond.sameField ref (T k).1 (T k).2.1 (T k).2.2.1 ∈ zTB) (hfin : (T k).2.2.2 = false ∨ ((T k).2.2.2 = true ∧ meth.name = "<init>" ∧ (T k).1 = own)) (hn : narrow (ty k) v = v) (hfit : fits (ty k) v = true) (hd : decode cc pc = .ok (.putfield idx, 3))
    (kk : ∀ (H1 : Heap) (locs1 : List Loc), zh D A0 σ1 G1 n s.heap H1 locs1 → W p l e R s m args below meth c H1 locs1 cells slots Q (F0 m (pc + 3) ls rest)) : W p l e R s m args below meth c H locs cells slots Q (F0 m pc ls (v :: .ref (A0 + a) :: rest)) := by
  obtain ⟨⟨hx, hb, -, hown, hts⟩, hK, -⟩ := F
  have hg : (zwl D A0 σ G n)[a]? = some (A0 + a, .inr (ci, (List.range N).map (zfv D A0 σ G ci a))) := by rw [zwl_get ha, zent_o hs hC.2.1]
  have hsm : ∀ x, s.fieldFound? (T k).1 (T k).2.1 (T k).2.2.1 = some x → s.fieldFound? ref (T k).2.1 (T k).2.2.1 = some x := fun x h => by
    rcases hsame with q | q
    · rw [← q]; exact h
    · exact u_same (hts _ q) x h
  have hset : (zwl D A0 σ G n).set a (A0 + a, .inr (ci, ((List.range N).map (zfv D A0 σ G ci a)).set k v)) = zwl D A0 σ1 G1 n := by
    refine zwl_set ha ho ?_
    rw [zent_o hs hC.2.1]
    congr 2
    apply List.ext_getElem?
    intro j
    by_cases hjN : j < N
    · rw [zfs_get hjN]
      by_cases hjk : j = k
      · subst hjk
        rw [List.getElem?_set_self (by simpa using hk), hv]
      · rw [List.getElem?_set_ne (Ne.symm hjk), zfs_get hjN, hj j hjk hjN]
    · rw [List.getElem?_eq_none (by simp; omega), List.getElem?_eq_none (by simp; omega)]
  have kk' : ∀ (H1 : Heap) (locs1 : List Loc), va_P D vwCl ((zwl D A0 σ G n).set a (A0 + a, .inr (ci, ((List.range N).map (zfv D A0 σ G ci a)).set k v))) H1 → va_D (zA A0) ((zwl D A0 σ G n).set a (A0 + a, .inr (ci, ((List.range N).map (zfv D A0 σ G ci a)).set k v))) → va_S (zA A0) s.heap H1 locs1 → W p l e R s m args below meth c H1 locs1 cells slots Q (F0 m (pc + 3) ls rest) := fun H1 locs1 hP _ hS => kk H1 locs1 ⟨by rw [← hset]; exact hP, hS⟩
  rcases hfin with hf | ⟨hf, hi, hdc⟩
  · exact va_put (C := C) (T := T) (N := N) (ci := ci) (ty := ty k) hx hb hts hC.2.2.1 ty hC.2.2.2.1 hC.2.2.2.2 hown hK Z.1 zwl_D Z.2 a hg hC.1 k hk (hts _ hl) hsm hf (hC.2.2.2.1 k hk) hn hfit (by simpa using hk) hd kk'
  · exact va_putF (C := C) (T := T) (N := N) (ci := ci) (ty := ty k) hx hb hts hC.2.2.1 ty hC.2.2.2.1 hC.2.2.2.2 hown hK Z.1 zwl_D Z.2 a hg hC.1 k hk (hts _ hl) hsm hf hi hdc (hC.2.2.2.1 k hk) hn hfit (by simpa using hk) hd kk'
end ZW
