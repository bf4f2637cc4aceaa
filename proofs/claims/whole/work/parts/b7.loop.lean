def R_law : String := "UnsoldPriceLaw"
def lw_P (b : Addr) (xs : List Int32) (args : Array Value) (s : State) : Prop := args = #[.ref b] ∧ s.IntsAt b xs ∧ xs.length ≤ 3072 ∧ (Jvm.Cond.and given_1 narrow_1).before args s = true
def lw_Q (_ : Array Value) (s : State) (o : Outcome) (t : State) : Prop := o = .returned (some (.int 1)) ∧ Framed s o t [] 601024 7293034
def lw_Z (below : List Frame) (a : Array Value) (s : State) : State → Prop := fun t => ∃ o, t.status = .running ∧ Ended t below o ∧ lw_Q a s o t
/-- the law's own end, with 1 on the stack, nothing written that was there before, its room as the claim has it -/
theorem lw_ret {p : Program} {l : Launch} {e : Env} {s : State} {m : MethodId} {below : List Frame} {meth : Method} {c : Code} {b : Nat} (hx : p.tables.exec = Jvm.exec) (hb : c.code = code) (hr : meth.sig.returnType = ret) (hlocks : meth.locks = false) {pc : Nat} {H : Heap} {ls : Array Slot} (hdg : decode code pc = .ok (.ireturn, 1)) : W p l e room_1 s m #[Value.ref b] below meth c H [] 601024 7293034 (lw_Z below #[Value.ref b] s) (F0 m pc ls [.int 1]) := by
  intro T hT X
  obtain ⟨fs, hret, hrun, hended, hW, hframe⟩ := X.leave (v := some (.int 1)) (hlocks := hlocks) (fun h => by rw [hr] at h; cases h)
  have hmeth' : T.vm.method? m = some meth := X.method'
  refine ⟨T.setFrames fs, ?_, .returned (some (.int 1)), hrun, hended, rfl, ⟨_, rfl⟩, hW, hframe⟩
  jvm_step X.here [X.here.top, hx, hb, hdg, hmeth', hr, ret, narrow_b1]
  (try refine ⟨rfl, ?_⟩); (try refine ⟨rfl, ?_⟩)
  first | (intro acts; rw [hret _ acts rfl rfl rfl]) | rw [hret _ _ rfl rfl rfl]
  exact Steps.refl _
/-- what holds at the law's entry: the machine, the code, the tables' words (any of lw_tbl by 'hts w (by decide +kernel)'), the script of L ints xs at the cell b, what the Statement gives of the start (any of its parts by flat_of_before) -/
def lw_At (p : Program) (s : State) (m : MethodId) (meth : Method) (c : Code) (b L : Nat) (xs : Nat → Int32) : Prop :=
  p.tables.exec = Jvm.exec ∧ c.code = code ∧ meth.sig.returnType = ret ∧ c.maxLocals = 7 ∧ s.vm.findClass R_law = some m.cls ∧ (∀ w ∈ lw_tbl, w.before #[Value.ref b] s = true) ∧ va_X b L xs s s.heap ∧ b < s.heap.size ∧ meth.locks = false ∧ (Jvm.Cond.and given_1 narrow_1).before #[Value.ref b] s = true
/-! ===== the law's loop ===== -/
theorem zl_len {L : Nat} (h : L ≤ 3072) : (nI L - 6).toInt = (L : Int) - 6 := by
  rw [Int32.toInt_sub, n_ti (by omega), show (6 : Int32).toInt = 6 by decide]
  exact Int.bmod_eq_of_le (by omega) (by omega)
theorem zl_sw (x : Int32) : (x &&& 63 = nI (ix (x &&& 63)) ∧ ix (x &&& 63) ≤ 63) := by
  have h : (x &&& 63).toInt = ((x.toBitVec &&& 63#32).toNat : Int) ∧ (x.toBitVec &&& 63#32).toNat ≤ 63 := by
    have h1 : (x.toBitVec &&& 63#32).toNat ≤ 63 := by
      rw [BitVec.toNat_and]
      exact Nat.le_trans Nat.and_le_right (by decide)
    refine ⟨?_, h1⟩
    rw [← Int32.toInt_toBitVec, Int32.toBitVec_and, show (63 : Int32).toBitVec = 63#32 from rfl]
    exact BitVec.toInt_eq_toNat_of_lt (by omega)
  refine ⟨n_of (by omega), ?_⟩
  unfold ix Int32.toNatClampNeg
  omega
set_option maxHeartbeats 8000000 in
set_option maxRecDepth 100000 in
theorem law_loop {p : Program} {l : Launch} {e : Env} {s : State} {m : MethodId} {below : List Frame} {meth : Method} {c : Code} {b L : Nat} {xs : Nat → Int32} {D : va_G} (hst : l.stackTraces = false) (hr : meth.sig.returnType = ret) (hlocks : meth.locks = false) (F : zx p s m c cL_law 7 #[Value.ref b] RL D s.heap.size) (hX : va_X b L xs s s.heap) (hbl : b < s.heap.size) (hL : L ≤ 3072) :
    ∀ (n t : Nat), L + 6 ≤ 6 * t + 6 * n → 6 * t ≤ L → ∀ (σ : Mm) (H : Heap) (locs : List Loc), zh D s.heap.size σ GF 740 s.heap H locs → Iv (31 * t) σ → ∀ (ls : Array Slot), lv_has ls 7 [(0, .ref b), (1, .ref (s.heap.size + 0)), (2, .ref (s.heap.size + 703)), (3, .ref (s.heap.size + 739)), (4, .int (nI (6 * t)))] → W p l e room_1 s m #[Value.ref b] below meth c H locs (740 + t) (41642 + 6 * t) (lw_Z below #[Value.ref b] s) (F0 m 23 ls []) := by
  have hx := F.1.1
  have hb := F.1.2.1
  have hbA : ¬ zA s.heap.size b := Nat.not_le.mpr hbl
  intro n
  induction n with
  | zero => intro t h1 h2; exact absurd h1 (by omega)
  | succ n ih =>
    intro t h1 h2 σ H locs Z hI ls hl
    have hce : 740 + t + 1 ≤ 601024 := by omega
    have hsl : 41642 + 6 * t + 6 ≤ 7293034 := by omega
    refine lv_iload hx hb dL_law_23 (lv_at hl 4 rfl) ?_
    refine lv_aload_n hx hb dL_law_25 rfl (lv_at hl 0 rfl) ?_
    refine va_slen hx hb hX hbl hbA Z.2 dL_law_26 ?_
    refine lv_bipush (v := 6) hx hb dL_law_27 (by decide) ?_
    refine lv_isub hx hb dL_law_29 ?_
    refine lv_icmp_gt (tgt := 1504) hx hb dL_law_30 (by decide) (fun _ => ?_) (fun hgo => ?_)
    · refine lv_iconst (v := 1) hx hb dL_law_1504 (by decide) ?_
      refine va_forget (fun q hq => Z.2.2.2 q hq) ?_
      refine W.widen (k := 601024) (n := 7293034) (by omega) (by omega) ?_
      exact lw_ret hx hb hr hlocks dL_law_1505
    · have ht : 6 * t + 6 ≤ L := by
        have hgo2 : ¬ (nI L - 6).toInt < (nI (6 * t)).toInt := fun h => hgo (Int32.lt_iff_toInt_lt.mpr h)
        rw [zl_len hL, n_ti (by omega)] at hgo2
        omega
      have kk : ∀ (H1 : Heap) (locs1 : List Loc) (σ1 : Mm), zh D s.heap.size σ1 GF 740 s.heap H1 locs1 → Iv (31 * (t + 1)) σ1 → ∀ ls, lv_has ls 7 [(0, .ref b), (1, .ref (s.heap.size + 0)), (2, .ref (s.heap.size + 703)), (3, .ref (s.heap.size + 739)), (4, .int (nI (6 * t)))] → W p l e room_1 s m #[Value.ref b] below meth c H1 locs1 (740 + t + 1) (41642 + 6 * t + 6) (lw_Z below #[Value.ref b] s) (F0 m 1498 ls []) := fun H1 locs1 σ1 Z1 hI1 ls1 hl1 => by
        obtain ⟨y, ey⟩ : ∃ y : Int32, y = nI (6 * t) + 6 := ⟨_, rfl⟩
        refine lv_iinc (v := y) (lv' := [(4, .int y), (0, .ref b), (1, .ref (s.heap.size + 0)), (2, .ref (s.heap.size + 703)), (3, .ref (s.heap.size + 739))]) hx hb dL_law_1498 hl1 (k := 4) rfl (by rw [ey]; rfl) (by decide) rfl (fun ls hl => ?_)
        refine lv_goto (tgt := 23) hx hb dL_law_1501 (by decide) ?_
        have ey2 : y = nI (6 * (t + 1)) := by rw [ey, Nat.mul_succ]; exact n_add (6 * t) 6
        rw [ey2] at hl
        have key := ih (t + 1) (by omega) ht σ1 H1 locs1 Z1 hI1 ls (lv_sub hl [1, 2, 3, 4, 0] rfl)
        have e1 : 740 + (t + 1) = 740 + t + 1 := rfl
        have e2 : 41642 + 6 * (t + 1) = 41642 + 6 * t + 6 := by rw [Nat.mul_succ, Nat.add_assoc]
        rw [e1, e2] at key
        exact key
      refine lv_aload_n hx hb dL_law_33 rfl (lv_at hl 0 rfl) ?_
      refine lv_iload hx hb dL_law_34 (lv_at hl 4 rfl) ?_
      refine va_sld hx hb hX hbl hbA Z.2 (vp_in_nI (by omega) (by omega)) dL_law_36 ?_
      refine lv_bipush (v := 63) hx hb dL_law_37 (by decide) ?_
      refine lv_iand hx hb dL_law_39 ?_
      obtain ⟨w1, w2⟩ := zl_sw (xs (nI (6 * t)).toNatClampNeg)
      generalize xs (nI (6 * t)).toNatClampNeg &&& 63 = v at w1 w2 ⊢
      by_cases c34 : ix v ≤ 34
      case neg =>
        refine lv_tableOut (tgt := 1498) hx hb dL_law_40 (Or.inr (by rw [w1, n_ti (by omega)]; omega)) (by decide) ?_
        refine W.widen (k := 740 + t + 1) (n := 41642 + 6 * t + 6) (by omega) (by omega) ?_
        exact kk _ _ _ Z (hI.up (by omega)) _ hl
      case pos =>
      have hd : ix v = 0 ∨ ix v = 1 ∨ ix v = 2 ∨ ix v = 3 ∨ ix v = 4 ∨ ix v = 5 ∨ ix v = 6 ∨ ix v = 7 ∨ ix v = 8 ∨ ix v = 9 ∨ ix v = 10 ∨ ix v = 11 ∨ ix v = 12 ∨ ix v = 13 ∨ ix v = 14 ∨ ix v = 15 ∨ ix v = 16 ∨ ix v = 17 ∨ ix v = 18 ∨ ix v = 19 ∨ ix v = 20 ∨ ix v = 21 ∨ ix v = 22 ∨ ix v = 23 ∨ ix v = 24 ∨ ix v = 25 ∨ ix v = 26 ∨ ix v = 27 ∨ ix v = 28 ∨ ix v = 29 ∨ ix v = 30 ∨ ix v = 31 ∨ ix v = 32 ∨ ix v = 33 ∨ ix v = 34 := by omega
      rcases hd with h | h | h | h | h | h | h | h | h | h | h | h | h | h | h | h | h | h | h | h | h | h | h | h | h | h | h | h | h | h | h | h | h | h | h
      · have hv : v = nI 0 := w1.trans (by rw [h])
        refine lv_tableIn (off := 156) (tgt := 196) hx hb dL_law_40 (by rw [hv]; decide) (by rw [hv]; decide) (by rw [hv]; decide) (by decide) ?_
        exact zl_0 F hX hbl hbA hL ht hce hsl Z hI hl kk
      · have hv : v = nI 1 := w1.trans (by rw [h])
        refine lv_tableIn (off := 229) (tgt := 269) hx hb dL_law_40 (by rw [hv]; decide) (by rw [hv]; decide) (by rw [hv]; decide) (by decide) ?_
        exact zl_1 F hX hbl hbA hL ht hce hsl Z hI hl kk
      · have hv : v = nI 2 := w1.trans (by rw [h])
        refine lv_tableIn (off := 254) (tgt := 294) hx hb dL_law_40 (by rw [hv]; decide) (by rw [hv]; decide) (by rw [hv]; decide) (by decide) ?_
        exact zl_2 F hX hbl hbA hL ht hce hsl Z hI hl kk
      · have hv : v = nI 3 := w1.trans (by rw [h])
        refine lv_tableIn (off := 279) (tgt := 319) hx hb dL_law_40 (by rw [hv]; decide) (by rw [hv]; decide) (by rw [hv]; decide) (by decide) ?_
        exact zl_3 F hX hbl hbA hL ht hce hsl Z hI hl kk
      · have hv : v = nI 4 := w1.trans (by rw [h])
        refine lv_tableIn (off := 304) (tgt := 344) hx hb dL_law_40 (by rw [hv]; decide) (by rw [hv]; decide) (by rw [hv]; decide) (by decide) ?_
        exact zl_4 hst F hX hbl hbA hL ht hce hsl Z hI hl kk
      · have hv : v = nI 5 := w1.trans (by rw [h])
        refine lv_tableIn (off := 372) (tgt := 412) hx hb dL_law_40 (by rw [hv]; decide) (by rw [hv]; decide) (by rw [hv]; decide) (by decide) ?_
        exact zl_5 F hX hbl hbA hL ht hce hsl Z hI hl kk
      · have hv : v = nI 6 := w1.trans (by rw [h])
        refine lv_tableIn (off := 409) (tgt := 449) hx hb dL_law_40 (by rw [hv]; decide) (by rw [hv]; decide) (by rw [hv]; decide) (by decide) ?_
        exact zl_6 F hX hbl hbA hL ht hce hsl Z hI hl kk
      · have hv : v = nI 7 := w1.trans (by rw [h])
        refine lv_tableIn (off := 446) (tgt := 486) hx hb dL_law_40 (by rw [hv]; decide) (by rw [hv]; decide) (by rw [hv]; decide) (by decide) ?_
        exact zl_7 F hX hbl hbA hL ht hce hsl Z hI hl kk
      · have hv : v = nI 8 := w1.trans (by rw [h])
        refine lv_tableIn (off := 499) (tgt := 539) hx hb dL_law_40 (by rw [hv]; decide) (by rw [hv]; decide) (by rw [hv]; decide) (by decide) ?_
        exact zl_8 F hX hbl hbA hL ht hce hsl Z hI hl kk
      · have hv : v = nI 9 := w1.trans (by rw [h])
        refine lv_tableIn (off := 524) (tgt := 564) hx hb dL_law_40 (by rw [hv]; decide) (by rw [hv]; decide) (by rw [hv]; decide) (by decide) ?_
        exact zl_9 F hX hbl hbA hL ht hce hsl Z hI hl kk
      · have hv : v = nI 10 := w1.trans (by rw [h])
        refine lv_tableIn (off := 581) (tgt := 621) hx hb dL_law_40 (by rw [hv]; decide) (by rw [hv]; decide) (by rw [hv]; decide) (by decide) ?_
        exact zl_10 F hX hbl hbA hL ht hce hsl Z hI hl kk
      · have hv : v = nI 11 := w1.trans (by rw [h])
        refine lv_tableIn (off := 606) (tgt := 646) hx hb dL_law_40 (by rw [hv]; decide) (by rw [hv]; decide) (by rw [hv]; decide) (by decide) ?_
        exact zl_11 F hX hbl hbA hL ht hce hsl Z hI hl kk
      · have hv : v = nI 12 := w1.trans (by rw [h])
        refine lv_tableIn (off := 631) (tgt := 671) hx hb dL_law_40 (by rw [hv]; decide) (by rw [hv]; decide) (by rw [hv]; decide) (by decide) ?_
        exact zl_12 F hX hbl hbA hL ht hce hsl Z hI hl kk
      · have hv : v = nI 13 := w1.trans (by rw [h])
        refine lv_tableIn (off := 668) (tgt := 708) hx hb dL_law_40 (by rw [hv]; decide) (by rw [hv]; decide) (by rw [hv]; decide) (by decide) ?_
        exact zl_13 F hX hbl hbA hL ht hce hsl Z hI hl kk
      · have hv : v = nI 14 := w1.trans (by rw [h])
        refine lv_tableIn (off := 693) (tgt := 733) hx hb dL_law_40 (by rw [hv]; decide) (by rw [hv]; decide) (by rw [hv]; decide) (by decide) ?_
        exact zl_14 F hX hbl hbA hL ht hce hsl Z hI hl kk
      · have hv : v = nI 15 := w1.trans (by rw [h])
        refine lv_tableIn (off := 742) (tgt := 782) hx hb dL_law_40 (by rw [hv]; decide) (by rw [hv]; decide) (by rw [hv]; decide) (by decide) ?_
        exact zl_15 F hX hbl hbA hL ht hce hsl Z hI hl kk
      · have hv : v = nI 16 := w1.trans (by rw [h])
        refine lv_tableIn (off := 767) (tgt := 807) hx hb dL_law_40 (by rw [hv]; decide) (by rw [hv]; decide) (by rw [hv]; decide) (by decide) ?_
        exact zl_16 F hX hbl hbA hL ht hce hsl Z hI hl kk
      · have hv : v = nI 17 := w1.trans (by rw [h])
        refine lv_tableIn (off := 816) (tgt := 856) hx hb dL_law_40 (by rw [hv]; decide) (by rw [hv]; decide) (by rw [hv]; decide) (by decide) ?_
        exact zl_17 F hX hbl hbA hL ht hce hsl Z hI hl kk
      · have hv : v = nI 18 := w1.trans (by rw [h])
        refine lv_tableIn (off := 853) (tgt := 893) hx hb dL_law_40 (by rw [hv]; decide) (by rw [hv]; decide) (by rw [hv]; decide) (by decide) ?_
        exact zl_18 F hX hbl hbA hL ht hce hsl Z hI hl kk
      · have hv : v = nI 19 := w1.trans (by rw [h])
        refine lv_tableIn (off := 890) (tgt := 930) hx hb dL_law_40 (by rw [hv]; decide) (by rw [hv]; decide) (by rw [hv]; decide) (by decide) ?_
        exact zl_19 F hX hbl hbA hL ht hce hsl Z hI hl kk
      · have hv : v = nI 20 := w1.trans (by rw [h])
        refine lv_tableIn (off := 939) (tgt := 979) hx hb dL_law_40 (by rw [hv]; decide) (by rw [hv]; decide) (by rw [hv]; decide) (by decide) ?_
        exact zl_20 F hX hbl hbA hL ht hce hsl Z hI hl kk
      · have hv : v = nI 21 := w1.trans (by rw [h])
        refine lv_tableIn (off := 976) (tgt := 1016) hx hb dL_law_40 (by rw [hv]; decide) (by rw [hv]; decide) (by rw [hv]; decide) (by decide) ?_
        exact zl_21 F hX hbl hbA hL ht hce hsl Z hI hl kk
      · have hv : v = nI 22 := w1.trans (by rw [h])
        refine lv_tableIn (off := 1001) (tgt := 1041) hx hb dL_law_40 (by rw [hv]; decide) (by rw [hv]; decide) (by rw [hv]; decide) (by decide) ?_
        exact zl_22 F hX hbl hbA hL ht hce hsl Z hI hl kk
      · have hv : v = nI 23 := w1.trans (by rw [h])
        refine lv_tableIn (off := 1050) (tgt := 1090) hx hb dL_law_40 (by rw [hv]; decide) (by rw [hv]; decide) (by rw [hv]; decide) (by decide) ?_
        exact zl_23 F hX hbl hbA hL ht hce hsl Z hI hl kk
      · have hv : v = nI 24 := w1.trans (by rw [h])
        refine lv_tableIn (off := 1099) (tgt := 1139) hx hb dL_law_40 (by rw [hv]; decide) (by rw [hv]; decide) (by rw [hv]; decide) (by decide) ?_
        exact zl_24 F hX hbl hbA hL ht hce hsl Z hI hl kk
      · have hv : v = nI 25 := w1.trans (by rw [h])
        refine lv_tableIn (off := 1136) (tgt := 1176) hx hb dL_law_40 (by rw [hv]; decide) (by rw [hv]; decide) (by rw [hv]; decide) (by decide) ?_
        exact zl_25 F hX hbl hbA hL ht hce hsl Z hI hl kk
      · have hv : v = nI 26 := w1.trans (by rw [h])
        refine lv_tableIn (off := 1173) (tgt := 1213) hx hb dL_law_40 (by rw [hv]; decide) (by rw [hv]; decide) (by rw [hv]; decide) (by decide) ?_
        exact zl_26 F hX hbl hbA hL ht hce hsl Z hI hl kk
      · have hv : v = nI 27 := w1.trans (by rw [h])
        refine lv_tableIn (off := 1210) (tgt := 1250) hx hb dL_law_40 (by rw [hv]; decide) (by rw [hv]; decide) (by rw [hv]; decide) (by decide) ?_
        exact zl_27 F hX hbl hbA hL ht hce hsl Z hI hl kk
      · have hv : v = nI 28 := w1.trans (by rw [h])
        refine lv_tableIn (off := 1247) (tgt := 1287) hx hb dL_law_40 (by rw [hv]; decide) (by rw [hv]; decide) (by rw [hv]; decide) (by decide) ?_
        exact zl_28 F hX hbl hbA hL ht hce hsl Z hI hl kk
      · have hv : v = nI 29 := w1.trans (by rw [h])
        refine lv_tableIn (off := 1296) (tgt := 1336) hx hb dL_law_40 (by rw [hv]; decide) (by rw [hv]; decide) (by rw [hv]; decide) (by decide) ?_
        exact zl_29 F hX hbl hbA hL ht hce hsl Z hI hl kk
      · have hv : v = nI 30 := w1.trans (by rw [h])
        refine lv_tableIn (off := 1333) (tgt := 1373) hx hb dL_law_40 (by rw [hv]; decide) (by rw [hv]; decide) (by rw [hv]; decide) (by decide) ?_
        exact zl_30 F hX hbl hbA hL ht hce hsl Z hI hl kk
      · have hv : v = nI 31 := w1.trans (by rw [h])
        refine lv_tableIn (off := 1370) (tgt := 1410) hx hb dL_law_40 (by rw [hv]; decide) (by rw [hv]; decide) (by rw [hv]; decide) (by decide) ?_
        exact zl_31 F hX hbl hbA hL ht hce hsl Z hI hl kk
      · have hv : v = nI 32 := w1.trans (by rw [h])
        refine lv_tableIn (off := 1407) (tgt := 1447) hx hb dL_law_40 (by rw [hv]; decide) (by rw [hv]; decide) (by rw [hv]; decide) (by decide) ?_
        exact zl_32 F hX hbl hbA hL ht hce hsl Z hI hl kk
      · have hv : v = nI 33 := w1.trans (by rw [h])
        refine lv_tableIn (off := 1420) (tgt := 1460) hx hb dL_law_40 (by rw [hv]; decide) (by rw [hv]; decide) (by rw [hv]; decide) (by decide) ?_
        exact zl_33 F hX hbl hbA hL ht hce hsl Z hI hl kk
      · have hv : v = nI 34 := w1.trans (by rw [h])
        refine lv_tableIn (off := 1433) (tgt := 1473) hx hb dL_law_40 (by rw [hv]; decide) (by rw [hv]; decide) (by rw [hv]; decide) (by decide) ?_
        exact zl_34 F hX hbl hbA hL ht hce hsl Z hI hl kk
