theorem zt0 {w : Cond} (i : Nat) (h : tables_1_1[i]? = some w) (hg : goodWord w = true) : w ∈ zTB := by
  have h : w ∈ tables_1_1 := List.mem_of_getElem? h
  exact List.mem_filter.mpr ⟨List.mem_append_right _ (show w ∈ tables_1 from List.mem_append_left _ h), hg⟩
theorem zt1 {w : Cond} (i : Nat) (h : tables_1_2[i]? = some w) (hg : goodWord w = true) : w ∈ zTB := by
  have h : w ∈ tables_1_2 := List.mem_of_getElem? h
  exact List.mem_filter.mpr ⟨List.mem_append_right _ (show w ∈ tables_1 from List.mem_append_right _ (List.mem_append_left _ h)), hg⟩
theorem zt2 {w : Cond} (i : Nat) (h : tables_1_3[i]? = some w) (hg : goodWord w = true) : w ∈ zTB := by
  have h : w ∈ tables_1_3 := List.mem_of_getElem? h
  exact List.mem_filter.mpr ⟨List.mem_append_right _ (show w ∈ tables_1 from List.mem_append_right _ (List.mem_append_right _ (List.mem_append_left _ h))), hg⟩
theorem zt3 {w : Cond} (i : Nat) (h : tables_1_4[i]? = some w) (hg : goodWord w = true) : w ∈ zTB := by
  have h : w ∈ tables_1_4 := List.mem_of_getElem? h
  exact List.mem_filter.mpr ⟨List.mem_append_right _ (show w ∈ tables_1 from List.mem_append_right _ (List.mem_append_right _ (List.mem_append_right _ (List.mem_append_left _ h)))), hg⟩
theorem zt4 {w : Cond} (i : Nat) (h : tables_1_5[i]? = some w) (hg : goodWord w = true) : w ∈ zTB := by
  have h : w ∈ tables_1_5 := List.mem_of_getElem? h
  exact List.mem_filter.mpr ⟨List.mem_append_right _ (show w ∈ tables_1 from List.mem_append_right _ (List.mem_append_right _ (List.mem_append_right _ (List.mem_append_right _ (List.mem_append_left _ h))))), hg⟩
theorem zt5 {w : Cond} (i : Nat) (h : tables_1_6[i]? = some w) (hg : goodWord w = true) : w ∈ zTB := by
  have h : w ∈ tables_1_6 := List.mem_of_getElem? h
  exact List.mem_filter.mpr ⟨List.mem_append_right _ (show w ∈ tables_1 from List.mem_append_right _ (List.mem_append_right _ (List.mem_append_right _ (List.mem_append_right _ (List.mem_append_right _ (List.mem_append_left _ h)))))), hg⟩
theorem zt6 {w : Cond} (i : Nat) (h : tables_1_7[i]? = some w) (hg : goodWord w = true) : w ∈ zTB := by
  have h : w ∈ tables_1_7 := List.mem_of_getElem? h
  exact List.mem_filter.mpr ⟨List.mem_append_right _ (show w ∈ tables_1 from List.mem_append_right _ (List.mem_append_right _ (List.mem_append_right _ (List.mem_append_right _ (List.mem_append_right _ (List.mem_append_right _ (List.mem_append_left _ h))))))), hg⟩
theorem zt7 {w : Cond} (i : Nat) (h : tables_1_8[i]? = some w) (hg : goodWord w = true) : w ∈ zTB := by
  have h : w ∈ tables_1_8 := List.mem_of_getElem? h
  exact List.mem_filter.mpr ⟨List.mem_append_right _ (show w ∈ tables_1 from List.mem_append_right _ (List.mem_append_right _ (List.mem_append_right _ (List.mem_append_right _ (List.mem_append_right _ (List.mem_append_right _ (List.mem_append_right _ (h)))))))), hg⟩
theorem ztp {q : MethodName × Nat} (i : Nat) (h : lw_privs[i]? = some q) : Cond.selects q.1.cls q.1 q.1 ∈ zTB := List.mem_filter.mpr ⟨List.mem_append_left _ (List.mem_map.mpr ⟨q, List.mem_of_getElem? h, rfl⟩), rfl⟩
theorem zq0 : (Jvm.Cond.selects "UnsoldPrice$MarketReader" ({ cls := "UnsoldPrice$MarketReader", name := "clause", desc := "(LUnsoldPrice$Market;)Z" } : Jvm.MethodName) ({ cls := "UnsoldPrice$MarketReader", name := "clause", desc := "(LUnsoldPrice$Market;)Z" } : Jvm.MethodName)) ∈ zTB := ztp (q := (({ cls := "UnsoldPrice$MarketReader", name := "clause", desc := "(LUnsoldPrice$Market;)Z" } : Jvm.MethodName), 5)) 0 rfl
theorem zq1 : (Jvm.Cond.selects "UnsoldPrice$MarketReader" ({ cls := "UnsoldPrice$MarketReader", name := "items", desc := "(I)Z" } : Jvm.MethodName) ({ cls := "UnsoldPrice$MarketReader", name := "items", desc := "(I)Z" } : Jvm.MethodName)) ∈ zTB := ztp (q := (({ cls := "UnsoldPrice$MarketReader", name := "items", desc := "(I)Z" } : Jvm.MethodName), 5)) 1 rfl
theorem zq2 : (Jvm.Cond.selects "UnsoldPrice$RuleReader" ({ cls := "UnsoldPrice$RuleReader", name := "clause", desc := "()Z" } : Jvm.MethodName) ({ cls := "UnsoldPrice$RuleReader", name := "clause", desc := "()Z" } : Jvm.MethodName)) ∈ zTB := ztp (q := (({ cls := "UnsoldPrice$RuleReader", name := "clause", desc := "()Z" } : Jvm.MethodName), 4)) 2 rfl
theorem zq3 : (Jvm.Cond.selects "UnsoldPrice$RuleReader" ({ cls := "UnsoldPrice$RuleReader", name := "sum", desc := "(I)Z" } : Jvm.MethodName) ({ cls := "UnsoldPrice$RuleReader", name := "sum", desc := "(I)Z" } : Jvm.MethodName)) ∈ zTB := ztp (q := (({ cls := "UnsoldPrice$RuleReader", name := "sum", desc := "(I)Z" } : Jvm.MethodName), 4)) 3 rfl
theorem zq4 : (Jvm.Cond.selects "UnsoldPrice$RuleReader" ({ cls := "UnsoldPrice$RuleReader", name := "atom", desc := "(I)Z" } : Jvm.MethodName) ({ cls := "UnsoldPrice$RuleReader", name := "atom", desc := "(I)Z" } : Jvm.MethodName)) ∈ zTB := ztp (q := (({ cls := "UnsoldPrice$RuleReader", name := "atom", desc := "(I)Z" } : Jvm.MethodName), 4)) 4 rfl
theorem zq5 : (Jvm.Cond.selects "UnsoldPrice$RuleReader" ({ cls := "UnsoldPrice$RuleReader", name := "put", desc := "(I)Z" } : Jvm.MethodName) ({ cls := "UnsoldPrice$RuleReader", name := "put", desc := "(I)Z" } : Jvm.MethodName)) ∈ zTB := ztp (q := (({ cls := "UnsoldPrice$RuleReader", name := "put", desc := "(I)Z" } : Jvm.MethodName), 4)) 5 rfl
theorem zq6 : (Jvm.Cond.selects "UnsoldPrice$RuleReader" ({ cls := "UnsoldPrice$RuleReader", name := "condition", desc := "(IZ)Z" } : Jvm.MethodName) ({ cls := "UnsoldPrice$RuleReader", name := "condition", desc := "(IZ)Z" } : Jvm.MethodName)) ∈ zTB := ztp (q := (({ cls := "UnsoldPrice$RuleReader", name := "condition", desc := "(IZ)Z" } : Jvm.MethodName), 4)) 6 rfl
theorem zq7 : (Jvm.Cond.selects "UnsoldPrice$RuleReader" ({ cls := "UnsoldPrice$RuleReader", name := "unit", desc := "(IZ)Z" } : Jvm.MethodName) ({ cls := "UnsoldPrice$RuleReader", name := "unit", desc := "(IZ)Z" } : Jvm.MethodName)) ∈ zTB := ztp (q := (({ cls := "UnsoldPrice$RuleReader", name := "unit", desc := "(IZ)Z" } : Jvm.MethodName), 4)) 7 rfl
theorem zq8 : (Jvm.Cond.selects "UnsoldPrice" ({ cls := "UnsoldPrice", name := "openMarket", desc := "()I" } : Jvm.MethodName) ({ cls := "UnsoldPrice", name := "openMarket", desc := "()I" } : Jvm.MethodName)) ∈ zTB := ztp (q := (({ cls := "UnsoldPrice", name := "openMarket", desc := "()I" } : Jvm.MethodName), 17)) 8 rfl
theorem zq9 : (Jvm.Cond.selects "UnsoldPrice" ({ cls := "UnsoldPrice", name := "addRule", desc := "()I" } : Jvm.MethodName) ({ cls := "UnsoldPrice", name := "addRule", desc := "()I" } : Jvm.MethodName)) ∈ zTB := ztp (q := (({ cls := "UnsoldPrice", name := "addRule", desc := "()I" } : Jvm.MethodName), 17)) 9 rfl
theorem zq10 : (Jvm.Cond.selects "UnsoldPrice" ({ cls := "UnsoldPrice", name := "isSort", desc := "(I)Z" } : Jvm.MethodName) ({ cls := "UnsoldPrice", name := "isSort", desc := "(I)Z" } : Jvm.MethodName)) ∈ zTB := ztp (q := (({ cls := "UnsoldPrice", name := "isSort", desc := "(I)Z" } : Jvm.MethodName), 17)) 10 rfl
theorem zq11 : (Jvm.Cond.selects "UnsoldPrice" ({ cls := "UnsoldPrice", name := "isSeller", desc := "(I)Z" } : Jvm.MethodName) ({ cls := "UnsoldPrice", name := "isSeller", desc := "(I)Z" } : Jvm.MethodName)) ∈ zTB := ztp (q := (({ cls := "UnsoldPrice", name := "isSeller", desc := "(I)Z" } : Jvm.MethodName), 17)) 11 rfl
theorem zq12 : (Jvm.Cond.selects "UnsoldPrice" ({ cls := "UnsoldPrice", name := "noDays", desc := "(I)Z" } : Jvm.MethodName) ({ cls := "UnsoldPrice", name := "noDays", desc := "(I)Z" } : Jvm.MethodName)) ∈ zTB := ztp (q := (({ cls := "UnsoldPrice", name := "noDays", desc := "(I)Z" } : Jvm.MethodName), 17)) 12 rfl
theorem zq13 : (Jvm.Cond.selects "UnsoldPrice" ({ cls := "UnsoldPrice", name := "noMarket", desc := "()Z" } : Jvm.MethodName) ({ cls := "UnsoldPrice", name := "noMarket", desc := "()Z" } : Jvm.MethodName)) ∈ zTB := ztp (q := (({ cls := "UnsoldPrice", name := "noMarket", desc := "()Z" } : Jvm.MethodName), 17)) 13 rfl
theorem zq14 : (Jvm.Cond.selects "UnsoldPrice$Runner" ({ cls := "UnsoldPrice$Runner", name := "setAskings", desc := "(LUnsoldPrice$State;I)V" } : Jvm.MethodName) ({ cls := "UnsoldPrice$Runner", name := "setAskings", desc := "(LUnsoldPrice$State;I)V" } : Jvm.MethodName)) ∈ zTB := ztp (q := (({ cls := "UnsoldPrice$Runner", name := "setAskings", desc := "(LUnsoldPrice$State;I)V" } : Jvm.MethodName), 11)) 14 rfl
theorem zq15 : (Jvm.Cond.selects "UnsoldPrice$Runner" ({ cls := "UnsoldPrice$Runner", name := "sellTo", desc := "(LUnsoldPrice$State;II)I" } : Jvm.MethodName) ({ cls := "UnsoldPrice$Runner", name := "sellTo", desc := "(LUnsoldPrice$State;II)I" } : Jvm.MethodName)) ∈ zTB := ztp (q := (({ cls := "UnsoldPrice$Runner", name := "sellTo", desc := "(LUnsoldPrice$State;II)I" } : Jvm.MethodName), 11)) 15 rfl
theorem zq16 : (Jvm.Cond.selects "UnsoldPrice$Runner" ({ cls := "UnsoldPrice$Runner", name := "leadBoard", desc := "(LUnsoldPrice$State;)V" } : Jvm.MethodName) ({ cls := "UnsoldPrice$Runner", name := "leadBoard", desc := "(LUnsoldPrice$State;)V" } : Jvm.MethodName)) ∈ zTB := ztp (q := (({ cls := "UnsoldPrice$Runner", name := "leadBoard", desc := "(LUnsoldPrice$State;)V" } : Jvm.MethodName), 11)) 16 rfl
theorem zq17 : (Jvm.Cond.selects "UnsoldPrice$Runner" ({ cls := "UnsoldPrice$Runner", name := "closeDay", desc := "(LUnsoldPrice$State;)V" } : Jvm.MethodName) ({ cls := "UnsoldPrice$Runner", name := "closeDay", desc := "(LUnsoldPrice$State;)V" } : Jvm.MethodName)) ∈ zTB := ztp (q := (({ cls := "UnsoldPrice$Runner", name := "closeDay", desc := "(LUnsoldPrice$State;)V" } : Jvm.MethodName), 11)) 17 rfl
theorem zq18 : (Jvm.Cond.selects "UnsoldPrice$Walk" ({ cls := "UnsoldPrice$Walk", name := "noteBoard", desc := "()V" } : Jvm.MethodName) ({ cls := "UnsoldPrice$Walk", name := "noteBoard", desc := "()V" } : Jvm.MethodName)) ∈ zTB := ztp (q := (({ cls := "UnsoldPrice$Walk", name := "noteBoard", desc := "()V" } : Jvm.MethodName), 14)) 18 rfl
theorem zq19 : (Jvm.Cond.selects "UnsoldPrice$Walk" ({ cls := "UnsoldPrice$Walk", name := "noteCheapest", desc := "()V" } : Jvm.MethodName) ({ cls := "UnsoldPrice$Walk", name := "noteCheapest", desc := "()V" } : Jvm.MethodName)) ∈ zTB := ztp (q := (({ cls := "UnsoldPrice$Walk", name := "noteCheapest", desc := "()V" } : Jvm.MethodName), 14)) 19 rfl
theorem zq20 : (Jvm.Cond.selects "UnsoldPrice$Walk" ({ cls := "UnsoldPrice$Walk", name := "noteGlut", desc := "()V" } : Jvm.MethodName) ({ cls := "UnsoldPrice$Walk", name := "noteGlut", desc := "()V" } : Jvm.MethodName)) ∈ zTB := ztp (q := (({ cls := "UnsoldPrice$Walk", name := "noteGlut", desc := "()V" } : Jvm.MethodName), 14)) 20 rfl
theorem zq21 : (Jvm.Cond.selects "UnsoldPrice$Search" ({ cls := "UnsoldPrice$Search", name := "begin", desc := "()LUnsoldPrice$State;" } : Jvm.MethodName) ({ cls := "UnsoldPrice$Search", name := "begin", desc := "()LUnsoldPrice$State;" } : Jvm.MethodName)) ∈ zTB := ztp (q := (({ cls := "UnsoldPrice$Search", name := "begin", desc := "()LUnsoldPrice$State;" } : Jvm.MethodName), 14)) 21 rfl
theorem zq22 : (Jvm.Cond.selects "UnsoldPrice$Search" ({ cls := "UnsoldPrice$Search", name := "next", desc := "(IZ)LUnsoldPrice$State;" } : Jvm.MethodName) ({ cls := "UnsoldPrice$Search", name := "next", desc := "(IZ)LUnsoldPrice$State;" } : Jvm.MethodName)) ∈ zTB := ztp (q := (({ cls := "UnsoldPrice$Search", name := "next", desc := "(IZ)LUnsoldPrice$State;" } : Jvm.MethodName), 14)) 22 rfl
theorem zq23 : (Jvm.Cond.selects "UnsoldPrice$Search" ({ cls := "UnsoldPrice$Search", name := "tryAskings", desc := "(II)V" } : Jvm.MethodName) ({ cls := "UnsoldPrice$Search", name := "tryAskings", desc := "(II)V" } : Jvm.MethodName)) ∈ zTB := ztp (q := (({ cls := "UnsoldPrice$Search", name := "tryAskings", desc := "(II)V" } : Jvm.MethodName), 14)) 23 rfl
theorem zq24 : (Jvm.Cond.selects "UnsoldPrice$Search" ({ cls := "UnsoldPrice$Search", name := "fillTakes", desc := "(II)V" } : Jvm.MethodName) ({ cls := "UnsoldPrice$Search", name := "fillTakes", desc := "(II)V" } : Jvm.MethodName)) ∈ zTB := ztp (q := (({ cls := "UnsoldPrice$Search", name := "fillTakes", desc := "(II)V" } : Jvm.MethodName), 14)) 24 rfl
theorem zq25 : (Jvm.Cond.selects "UnsoldPrice$Search" ({ cls := "UnsoldPrice$Search", name := "isAtRest", desc := "(II)Z" } : Jvm.MethodName) ({ cls := "UnsoldPrice$Search", name := "isAtRest", desc := "(II)Z" } : Jvm.MethodName)) ∈ zTB := ztp (q := (({ cls := "UnsoldPrice$Search", name := "isAtRest", desc := "(II)Z" } : Jvm.MethodName), 14)) 25 rfl
theorem zq26 : (Jvm.Cond.selects "UnsoldPrice$Search" ({ cls := "UnsoldPrice$Search", name := "inHundreds", desc := "(II)I" } : Jvm.MethodName) ({ cls := "UnsoldPrice$Search", name := "inHundreds", desc := "(II)I" } : Jvm.MethodName)) ∈ zTB := ztp (q := (({ cls := "UnsoldPrice$Search", name := "inHundreds", desc := "(II)I" } : Jvm.MethodName), 14)) 26 rfl
theorem zq27 : (Jvm.Cond.selects "UnsoldPrice" ({ cls := "UnsoldPrice", name := "isSeenBy", desc := "(I)Z" } : Jvm.MethodName) ({ cls := "UnsoldPrice", name := "isSeenBy", desc := "(I)Z" } : Jvm.MethodName)) ∈ zTB := ztp (q := (({ cls := "UnsoldPrice", name := "isSeenBy", desc := "(I)Z" } : Jvm.MethodName), 17)) 27 rfl
theorem zq28 : (Jvm.Cond.selects "UnsoldPrice" ({ cls := "UnsoldPrice", name := "tellAskings", desc := "(I)I" } : Jvm.MethodName) ({ cls := "UnsoldPrice", name := "tellAskings", desc := "(I)I" } : Jvm.MethodName)) ∈ zTB := ztp (q := (({ cls := "UnsoldPrice", name := "tellAskings", desc := "(I)I" } : Jvm.MethodName), 17)) 28 rfl
theorem zq29 : (Jvm.Cond.selects "UnsoldPrice$Search" ({ cls := "UnsoldPrice$Search", name := "split", desc := "(II)I" } : Jvm.MethodName) ({ cls := "UnsoldPrice$Search", name := "split", desc := "(II)I" } : Jvm.MethodName)) ∈ zTB := ztp (q := (({ cls := "UnsoldPrice$Search", name := "split", desc := "(II)I" } : Jvm.MethodName), 14)) 29 rfl
theorem zq31 : (Jvm.Cond.selects "UnsoldPriceModel" ({ cls := "UnsoldPriceModel", name := "put", desc := "(I)V" } : Jvm.MethodName) ({ cls := "UnsoldPriceModel", name := "put", desc := "(I)V" } : Jvm.MethodName)) ∈ zTB := ztp (q := (({ cls := "UnsoldPriceModel", name := "put", desc := "(I)V" } : Jvm.MethodName), 74)) 31 rfl
theorem zq32 : (Jvm.Cond.selects "UnsoldPriceModel" ({ cls := "UnsoldPriceModel", name := "readMarket", desc := "()V" } : Jvm.MethodName) ({ cls := "UnsoldPriceModel", name := "readMarket", desc := "()V" } : Jvm.MethodName)) ∈ zTB := ztp (q := (({ cls := "UnsoldPriceModel", name := "readMarket", desc := "()V" } : Jvm.MethodName), 74)) 32 rfl
theorem zq33 : (Jvm.Cond.selects "UnsoldPriceModel" ({ cls := "UnsoldPriceModel", name := "opens", desc := "([BII)V" } : Jvm.MethodName) ({ cls := "UnsoldPriceModel", name := "opens", desc := "([BII)V" } : Jvm.MethodName)) ∈ zTB := ztp (q := (({ cls := "UnsoldPriceModel", name := "opens", desc := "([BII)V" } : Jvm.MethodName), 74)) 33 rfl
theorem zq34 : (Jvm.Cond.selects "UnsoldPriceModel" ({ cls := "UnsoldPriceModel", name := "readClause", desc := "()V" } : Jvm.MethodName) ({ cls := "UnsoldPriceModel", name := "readClause", desc := "()V" } : Jvm.MethodName)) ∈ zTB := ztp (q := (({ cls := "UnsoldPriceModel", name := "readClause", desc := "()V" } : Jvm.MethodName), 74)) 34 rfl
theorem zq35 : (Jvm.Cond.selects "UnsoldPriceModel" ({ cls := "UnsoldPriceModel", name := "look", desc := "()I" } : Jvm.MethodName) ({ cls := "UnsoldPriceModel", name := "look", desc := "()I" } : Jvm.MethodName)) ∈ zTB := ztp (q := (({ cls := "UnsoldPriceModel", name := "look", desc := "()I" } : Jvm.MethodName), 74)) 35 rfl
theorem zq36 : (Jvm.Cond.selects "UnsoldPriceModel" ({ cls := "UnsoldPriceModel", name := "fails", desc := "()Z" } : Jvm.MethodName) ({ cls := "UnsoldPriceModel", name := "fails", desc := "()Z" } : Jvm.MethodName)) ∈ zTB := ztp (q := (({ cls := "UnsoldPriceModel", name := "fails", desc := "()Z" } : Jvm.MethodName), 74)) 36 rfl
theorem zq37 : (Jvm.Cond.selects "UnsoldPriceModel" ({ cls := "UnsoldPriceModel", name := "readItem", desc := "([IIII)V" } : Jvm.MethodName) ({ cls := "UnsoldPriceModel", name := "readItem", desc := "([IIII)V" } : Jvm.MethodName)) ∈ zTB := ztp (q := (({ cls := "UnsoldPriceModel", name := "readItem", desc := "([IIII)V" } : Jvm.MethodName), 74)) 37 rfl
theorem zq38 : (Jvm.Cond.selects "UnsoldPriceModel" ({ cls := "UnsoldPriceModel", name := "isDigit", desc := "()Z" } : Jvm.MethodName) ({ cls := "UnsoldPriceModel", name := "isDigit", desc := "()Z" } : Jvm.MethodName)) ∈ zTB := ztp (q := (({ cls := "UnsoldPriceModel", name := "isDigit", desc := "()Z" } : Jvm.MethodName), 74)) 38 rfl
theorem zq39 : (Jvm.Cond.selects "UnsoldPriceModel" ({ cls := "UnsoldPriceModel", name := "here", desc := "()I" } : Jvm.MethodName) ({ cls := "UnsoldPriceModel", name := "here", desc := "()I" } : Jvm.MethodName)) ∈ zTB := ztp (q := (({ cls := "UnsoldPriceModel", name := "here", desc := "()I" } : Jvm.MethodName), 74)) 39 rfl
theorem zq40 : (Jvm.Cond.selects "UnsoldPriceModel" ({ cls := "UnsoldPriceModel", name := "goThrough", desc := "([BII)V" } : Jvm.MethodName) ({ cls := "UnsoldPriceModel", name := "goThrough", desc := "([BII)V" } : Jvm.MethodName)) ∈ zTB := ztp (q := (({ cls := "UnsoldPriceModel", name := "goThrough", desc := "([BII)V" } : Jvm.MethodName), 74)) 40 rfl
theorem zq41 : (Jvm.Cond.selects "UnsoldPriceModel" ({ cls := "UnsoldPriceModel", name := "clause", desc := "()V" } : Jvm.MethodName) ({ cls := "UnsoldPriceModel", name := "clause", desc := "()V" } : Jvm.MethodName)) ∈ zTB := ztp (q := (({ cls := "UnsoldPriceModel", name := "clause", desc := "()V" } : Jvm.MethodName), 74)) 41 rfl
theorem zq42 : (Jvm.Cond.selects "UnsoldPriceModel" ({ cls := "UnsoldPriceModel", name := "takes", desc := "(I)Z" } : Jvm.MethodName) ({ cls := "UnsoldPriceModel", name := "takes", desc := "(I)Z" } : Jvm.MethodName)) ∈ zTB := ztp (q := (({ cls := "UnsoldPriceModel", name := "takes", desc := "(I)Z" } : Jvm.MethodName), 74)) 42 rfl
theorem zq43 : (Jvm.Cond.selects "UnsoldPriceModel" ({ cls := "UnsoldPriceModel", name := "condition", desc := "(ZI)Z" } : Jvm.MethodName) ({ cls := "UnsoldPriceModel", name := "condition", desc := "(ZI)Z" } : Jvm.MethodName)) ∈ zTB := ztp (q := (({ cls := "UnsoldPriceModel", name := "condition", desc := "(ZI)Z" } : Jvm.MethodName), 74)) 43 rfl
theorem zq44 : (Jvm.Cond.selects "UnsoldPriceModel" ({ cls := "UnsoldPriceModel", name := "part", desc := "(ZI)Z" } : Jvm.MethodName) ({ cls := "UnsoldPriceModel", name := "part", desc := "(ZI)Z" } : Jvm.MethodName)) ∈ zTB := ztp (q := (({ cls := "UnsoldPriceModel", name := "part", desc := "(ZI)Z" } : Jvm.MethodName), 74)) 44 rfl
theorem zq45 : (Jvm.Cond.selects "UnsoldPriceModel" ({ cls := "UnsoldPriceModel", name := "compares", desc := "(ZI)Z" } : Jvm.MethodName) ({ cls := "UnsoldPriceModel", name := "compares", desc := "(ZI)Z" } : Jvm.MethodName)) ∈ zTB := ztp (q := (({ cls := "UnsoldPriceModel", name := "compares", desc := "(ZI)Z" } : Jvm.MethodName), 74)) 45 rfl
theorem zq46 : (Jvm.Cond.selects "UnsoldPriceModel" ({ cls := "UnsoldPriceModel", name := "sum", desc := "()I" } : Jvm.MethodName) ({ cls := "UnsoldPriceModel", name := "sum", desc := "()I" } : Jvm.MethodName)) ∈ zTB := ztp (q := (({ cls := "UnsoldPriceModel", name := "sum", desc := "()I" } : Jvm.MethodName), 74)) 46 rfl
theorem zq47 : (Jvm.Cond.selects "UnsoldPriceModel" ({ cls := "UnsoldPriceModel", name := "term", desc := "()I" } : Jvm.MethodName) ({ cls := "UnsoldPriceModel", name := "term", desc := "()I" } : Jvm.MethodName)) ∈ zTB := ztp (q := (({ cls := "UnsoldPriceModel", name := "term", desc := "()I" } : Jvm.MethodName), 74)) 47 rfl
theorem zq48 : (Jvm.Cond.selects "UnsoldPriceModel" ({ cls := "UnsoldPriceModel", name := "atom", desc := "()I" } : Jvm.MethodName) ({ cls := "UnsoldPriceModel", name := "atom", desc := "()I" } : Jvm.MethodName)) ∈ zTB := ztp (q := (({ cls := "UnsoldPriceModel", name := "atom", desc := "()I" } : Jvm.MethodName), 74)) 48 rfl
theorem zq49 : (Jvm.Cond.selects "UnsoldPriceModel" ({ cls := "UnsoldPriceModel", name := "goesIn", desc := "()Z" } : Jvm.MethodName) ({ cls := "UnsoldPriceModel", name := "goesIn", desc := "()Z" } : Jvm.MethodName)) ∈ zTB := ztp (q := (({ cls := "UnsoldPriceModel", name := "goesIn", desc := "()Z" } : Jvm.MethodName), 74)) 49 rfl
theorem zq50 : (Jvm.Cond.selects "UnsoldPriceModel" ({ cls := "UnsoldPriceModel", name := "unit", desc := "()Z" } : Jvm.MethodName) ({ cls := "UnsoldPriceModel", name := "unit", desc := "()Z" } : Jvm.MethodName)) ∈ zTB := ztp (q := (({ cls := "UnsoldPriceModel", name := "unit", desc := "()Z" } : Jvm.MethodName), 74)) 50 rfl
theorem zq51 : (Jvm.Cond.selects "UnsoldPriceModel" ({ cls := "UnsoldPriceModel", name := "isSeller", desc := "(I)Z" } : Jvm.MethodName) ({ cls := "UnsoldPriceModel", name := "isSeller", desc := "(I)Z" } : Jvm.MethodName)) ∈ zTB := ztp (q := (({ cls := "UnsoldPriceModel", name := "isSeller", desc := "(I)Z" } : Jvm.MethodName), 74)) 51 rfl
theorem zq52 : (Jvm.Cond.selects "UnsoldPriceModel" ({ cls := "UnsoldPriceModel", name := "waitingOf", desc := "(I)I" } : Jvm.MethodName) ({ cls := "UnsoldPriceModel", name := "waitingOf", desc := "(I)I" } : Jvm.MethodName)) ∈ zTB := ztp (q := (({ cls := "UnsoldPriceModel", name := "waitingOf", desc := "(I)I" } : Jvm.MethodName), 74)) 52 rfl
theorem zq53 : (Jvm.Cond.selects "UnsoldPriceModel" ({ cls := "UnsoldPriceModel", name := "isReady", desc := "(I)Z" } : Jvm.MethodName) ({ cls := "UnsoldPriceModel", name := "isReady", desc := "(I)Z" } : Jvm.MethodName)) ∈ zTB := ztp (q := (({ cls := "UnsoldPriceModel", name := "isReady", desc := "(I)Z" } : Jvm.MethodName), 74)) 53 rfl
theorem zq54 : (Jvm.Cond.selects "UnsoldPriceModel" ({ cls := "UnsoldPriceModel", name := "plainly", desc := "()V" } : Jvm.MethodName) ({ cls := "UnsoldPriceModel", name := "plainly", desc := "()V" } : Jvm.MethodName)) ∈ zTB := ztp (q := (({ cls := "UnsoldPriceModel", name := "plainly", desc := "()V" } : Jvm.MethodName), 74)) 54 rfl
theorem zq55 : (Jvm.Cond.selects "UnsoldPriceModel" ({ cls := "UnsoldPriceModel", name := "goes", desc := "(Z)V" } : Jvm.MethodName) ({ cls := "UnsoldPriceModel", name := "goes", desc := "(Z)V" } : Jvm.MethodName)) ∈ zTB := ztp (q := (({ cls := "UnsoldPriceModel", name := "goes", desc := "(Z)V" } : Jvm.MethodName), 74)) 55 rfl
theorem zq56 : (Jvm.Cond.selects "UnsoldPriceModel" ({ cls := "UnsoldPriceModel", name := "askOf", desc := "(I)I" } : Jvm.MethodName) ({ cls := "UnsoldPriceModel", name := "askOf", desc := "(I)I" } : Jvm.MethodName)) ∈ zTB := ztp (q := (({ cls := "UnsoldPriceModel", name := "askOf", desc := "(I)I" } : Jvm.MethodName), 74)) 56 rfl
theorem zq57 : (Jvm.Cond.selects "UnsoldPriceModel" ({ cls := "UnsoldPriceModel", name := "serveAll", desc := "()V" } : Jvm.MethodName) ({ cls := "UnsoldPriceModel", name := "serveAll", desc := "()V" } : Jvm.MethodName)) ∈ zTB := ztp (q := (({ cls := "UnsoldPriceModel", name := "serveAll", desc := "()V" } : Jvm.MethodName), 74)) 57 rfl
theorem zq58 : (Jvm.Cond.selects "UnsoldPriceModel" ({ cls := "UnsoldPriceModel", name := "serve", desc := "(I)V" } : Jvm.MethodName) ({ cls := "UnsoldPriceModel", name := "serve", desc := "(I)V" } : Jvm.MethodName)) ∈ zTB := ztp (q := (({ cls := "UnsoldPriceModel", name := "serve", desc := "(I)V" } : Jvm.MethodName), 74)) 58 rfl
theorem zq59 : (Jvm.Cond.selects "UnsoldPriceModel" ({ cls := "UnsoldPriceModel", name := "buys", desc := "(I)Z" } : Jvm.MethodName) ({ cls := "UnsoldPriceModel", name := "buys", desc := "(I)Z" } : Jvm.MethodName)) ∈ zTB := ztp (q := (({ cls := "UnsoldPriceModel", name := "buys", desc := "(I)Z" } : Jvm.MethodName), 74)) 59 rfl
theorem zq60 : (Jvm.Cond.selects "UnsoldPriceModel" ({ cls := "UnsoldPriceModel", name := "cheapest", desc := "()I" } : Jvm.MethodName) ({ cls := "UnsoldPriceModel", name := "cheapest", desc := "()I" } : Jvm.MethodName)) ∈ zTB := ztp (q := (({ cls := "UnsoldPriceModel", name := "cheapest", desc := "()I" } : Jvm.MethodName), 74)) 60 rfl
theorem zq61 : (Jvm.Cond.selects "UnsoldPriceModel" ({ cls := "UnsoldPriceModel", name := "isSelling", desc := "(I)Z" } : Jvm.MethodName) ({ cls := "UnsoldPriceModel", name := "isSelling", desc := "(I)Z" } : Jvm.MethodName)) ∈ zTB := ztp (q := (({ cls := "UnsoldPriceModel", name := "isSelling", desc := "(I)Z" } : Jvm.MethodName), 74)) 61 rfl
theorem zq62 : (Jvm.Cond.selects "UnsoldPriceModel" ({ cls := "UnsoldPriceModel", name := "board", desc := "()V" } : Jvm.MethodName) ({ cls := "UnsoldPriceModel", name := "board", desc := "()V" } : Jvm.MethodName)) ∈ zTB := ztp (q := (({ cls := "UnsoldPriceModel", name := "board", desc := "()V" } : Jvm.MethodName), 74)) 62 rfl
theorem zq63 : (Jvm.Cond.selects "UnsoldPriceModel" ({ cls := "UnsoldPriceModel", name := "keep", desc := "()V" } : Jvm.MethodName) ({ cls := "UnsoldPriceModel", name := "keep", desc := "()V" } : Jvm.MethodName)) ∈ zTB := ztp (q := (({ cls := "UnsoldPriceModel", name := "keep", desc := "()V" } : Jvm.MethodName), 74)) 63 rfl
theorem zq64 : (Jvm.Cond.selects "UnsoldPriceModel" ({ cls := "UnsoldPriceModel", name := "tries", desc := "(I)V" } : Jvm.MethodName) ({ cls := "UnsoldPriceModel", name := "tries", desc := "(I)V" } : Jvm.MethodName)) ∈ zTB := ztp (q := (({ cls := "UnsoldPriceModel", name := "tries", desc := "(I)V" } : Jvm.MethodName), 74)) 64 rfl
theorem zq65 : (Jvm.Cond.selects "UnsoldPriceModel" ({ cls := "UnsoldPriceModel", name := "putBack", desc := "()V" } : Jvm.MethodName) ({ cls := "UnsoldPriceModel", name := "putBack", desc := "()V" } : Jvm.MethodName)) ∈ zTB := ztp (q := (({ cls := "UnsoldPriceModel", name := "putBack", desc := "()V" } : Jvm.MethodName), 74)) 65 rfl
theorem zq66 : (Jvm.Cond.selects "UnsoldPriceModel" ({ cls := "UnsoldPriceModel", name := "jumpMany", desc := "(I)I" } : Jvm.MethodName) ({ cls := "UnsoldPriceModel", name := "jumpMany", desc := "(I)I" } : Jvm.MethodName)) ∈ zTB := ztp (q := (({ cls := "UnsoldPriceModel", name := "jumpMany", desc := "(I)I" } : Jvm.MethodName), 74)) 66 rfl
theorem zq67 : (Jvm.Cond.selects "UnsoldPriceModel" ({ cls := "UnsoldPriceModel", name := "keepState", desc := "(I)V" } : Jvm.MethodName) ({ cls := "UnsoldPriceModel", name := "keepState", desc := "(I)V" } : Jvm.MethodName)) ∈ zTB := ztp (q := (({ cls := "UnsoldPriceModel", name := "keepState", desc := "(I)V" } : Jvm.MethodName), 74)) 67 rfl
theorem zq68 : (Jvm.Cond.selects "UnsoldPriceModel" ({ cls := "UnsoldPriceModel", name := "areAlike", desc := "(II)Z" } : Jvm.MethodName) ({ cls := "UnsoldPriceModel", name := "areAlike", desc := "(II)Z" } : Jvm.MethodName)) ∈ zTB := ztp (q := (({ cls := "UnsoldPriceModel", name := "areAlike", desc := "(II)Z" } : Jvm.MethodName), 74)) 68 rfl
theorem zq69 : (Jvm.Cond.selects "UnsoldPriceModel" ({ cls := "UnsoldPriceModel", name := "goBest", desc := "(III)V" } : Jvm.MethodName) ({ cls := "UnsoldPriceModel", name := "goBest", desc := "(III)V" } : Jvm.MethodName)) ∈ zTB := ztp (q := (({ cls := "UnsoldPriceModel", name := "goBest", desc := "(III)V" } : Jvm.MethodName), 74)) 69 rfl
theorem zq70 : (Jvm.Cond.selects "UnsoldPriceModel" ({ cls := "UnsoldPriceModel", name := "goRests", desc := "(II)V" } : Jvm.MethodName) ({ cls := "UnsoldPriceModel", name := "goRests", desc := "(II)V" } : Jvm.MethodName)) ∈ zTB := ztp (q := (({ cls := "UnsoldPriceModel", name := "goRests", desc := "(II)V" } : Jvm.MethodName), 74)) 70 rfl
theorem zq71 : (Jvm.Cond.selects "UnsoldPriceModel" ({ cls := "UnsoldPriceModel", name := "isRest", desc := "()Z" } : Jvm.MethodName) ({ cls := "UnsoldPriceModel", name := "isRest", desc := "()Z" } : Jvm.MethodName)) ∈ zTB := ztp (q := (({ cls := "UnsoldPriceModel", name := "isRest", desc := "()Z" } : Jvm.MethodName), 74)) 71 rfl
theorem zq72 : (Jvm.Cond.selects "UnsoldPriceModel" ({ cls := "UnsoldPriceModel", name := "takenBy", desc := "(I)I" } : Jvm.MethodName) ({ cls := "UnsoldPriceModel", name := "takenBy", desc := "(I)I" } : Jvm.MethodName)) ∈ zTB := ztp (q := (({ cls := "UnsoldPriceModel", name := "takenBy", desc := "(I)I" } : Jvm.MethodName), 74)) 72 rfl
theorem zq73 : (Jvm.Cond.selects "UnsoldPriceModel" ({ cls := "UnsoldPriceModel", name := "gainsBy", desc := "(IIIZ)I" } : Jvm.MethodName) ({ cls := "UnsoldPriceModel", name := "gainsBy", desc := "(IIIZ)I" } : Jvm.MethodName)) ∈ zTB := ztp (q := (({ cls := "UnsoldPriceModel", name := "gainsBy", desc := "(IIIZ)I" } : Jvm.MethodName), 74)) 73 rfl
theorem zq74 : (Jvm.Cond.selects "UnsoldPriceModel" ({ cls := "UnsoldPriceModel", name := "takenByAll", desc := "()I" } : Jvm.MethodName) ({ cls := "UnsoldPriceModel", name := "takenByAll", desc := "()I" } : Jvm.MethodName)) ∈ zTB := ztp (q := (({ cls := "UnsoldPriceModel", name := "takenByAll", desc := "()I" } : Jvm.MethodName), 74)) 74 rfl
theorem zq75 : (Jvm.Cond.selects "UnsoldPriceModel" ({ cls := "UnsoldPriceModel", name := "goOdds", desc := "(III)V" } : Jvm.MethodName) ({ cls := "UnsoldPriceModel", name := "goOdds", desc := "(III)V" } : Jvm.MethodName)) ∈ zTB := ztp (q := (({ cls := "UnsoldPriceModel", name := "goOdds", desc := "(III)V" } : Jvm.MethodName), 74)) 75 rfl
set_option maxRecDepth 20000 in
theorem zq76 : (Jvm.Cond.initialized "UnsoldPriceLaw") ∈ zTB := zt0 0 rfl rfl
set_option maxRecDepth 20000 in
theorem zq77 : (Jvm.Cond.initialized "UnsoldPrice") ∈ zTB := zt0 1 rfl rfl
set_option maxRecDepth 20000 in
theorem zq78 : (Jvm.Cond.initialized "UnsoldPrice$Tape") ∈ zTB := zt0 2 rfl rfl
set_option maxRecDepth 20000 in
theorem zq79 : (Jvm.Cond.initialized "UnsoldPrice$Market") ∈ zTB := zt0 3 rfl rfl
set_option maxRecDepth 20000 in
theorem zq80 : (Jvm.Cond.initialized "UnsoldPrice$Rule") ∈ zTB := zt0 4 rfl rfl
set_option maxRecDepth 20000 in
theorem zq81 : (Jvm.Cond.initialized "UnsoldPrice$State") ∈ zTB := zt0 5 rfl rfl
set_option maxRecDepth 20000 in
theorem zq82 : (Jvm.Cond.initialized "UnsoldPrice$Runner") ∈ zTB := zt0 6 rfl rfl
set_option maxRecDepth 20000 in
theorem zq83 : (Jvm.Cond.initialized "UnsoldPrice$Reader") ∈ zTB := zt0 7 rfl rfl
set_option maxRecDepth 20000 in
theorem zq84 : (Jvm.Cond.initialized "UnsoldPrice$MarketReader") ∈ zTB := zt0 8 rfl rfl
set_option maxRecDepth 20000 in
theorem zq85 : (Jvm.Cond.initialized "UnsoldPrice$RuleReader") ∈ zTB := zt0 9 rfl rfl
set_option maxRecDepth 20000 in
theorem zq86 : (Jvm.Cond.initialized "UnsoldPrice$Walk") ∈ zTB := zt0 10 rfl rfl
set_option maxRecDepth 20000 in
theorem zq87 : (Jvm.Cond.initialized "UnsoldPrice$Search") ∈ zTB := zt0 11 rfl rfl
set_option maxRecDepth 20000 in
theorem zq88 : (Jvm.Cond.initialized "UnsoldPrice$Notes") ∈ zTB := zt0 12 rfl rfl
set_option maxRecDepth 20000 in
theorem zq89 : (Jvm.Cond.initialized "java/lang/Math") ∈ zTB := zt0 13 rfl rfl
set_option maxRecDepth 20000 in
theorem zq90 : (Jvm.Cond.initialized "UnsoldPriceModel") ∈ zTB := zt0 14 rfl rfl
set_option maxRecDepth 20000 in
theorem zq91 : (Jvm.Cond.initialized "java/lang/String") ∈ zTB := zt0 15 rfl rfl
set_option maxRecDepth 20000 in
theorem zq92 : (Jvm.Cond.initialized "java/lang/StringLatin1") ∈ zTB := zt0 16 rfl rfl
set_option maxRecDepth 20000 in
theorem zq93 : (Jvm.Cond.initialized "jdk/internal/util/Preconditions") ∈ zTB := zt0 17 rfl rfl
set_option maxRecDepth 20000 in
theorem zq98 : (Jvm.Cond.initialized "java/util/NoSuchElementException") ∈ zTB := zt0 22 rfl rfl
set_option maxRecDepth 20000 in
theorem zq99 : (Jvm.Cond.initialized "java/lang/System") ∈ zTB := zt0 23 rfl rfl
set_option maxRecDepth 20000 in
theorem zq100 : (Jvm.Cond.initialized "java/lang/Integer") ∈ zTB := zt0 24 rfl rfl
set_option maxRecDepth 20000 in
theorem zq104 : (Jvm.Cond.instanceMethod ({ cls := "UnsoldPrice", name := "<init>", desc := "()V" } : Jvm.MethodName)) ∈ zTB := zt0 28 rfl rfl
set_option maxRecDepth 20000 in
theorem zq105 : (Jvm.Cond.code ({ cls := "UnsoldPrice", name := "<init>", desc := "()V" } : Jvm.MethodName) prog_1_method_1_code (6 : Nat) (Option.none : Option Jvm.ClassFile.FieldType)) ∈ zTB := zt0 29 rfl rfl
set_option maxRecDepth 20000 in
theorem zq106 : (Jvm.Cond.methodLink "UnsoldPrice" (1 : Nat) ({ cls := "java/lang/Object", name := "<init>", desc := "()V" } : Jvm.MethodName)) ∈ zTB := zt0 30 rfl rfl
set_option maxRecDepth 20000 in
theorem zq107 : (Jvm.Cond.instanceMethod ({ cls := "java/lang/Object", name := "<init>", desc := "()V" } : Jvm.MethodName)) ∈ zTB := zt0 31 rfl rfl
set_option maxRecDepth 20000 in
theorem zq108 : (Jvm.Cond.code ({ cls := "java/lang/Object", name := "<init>", desc := "()V" } : Jvm.MethodName) object_method_1_code (1 : Nat) (Option.none : Option Jvm.ClassFile.FieldType)) ∈ zTB := zt0 32 rfl rfl
set_option maxRecDepth 20000 in
theorem zq109 : (Jvm.Cond.classLink "UnsoldPrice" (7 : Nat) "UnsoldPrice$Tape") ∈ zTB := zt0 33 rfl rfl
set_option maxRecDepth 20000 in
theorem zq110 : (Jvm.Cond.instantiable "UnsoldPrice$Tape" (2 : Nat)) ∈ zTB := zt0 34 rfl rfl
set_option maxRecDepth 20000 in
theorem zq112 : (Jvm.Cond.instanceMethod ({ cls := "UnsoldPrice$Tape", name := "<init>", desc := "()V" } : Jvm.MethodName)) ∈ zTB := zt0 36 rfl rfl
set_option maxRecDepth 20000 in
theorem zq113 : (Jvm.Cond.code ({ cls := "UnsoldPrice$Tape", name := "<init>", desc := "()V" } : Jvm.MethodName) prog_11_method_1_code (1 : Nat) (Option.none : Option Jvm.ClassFile.FieldType)) ∈ zTB := zt0 37 rfl rfl
set_option maxRecDepth 20000 in
theorem zq114 : (Jvm.Cond.methodLink "UnsoldPrice$Tape" (3 : Nat) ({ cls := "java/lang/Object", name := "<init>", desc := "()V" } : Jvm.MethodName)) ∈ zTB := zt0 38 rfl rfl
set_option maxRecDepth 20000 in
theorem zq115 : (Jvm.Cond.fieldLink "UnsoldPrice$Tape" (9 : Nat) "UnsoldPrice$Tape" "bytes" "[I") ∈ zTB := zt0 39 rfl rfl
set_option maxRecDepth 20000 in
theorem zq116 : (Jvm.Cond.fieldLink "UnsoldPrice$Tape" (15 : Nat) "UnsoldPrice$Tape" "length" "I") ∈ zTB := zt0 40 rfl rfl
set_option maxRecDepth 20000 in
theorem zq117 : (Jvm.Cond.fieldLink "UnsoldPrice" (104 : Nat) "UnsoldPrice$Tape" "length" "I") ∈ zTB := zt0 41 rfl rfl
set_option maxRecDepth 20000 in
theorem zq123 : (Jvm.Cond.arrayClass Jvm.ClassFile.FieldType.int) ∈ zTB := zt0 47 rfl rfl
set_option maxRecDepth 20000 in
theorem zq124 : (Jvm.Cond.classLink "UnsoldPrice" (10 : Nat) "UnsoldPrice$Market") ∈ zTB := zt0 48 rfl rfl
set_option maxRecDepth 20000 in
theorem zq125 : (Jvm.Cond.instantiable "UnsoldPrice$Market" (12 : Nat)) ∈ zTB := zt0 49 rfl rfl
set_option maxRecDepth 20000 in
theorem zq127 : (Jvm.Cond.instanceMethod ({ cls := "UnsoldPrice$Market", name := "<init>", desc := "()V" } : Jvm.MethodName)) ∈ zTB := zt0 51 rfl rfl
set_option maxRecDepth 20000 in
theorem zq128 : (Jvm.Cond.code ({ cls := "UnsoldPrice$Market", name := "<init>", desc := "()V" } : Jvm.MethodName) prog_2_method_1_code (1 : Nat) (Option.none : Option Jvm.ClassFile.FieldType)) ∈ zTB := zt0 52 rfl rfl
set_option maxRecDepth 20000 in
theorem zq129 : (Jvm.Cond.methodLink "UnsoldPrice$Market" (3 : Nat) ({ cls := "java/lang/Object", name := "<init>", desc := "()V" } : Jvm.MethodName)) ∈ zTB := zt0 53 rfl rfl
set_option maxRecDepth 20000 in
theorem zq130 : (Jvm.Cond.fieldLink "UnsoldPrice$Market" (33 : Nat) "UnsoldPrice$Market" "sellers" "I") ∈ zTB := zt0 54 rfl rfl
set_option maxRecDepth 20000 in
theorem zq131 : (Jvm.Cond.fieldLink "UnsoldPrice$Runner" (35 : Nat) "UnsoldPrice$Market" "sellers" "I") ∈ zTB := zt0 55 rfl rfl
set_option maxRecDepth 20000 in
theorem zq132 : (Jvm.Cond.fieldLink "UnsoldPrice$MarketReader" (40 : Nat) "UnsoldPrice$Market" "sellers" "I") ∈ zTB := zt0 56 rfl rfl
set_option maxRecDepth 20000 in
theorem zq133 : (Jvm.Cond.fieldLink "UnsoldPrice$Walk" (77 : Nat) "UnsoldPrice$Market" "sellers" "I") ∈ zTB := zt0 57 rfl rfl
set_option maxRecDepth 20000 in
theorem zq134 : (Jvm.Cond.fieldLink "UnsoldPrice$Search" (109 : Nat) "UnsoldPrice$Market" "sellers" "I") ∈ zTB := zt0 58 rfl rfl
set_option maxRecDepth 20000 in
theorem zq135 : (Jvm.Cond.fieldLink "UnsoldPrice" (249 : Nat) "UnsoldPrice$Market" "sellers" "I") ∈ zTB := zt0 59 rfl rfl
set_option maxRecDepth 20000 in
theorem zq136 : (Jvm.Cond.fieldLink "UnsoldPrice$Market" (37 : Nat) "UnsoldPrice$Market" "sorts" "I") ∈ zTB := zt0 60 rfl rfl
set_option maxRecDepth 20000 in
theorem zq137 : (Jvm.Cond.fieldLink "UnsoldPrice$MarketReader" (43 : Nat) "UnsoldPrice$Market" "sorts" "I") ∈ zTB := zt0 61 rfl rfl
set_option maxRecDepth 20000 in
theorem zq138 : (Jvm.Cond.fieldLink "UnsoldPrice$Runner" (92 : Nat) "UnsoldPrice$Market" "sorts" "I") ∈ zTB := zt0 62 rfl rfl
set_option maxRecDepth 20000 in
theorem zq139 : (Jvm.Cond.fieldLink "UnsoldPrice" (350 : Nat) "UnsoldPrice$Market" "sorts" "I") ∈ zTB := zt0 63 rfl rfl
set_option maxRecDepth 20000 in
theorem zq140 : (Jvm.Cond.fieldLink "UnsoldPrice$Market" (40 : Nat) "UnsoldPrice$Market" "hasLaw" "Z") ∈ zTB := zt0 64 rfl rfl
set_option maxRecDepth 20000 in
theorem zq141 : (Jvm.Cond.fieldLink "UnsoldPrice$MarketReader" (75 : Nat) "UnsoldPrice$Market" "hasLaw" "Z") ∈ zTB := zt0 65 rfl rfl
set_option maxRecDepth 20000 in
theorem zq142 : (Jvm.Cond.fieldLink "UnsoldPrice$Runner" (44 : Nat) "UnsoldPrice$Market" "lead" "I") ∈ zTB := zt0 66 rfl rfl
set_option maxRecDepth 20000 in
theorem zq143 : (Jvm.Cond.fieldLink "UnsoldPrice$Market" (47 : Nat) "UnsoldPrice$Market" "lead" "I") ∈ zTB := zt0 67 rfl rfl
set_option maxRecDepth 20000 in
theorem zq144 : (Jvm.Cond.fieldLink "UnsoldPrice" (356 : Nat) "UnsoldPrice$Market" "lead" "I") ∈ zTB := zt0 68 rfl rfl
set_option maxRecDepth 20000 in
theorem zq145 : (Jvm.Cond.fieldLink "UnsoldPrice$Market" (50 : Nat) "UnsoldPrice$Market" "free" "I") ∈ zTB := zt0 69 rfl rfl
set_option maxRecDepth 20000 in
theorem zq146 : (Jvm.Cond.fieldLink "UnsoldPrice$Runner" (151 : Nat) "UnsoldPrice$Market" "free" "I") ∈ zTB := zt0 70 rfl rfl
set_option maxRecDepth 20000 in
theorem zq147 : (Jvm.Cond.fieldLink "UnsoldPrice" (353 : Nat) "UnsoldPrice$Market" "free" "I") ∈ zTB := zt0 71 rfl rfl
set_option maxRecDepth 20000 in
theorem zq148 : (Jvm.Cond.fieldLink "UnsoldPrice$Market" (9 : Nat) "UnsoldPrice$Market" "brings" "[I") ∈ zTB := zt0 72 rfl rfl
set_option maxRecDepth 20000 in
theorem zq149 : (Jvm.Cond.fieldLink "UnsoldPrice$Runner" (69 : Nat) "UnsoldPrice$Market" "brings" "[I") ∈ zTB := zt0 73 rfl rfl
set_option maxRecDepth 20000 in
theorem zq150 : (Jvm.Cond.fieldLink "UnsoldPrice" (139 : Nat) "UnsoldPrice$Market" "brings" "[I") ∈ zTB := zt0 74 rfl rfl
set_option maxRecDepth 20000 in
theorem zq151 : (Jvm.Cond.fieldLink "UnsoldPrice$Walk" (134 : Nat) "UnsoldPrice$Market" "brings" "[I") ∈ zTB := zt0 75 rfl rfl
set_option maxRecDepth 20000 in
theorem zq152 : (Jvm.Cond.fieldLink "UnsoldPrice$Market" (15 : Nat) "UnsoldPrice$Market" "cost" "[I") ∈ zTB := zt0 76 rfl rfl
set_option maxRecDepth 20000 in
theorem zq153 : (Jvm.Cond.fieldLink "UnsoldPrice$Runner" (86 : Nat) "UnsoldPrice$Market" "cost" "[I") ∈ zTB := zt0 77 rfl rfl
set_option maxRecDepth 20000 in
theorem zq154 : (Jvm.Cond.fieldLink "UnsoldPrice" (143 : Nat) "UnsoldPrice$Market" "cost" "[I") ∈ zTB := zt0 78 rfl rfl
set_option maxRecDepth 20000 in
theorem zq155 : (Jvm.Cond.fieldLink "UnsoldPrice$Market" (18 : Nat) "UnsoldPrice$Market" "rot" "[I") ∈ zTB := zt0 79 rfl rfl
set_option maxRecDepth 20000 in
theorem zq156 : (Jvm.Cond.fieldLink "UnsoldPrice" (146 : Nat) "UnsoldPrice$Market" "rot" "[I") ∈ zTB := zt0 80 rfl rfl
set_option maxRecDepth 20000 in
theorem zq157 : (Jvm.Cond.fieldLink "UnsoldPrice$Runner" (154 : Nat) "UnsoldPrice$Market" "rot" "[I") ∈ zTB := zt0 81 rfl rfl
set_option maxRecDepth 20000 in
theorem zq158 : (Jvm.Cond.fieldLink "UnsoldPrice$Market" (21 : Nat) "UnsoldPrice$Market" "worth" "[I") ∈ zTB := zt0 82 rfl rfl
set_option maxRecDepth 20000 in
theorem zq159 : (Jvm.Cond.fieldLink "UnsoldPrice" (173 : Nat) "UnsoldPrice$Market" "worth" "[I") ∈ zTB := zt0 83 rfl rfl
set_option maxRecDepth 20000 in
theorem zq160 : (Jvm.Cond.fieldLink "UnsoldPrice$Runner" (139 : Nat) "UnsoldPrice$Market" "worth" "[I") ∈ zTB := zt0 84 rfl rfl
set_option maxRecDepth 20000 in
theorem zq161 : (Jvm.Cond.fieldLink "UnsoldPrice$Market" (24 : Nat) "UnsoldPrice$Market" "many" "[I") ∈ zTB := zt0 85 rfl rfl
set_option maxRecDepth 20000 in
theorem zq162 : (Jvm.Cond.fieldLink "UnsoldPrice$Runner" (98 : Nat) "UnsoldPrice$Market" "many" "[I") ∈ zTB := zt0 86 rfl rfl
set_option maxRecDepth 20000 in
theorem zq163 : (Jvm.Cond.fieldLink "UnsoldPrice" (176 : Nat) "UnsoldPrice$Market" "many" "[I") ∈ zTB := zt0 87 rfl rfl
set_option maxRecDepth 20000 in
theorem zq164 : (Jvm.Cond.fieldLink "UnsoldPrice$Market" (27 : Nat) "UnsoldPrice$Market" "waits" "[I") ∈ zTB := zt0 88 rfl rfl
set_option maxRecDepth 20000 in
theorem zq165 : (Jvm.Cond.fieldLink "UnsoldPrice" (179 : Nat) "UnsoldPrice$Market" "waits" "[I") ∈ zTB := zt0 89 rfl rfl
set_option maxRecDepth 20000 in
theorem zq166 : (Jvm.Cond.fieldLink "UnsoldPrice$Runner" (157 : Nat) "UnsoldPrice$Market" "waits" "[I") ∈ zTB := zt0 90 rfl rfl
set_option maxRecDepth 20000 in
theorem zq167 : (Jvm.Cond.fieldLink "UnsoldPrice$Market" (30 : Nat) "UnsoldPrice$Market" "byWorth" "[I") ∈ zTB := zt0 91 rfl rfl
set_option maxRecDepth 20000 in
theorem zq168 : (Jvm.Cond.fieldLink "UnsoldPrice$Runner" (132 : Nat) "UnsoldPrice$Market" "byWorth" "[I") ∈ zTB := zt0 92 rfl rfl
set_option maxRecDepth 20000 in
theorem zq194 : (Jvm.Cond.classLink "UnsoldPrice" (15 : Nat) "UnsoldPrice$Rule") ∈ zTB := zt0 118 rfl rfl
set_option maxRecDepth 20000 in
theorem zq196 : (Jvm.Cond.instantiable "UnsoldPrice$Rule" (3 : Nat)) ∈ zTB := zt0 120 rfl rfl
set_option maxRecDepth 20000 in
theorem zq198 : (Jvm.Cond.instanceMethod ({ cls := "UnsoldPrice$Rule", name := "<init>", desc := "()V" } : Jvm.MethodName)) ∈ zTB := zt0 122 rfl rfl
set_option maxRecDepth 20000 in
theorem zq199 : (Jvm.Cond.code ({ cls := "UnsoldPrice$Rule", name := "<init>", desc := "()V" } : Jvm.MethodName) prog_6_method_1_code (1 : Nat) (Option.none : Option Jvm.ClassFile.FieldType)) ∈ zTB := zt0 123 rfl rfl
set_option maxRecDepth 20000 in
theorem zq200 : (Jvm.Cond.methodLink "UnsoldPrice$Rule" (3 : Nat) ({ cls := "java/lang/Object", name := "<init>", desc := "()V" } : Jvm.MethodName)) ∈ zTB := zt0 124 rfl rfl
set_option maxRecDepth 20000 in
theorem zq201 : (Jvm.Cond.fieldLink "UnsoldPrice$Rule" (9 : Nat) "UnsoldPrice$Rule" "code" "[I") ∈ zTB := zt0 125 rfl rfl
set_option maxRecDepth 20000 in
theorem zq202 : (Jvm.Cond.fieldLink "UnsoldPrice$Rule" (15 : Nat) "UnsoldPrice$Rule" "stack" "[I") ∈ zTB := zt0 126 rfl rfl
set_option maxRecDepth 20000 in
theorem zq203 : (Jvm.Cond.fieldLink "UnsoldPrice$Rule" (18 : Nat) "UnsoldPrice$Rule" "length" "I") ∈ zTB := zt0 127 rfl rfl
set_option maxRecDepth 20000 in
theorem zq204 : (Jvm.Cond.fieldLink "UnsoldPrice$RuleReader" (19 : Nat) "UnsoldPrice$Rule" "length" "I") ∈ zTB := zt0 128 rfl rfl
set_option maxRecDepth 20000 in
theorem zq212 : (Jvm.Cond.classLink "UnsoldPrice" (18 : Nat) "UnsoldPrice$State") ∈ zTB := zt0 136 rfl rfl
set_option maxRecDepth 20000 in
theorem zq213 : (Jvm.Cond.instantiable "UnsoldPrice$State" (14 : Nat)) ∈ zTB := zt0 137 rfl rfl
set_option maxRecDepth 20000 in
theorem zq215 : (Jvm.Cond.instanceMethod ({ cls := "UnsoldPrice$State", name := "<init>", desc := "()V" } : Jvm.MethodName)) ∈ zTB := zt0 139 rfl rfl
set_option maxRecDepth 20000 in
theorem zq216 : (Jvm.Cond.code ({ cls := "UnsoldPrice$State", name := "<init>", desc := "()V" } : Jvm.MethodName) prog_10_method_1_code (1 : Nat) (Option.none : Option Jvm.ClassFile.FieldType)) ∈ zTB := zt0 140 rfl rfl
set_option maxRecDepth 20000 in
theorem zq217 : (Jvm.Cond.methodLink "UnsoldPrice$State" (3 : Nat) ({ cls := "java/lang/Object", name := "<init>", desc := "()V" } : Jvm.MethodName)) ∈ zTB := zt0 141 rfl rfl
set_option maxRecDepth 20000 in
theorem zq218 : (Jvm.Cond.fieldLink "UnsoldPrice$State" (39 : Nat) "UnsoldPrice$State" "board" "I") ∈ zTB := zt0 142 rfl rfl
set_option maxRecDepth 20000 in
theorem zq219 : (Jvm.Cond.fieldLink "UnsoldPrice$Walk" (45 : Nat) "UnsoldPrice$State" "board" "I") ∈ zTB := zt0 143 rfl rfl
set_option maxRecDepth 20000 in
theorem zq220 : (Jvm.Cond.fieldLink "UnsoldPrice$Runner" (101 : Nat) "UnsoldPrice$State" "board" "I") ∈ zTB := zt0 144 rfl rfl
set_option maxRecDepth 20000 in
theorem zq221 : (Jvm.Cond.fieldLink "UnsoldPrice$Search" (90 : Nat) "UnsoldPrice$State" "board" "I") ∈ zTB := zt0 145 rfl rfl
set_option maxRecDepth 20000 in
theorem zq222 : (Jvm.Cond.fieldLink "UnsoldPrice" (209 : Nat) "UnsoldPrice$State" "board" "I") ∈ zTB := zt0 146 rfl rfl
set_option maxRecDepth 20000 in
theorem zq223 : (Jvm.Cond.fieldLink "UnsoldPrice$State" (43 : Nat) "UnsoldPrice$State" "day" "I") ∈ zTB := zt0 147 rfl rfl
set_option maxRecDepth 20000 in
theorem zq224 : (Jvm.Cond.fieldLink "UnsoldPrice$Runner" (104 : Nat) "UnsoldPrice$State" "day" "I") ∈ zTB := zt0 148 rfl rfl
set_option maxRecDepth 20000 in
theorem zq225 : (Jvm.Cond.fieldLink "UnsoldPrice" (347 : Nat) "UnsoldPrice$State" "day" "I") ∈ zTB := zt0 149 rfl rfl
set_option maxRecDepth 20000 in
theorem zq226 : (Jvm.Cond.fieldLink "UnsoldPrice$State" (46 : Nat) "UnsoldPrice$State" "surplus" "I") ∈ zTB := zt0 150 rfl rfl
set_option maxRecDepth 20000 in
theorem zq227 : (Jvm.Cond.fieldLink "UnsoldPrice$Runner" (141 : Nat) "UnsoldPrice$State" "surplus" "I") ∈ zTB := zt0 151 rfl rfl
set_option maxRecDepth 20000 in
theorem zq228 : (Jvm.Cond.fieldLink "UnsoldPrice" (299 : Nat) "UnsoldPrice$State" "surplus" "I") ∈ zTB := zt0 152 rfl rfl
set_option maxRecDepth 20000 in
theorem zq229 : (Jvm.Cond.fieldLink "UnsoldPrice$State" (49 : Nat) "UnsoldPrice$State" "holds" "I") ∈ zTB := zt0 153 rfl rfl
set_option maxRecDepth 20000 in
theorem zq230 : (Jvm.Cond.fieldLink "UnsoldPrice" (275 : Nat) "UnsoldPrice$State" "holds" "I") ∈ zTB := zt0 154 rfl rfl
set_option maxRecDepth 20000 in
theorem zq231 : (Jvm.Cond.fieldLink "UnsoldPrice$State" (52 : Nat) "UnsoldPrice$State" "draws" "J") ∈ zTB := zt0 155 rfl rfl
set_option maxRecDepth 20000 in
theorem zq232 : (Jvm.Cond.fieldLink "UnsoldPrice" (192 : Nat) "UnsoldPrice$State" "draws" "J") ∈ zTB := zt0 156 rfl rfl
set_option maxRecDepth 20000 in
theorem zq233 : (Jvm.Cond.fieldLink "UnsoldPrice$State" (9 : Nat) "UnsoldPrice$State" "goods" "[I") ∈ zTB := zt0 157 rfl rfl
set_option maxRecDepth 20000 in
theorem zq234 : (Jvm.Cond.fieldLink "UnsoldPrice$Runner" (72 : Nat) "UnsoldPrice$State" "goods" "[I") ∈ zTB := zt0 158 rfl rfl
set_option maxRecDepth 20000 in
theorem zq235 : (Jvm.Cond.fieldLink "UnsoldPrice$Walk" (89 : Nat) "UnsoldPrice$State" "goods" "[I") ∈ zTB := zt0 159 rfl rfl
set_option maxRecDepth 20000 in
theorem zq236 : (Jvm.Cond.fieldLink "UnsoldPrice" (149 : Nat) "UnsoldPrice$State" "goods" "[I") ∈ zTB := zt0 160 rfl rfl
set_option maxRecDepth 20000 in
theorem zq237 : (Jvm.Cond.fieldLink "UnsoldPrice$State" (15 : Nat) "UnsoldPrice$State" "left" "[I") ∈ zTB := zt0 161 rfl rfl
set_option maxRecDepth 20000 in
theorem zq238 : (Jvm.Cond.fieldLink "UnsoldPrice$Runner" (117 : Nat) "UnsoldPrice$State" "left" "[I") ∈ zTB := zt0 162 rfl rfl
set_option maxRecDepth 20000 in
theorem zq239 : (Jvm.Cond.fieldLink "UnsoldPrice" (152 : Nat) "UnsoldPrice$State" "left" "[I") ∈ zTB := zt0 163 rfl rfl
set_option maxRecDepth 20000 in
theorem zq240 : (Jvm.Cond.fieldLink "UnsoldPrice$Walk" (131 : Nat) "UnsoldPrice$State" "left" "[I") ∈ zTB := zt0 164 rfl rfl
set_option maxRecDepth 20000 in
theorem zq241 : (Jvm.Cond.fieldLink "UnsoldPrice$State" (18 : Nat) "UnsoldPrice$State" "gain" "[I") ∈ zTB := zt0 165 rfl rfl
set_option maxRecDepth 20000 in
theorem zq242 : (Jvm.Cond.fieldLink "UnsoldPrice$Runner" (83 : Nat) "UnsoldPrice$State" "gain" "[I") ∈ zTB := zt0 166 rfl rfl
set_option maxRecDepth 20000 in
theorem zq243 : (Jvm.Cond.fieldLink "UnsoldPrice$Search" (86 : Nat) "UnsoldPrice$State" "gain" "[I") ∈ zTB := zt0 167 rfl rfl
set_option maxRecDepth 20000 in
theorem zq244 : (Jvm.Cond.fieldLink "UnsoldPrice" (155 : Nat) "UnsoldPrice$State" "gain" "[I") ∈ zTB := zt0 168 rfl rfl
set_option maxRecDepth 20000 in
theorem zq245 : (Jvm.Cond.fieldLink "UnsoldPrice$Walk" (137 : Nat) "UnsoldPrice$State" "gain" "[I") ∈ zTB := zt0 169 rfl rfl
set_option maxRecDepth 20000 in
theorem zq246 : (Jvm.Cond.fieldLink "UnsoldPrice$State" (21 : Nat) "UnsoldPrice$State" "asked" "[I") ∈ zTB := zt0 170 rfl rfl
set_option maxRecDepth 20000 in
theorem zq247 : (Jvm.Cond.fieldLink "UnsoldPrice$Runner" (110 : Nat) "UnsoldPrice$State" "asked" "[I") ∈ zTB := zt0 171 rfl rfl
set_option maxRecDepth 20000 in
theorem zq248 : (Jvm.Cond.fieldLink "UnsoldPrice" (164 : Nat) "UnsoldPrice$State" "asked" "[I") ∈ zTB := zt0 172 rfl rfl
set_option maxRecDepth 20000 in
theorem zq249 : (Jvm.Cond.fieldLink "UnsoldPrice$Walk" (128 : Nat) "UnsoldPrice$State" "asked" "[I") ∈ zTB := zt0 173 rfl rfl
set_option maxRecDepth 20000 in
theorem zq250 : (Jvm.Cond.fieldLink "UnsoldPrice$Search" (136 : Nat) "UnsoldPrice$State" "asked" "[I") ∈ zTB := zt0 174 rfl rfl
set_option maxRecDepth 20000 in
theorem zq251 : (Jvm.Cond.fieldLink "UnsoldPrice$State" (24 : Nat) "UnsoldPrice$State" "sold" "[I") ∈ zTB := zt0 175 rfl rfl
set_option maxRecDepth 20000 in
theorem zq252 : (Jvm.Cond.fieldLink "UnsoldPrice$Runner" (89 : Nat) "UnsoldPrice$State" "sold" "[I") ∈ zTB := zt0 176 rfl rfl
set_option maxRecDepth 20000 in
theorem zq253 : (Jvm.Cond.fieldLink "UnsoldPrice" (167 : Nat) "UnsoldPrice$State" "sold" "[I") ∈ zTB := zt0 177 rfl rfl
set_option maxRecDepth 20000 in
theorem zq254 : (Jvm.Cond.fieldLink "UnsoldPrice$Search" (145 : Nat) "UnsoldPrice$State" "sold" "[I") ∈ zTB := zt0 178 rfl rfl
set_option maxRecDepth 20000 in
theorem zq255 : (Jvm.Cond.fieldLink "UnsoldPrice$State" (27 : Nat) "UnsoldPrice$State" "ruleOf" "[I") ∈ zTB := zt0 179 rfl rfl
set_option maxRecDepth 20000 in
theorem zq256 : (Jvm.Cond.fieldLink "UnsoldPrice$Runner" (107 : Nat) "UnsoldPrice$State" "ruleOf" "[I") ∈ zTB := zt0 180 rfl rfl
set_option maxRecDepth 20000 in
theorem zq257 : (Jvm.Cond.fieldLink "UnsoldPrice" (158 : Nat) "UnsoldPrice$State" "ruleOf" "[I") ∈ zTB := zt0 181 rfl rfl
set_option maxRecDepth 20000 in
theorem zq258 : (Jvm.Cond.fieldLink "UnsoldPrice$State" (30 : Nat) "UnsoldPrice$State" "waits" "[I") ∈ zTB := zt0 182 rfl rfl
set_option maxRecDepth 20000 in
theorem zq259 : (Jvm.Cond.fieldLink "UnsoldPrice$Runner" (95 : Nat) "UnsoldPrice$State" "waits" "[I") ∈ zTB := zt0 183 rfl rfl
set_option maxRecDepth 20000 in
theorem zq260 : (Jvm.Cond.fieldLink "UnsoldPrice$State" (33 : Nat) "UnsoldPrice$State" "bought" "[I") ∈ zTB := zt0 184 rfl rfl
set_option maxRecDepth 20000 in
theorem zq261 : (Jvm.Cond.fieldLink "UnsoldPrice$Runner" (144 : Nat) "UnsoldPrice$State" "bought" "[I") ∈ zTB := zt0 185 rfl rfl
set_option maxRecDepth 20000 in
theorem zq262 : (Jvm.Cond.fieldLink "UnsoldPrice" (320 : Nat) "UnsoldPrice$State" "bought" "[I") ∈ zTB := zt0 186 rfl rfl
set_option maxRecDepth 20000 in
theorem zq263 : (Jvm.Cond.fieldLink "UnsoldPrice$State" (36 : Nat) "UnsoldPrice$State" "gone" "[I") ∈ zTB := zt0 187 rfl rfl
set_option maxRecDepth 20000 in
theorem zq264 : (Jvm.Cond.fieldLink "UnsoldPrice$Runner" (158 : Nat) "UnsoldPrice$State" "gone" "[I") ∈ zTB := zt0 188 rfl rfl
set_option maxRecDepth 20000 in
theorem zq265 : (Jvm.Cond.fieldLink "UnsoldPrice" (323 : Nat) "UnsoldPrice$State" "gone" "[I") ∈ zTB := zt0 189 rfl rfl
set_option maxRecDepth 20000 in
theorem zq295 : (Jvm.Cond.classLink "UnsoldPrice" (21 : Nat) "UnsoldPrice$Runner") ∈ zTB := zt0 219 rfl rfl
set_option maxRecDepth 20000 in
theorem zq296 : (Jvm.Cond.instantiable "UnsoldPrice$Runner" (11 : Nat)) ∈ zTB := zt0 220 rfl rfl
set_option maxRecDepth 20000 in
theorem zq297 : (Jvm.Cond.methodLink "UnsoldPrice" (23 : Nat) ({ cls := "UnsoldPrice$Runner", name := "<init>", desc := "(LUnsoldPrice$Market;[LUnsoldPrice$Rule;)V" } : Jvm.MethodName)) ∈ zTB := zt0 221 rfl rfl
set_option maxRecDepth 20000 in
theorem zq298 : (Jvm.Cond.instanceMethod ({ cls := "UnsoldPrice$Runner", name := "<init>", desc := "(LUnsoldPrice$Market;[LUnsoldPrice$Rule;)V" } : Jvm.MethodName)) ∈ zTB := zt0 222 rfl rfl
set_option maxRecDepth 20000 in
theorem zq299 : (Jvm.Cond.code ({ cls := "UnsoldPrice$Runner", name := "<init>", desc := "(LUnsoldPrice$Market;[LUnsoldPrice$Rule;)V" } : Jvm.MethodName) prog_8_method_1_code (3 : Nat) (Option.none : Option Jvm.ClassFile.FieldType)) ∈ zTB := zt0 223 rfl rfl
set_option maxRecDepth 20000 in
theorem zq300 : (Jvm.Cond.methodLink "UnsoldPrice$Runner" (3 : Nat) ({ cls := "java/lang/Object", name := "<init>", desc := "()V" } : Jvm.MethodName)) ∈ zTB := zt0 224 rfl rfl
set_option maxRecDepth 20000 in
theorem zq301 : (Jvm.Cond.fieldLink "UnsoldPrice$Runner" (27 : Nat) "UnsoldPrice$Runner" "market" "LUnsoldPrice$Market;") ∈ zTB := zt0 225 rfl rfl
set_option maxRecDepth 20000 in
theorem zq302 : (Jvm.Cond.fieldLink "UnsoldPrice$Runner" (31 : Nat) "UnsoldPrice$Runner" "rules" "[LUnsoldPrice$Rule;") ∈ zTB := zt0 226 rfl rfl
set_option maxRecDepth 20000 in
theorem zq303 : (Jvm.Cond.fieldLink "UnsoldPrice$Runner" (9 : Nat) "UnsoldPrice$Runner" "told" "[I") ∈ zTB := zt0 227 rfl rfl
set_option maxRecDepth 20000 in
theorem zq304 : (Jvm.Cond.fieldLink "UnsoldPrice$Walk" (85 : Nat) "UnsoldPrice$Runner" "told" "[I") ∈ zTB := zt0 228 rfl rfl
set_option maxRecDepth 20000 in
theorem zq305 : (Jvm.Cond.fieldLink "UnsoldPrice$Search" (93 : Nat) "UnsoldPrice$Runner" "told" "[I") ∈ zTB := zt0 229 rfl rfl
set_option maxRecDepth 20000 in
theorem zq306 : (Jvm.Cond.fieldLink "UnsoldPrice" (330 : Nat) "UnsoldPrice$Runner" "told" "[I") ∈ zTB := zt0 230 rfl rfl
set_option maxRecDepth 20000 in
theorem zq307 : (Jvm.Cond.fieldLink "UnsoldPrice$Runner" (15 : Nat) "UnsoldPrice$Runner" "morning" "[I") ∈ zTB := zt0 231 rfl rfl
set_option maxRecDepth 20000 in
theorem zq308 : (Jvm.Cond.fieldLink "UnsoldPrice$Walk" (121 : Nat) "UnsoldPrice$Runner" "morning" "[I") ∈ zTB := zt0 232 rfl rfl
set_option maxRecDepth 20000 in
theorem zq309 : (Jvm.Cond.fieldLink "UnsoldPrice$Runner" (47 : Nat) "UnsoldPrice$Runner" "lead" "I") ∈ zTB := zt0 233 rfl rfl
set_option maxRecDepth 20000 in
theorem zq310 : (Jvm.Cond.fieldLink "UnsoldPrice" (296 : Nat) "UnsoldPrice$Runner" "lead" "I") ∈ zTB := zt0 234 rfl rfl
set_option maxRecDepth 20000 in
theorem zq311 : (Jvm.Cond.fieldLink "UnsoldPrice$Runner" (41 : Nat) "UnsoldPrice$Runner" "stands" "I") ∈ zTB := zt0 235 rfl rfl
set_option maxRecDepth 20000 in
theorem zq312 : (Jvm.Cond.fieldLink "UnsoldPrice$Walk" (82 : Nat) "UnsoldPrice$Runner" "stands" "I") ∈ zTB := zt0 236 rfl rfl
set_option maxRecDepth 20000 in
theorem zq313 : (Jvm.Cond.fieldLink "UnsoldPrice$Walk" (108 : Nat) "UnsoldPrice$Runner" "jumped" "Z") ∈ zTB := zt0 237 rfl rfl
set_option maxRecDepth 20000 in
theorem zq314 : (Jvm.Cond.fieldLink "UnsoldPrice$Runner" (147 : Nat) "UnsoldPrice$Runner" "jumped" "Z") ∈ zTB := zt0 238 rfl rfl
set_option maxRecDepth 20000 in
theorem zq315 : (Jvm.Cond.fieldLink "UnsoldPrice$Runner" (18 : Nat) "UnsoldPrice$Runner" "line" "[I") ∈ zTB := zt0 239 rfl rfl
set_option maxRecDepth 20000 in
theorem zq316 : (Jvm.Cond.fieldLink "UnsoldPrice$Runner" (129 : Nat) "UnsoldPrice$Runner" "lined" "I") ∈ zTB := zt1 0 rfl rfl
set_option maxRecDepth 20000 in
theorem zq317 : (Jvm.Cond.fieldLink "UnsoldPrice$Runner" (21 : Nat) "UnsoldPrice$Runner" "unsold" "[I") ∈ zTB := zt1 1 rfl rfl
set_option maxRecDepth 20000 in
theorem zq318 : (Jvm.Cond.fieldLink "UnsoldPrice$Runner" (24 : Nat) "UnsoldPrice$Runner" "letters" "[I") ∈ zTB := zt1 2 rfl rfl
set_option maxRecDepth 20000 in
theorem zq342 : (Jvm.Cond.classLink "UnsoldPrice" (30 : Nat) "UnsoldPrice$MarketReader") ∈ zTB := zt1 26 rfl rfl
set_option maxRecDepth 20000 in
theorem zq343 : (Jvm.Cond.instantiable "UnsoldPrice$MarketReader" (5 : Nat)) ∈ zTB := zt1 27 rfl rfl
set_option maxRecDepth 20000 in
theorem zq344 : (Jvm.Cond.methodLink "UnsoldPrice" (32 : Nat) ({ cls := "UnsoldPrice$MarketReader", name := "<init>", desc := "(LUnsoldPrice$Tape;)V" } : Jvm.MethodName)) ∈ zTB := zt1 28 rfl rfl
set_option maxRecDepth 20000 in
theorem zq345 : (Jvm.Cond.instanceMethod ({ cls := "UnsoldPrice$MarketReader", name := "<init>", desc := "(LUnsoldPrice$Tape;)V" } : Jvm.MethodName)) ∈ zTB := zt1 29 rfl rfl
set_option maxRecDepth 20000 in
theorem zq346 : (Jvm.Cond.code ({ cls := "UnsoldPrice$MarketReader", name := "<init>", desc := "(LUnsoldPrice$Tape;)V" } : Jvm.MethodName) prog_3_method_1_code (2 : Nat) (Option.none : Option Jvm.ClassFile.FieldType)) ∈ zTB := zt1 30 rfl rfl
set_option maxRecDepth 20000 in
theorem zq347 : (Jvm.Cond.methodLink "UnsoldPrice$MarketReader" (3 : Nat) ({ cls := "UnsoldPrice$Reader", name := "<init>", desc := "(LUnsoldPrice$Tape;)V" } : Jvm.MethodName)) ∈ zTB := zt1 31 rfl rfl
set_option maxRecDepth 20000 in
theorem zq348 : (Jvm.Cond.instanceMethod ({ cls := "UnsoldPrice$Reader", name := "<init>", desc := "(LUnsoldPrice$Tape;)V" } : Jvm.MethodName)) ∈ zTB := zt1 32 rfl rfl
set_option maxRecDepth 20000 in
theorem zq349 : (Jvm.Cond.code ({ cls := "UnsoldPrice$Reader", name := "<init>", desc := "(LUnsoldPrice$Tape;)V" } : Jvm.MethodName) prog_5_method_1_code (2 : Nat) (Option.none : Option Jvm.ClassFile.FieldType)) ∈ zTB := zt1 33 rfl rfl
set_option maxRecDepth 20000 in
theorem zq350 : (Jvm.Cond.methodLink "UnsoldPrice$Reader" (3 : Nat) ({ cls := "java/lang/Object", name := "<init>", desc := "()V" } : Jvm.MethodName)) ∈ zTB := zt1 34 rfl rfl
set_option maxRecDepth 20000 in
theorem zq351 : (Jvm.Cond.fieldLink "UnsoldPrice$MarketReader" (9 : Nat) "UnsoldPrice$MarketReader" "values" "[I") ∈ zTB := zt1 35 rfl rfl
set_option maxRecDepth 20000 in
theorem zq352 : (Jvm.Cond.fieldLink "UnsoldPrice$MarketReader" (15 : Nat) "UnsoldPrice$MarketReader" "told" "[Z") ∈ zTB := zt1 36 rfl rfl
set_option maxRecDepth 20000 in
theorem zq353 : (Jvm.Cond.fieldLink "UnsoldPrice$Reader" (9 : Nat) "UnsoldPrice$Reader" "tape" "LUnsoldPrice$Tape;") ∈ zTB := zt1 37 rfl rfl
set_option maxRecDepth 20000 in
theorem zq354 : (Jvm.Cond.fieldLink "UnsoldPrice$Reader" (15 : Nat) "UnsoldPrice$Reader" "place" "I") ∈ zTB := zt1 38 rfl rfl
set_option maxRecDepth 20000 in
theorem zq355 : (Jvm.Cond.fieldLink "UnsoldPrice$MarketReader" (46 : Nat) "UnsoldPrice$MarketReader" "place" "I") ∈ zTB := zt1 39 rfl rfl
set_option maxRecDepth 20000 in
theorem zq356 : (Jvm.Cond.sameField "UnsoldPrice$MarketReader" "UnsoldPrice$Reader" "place" "I") ∈ zTB := zt1 40 rfl rfl
set_option maxRecDepth 20000 in
theorem zq357 : (Jvm.Cond.fieldLink "UnsoldPrice$RuleReader" (40 : Nat) "UnsoldPrice$RuleReader" "place" "I") ∈ zTB := zt1 41 rfl rfl
set_option maxRecDepth 20000 in
theorem zq358 : (Jvm.Cond.sameField "UnsoldPrice$RuleReader" "UnsoldPrice$Reader" "place" "I") ∈ zTB := zt1 42 rfl rfl
set_option maxRecDepth 20000 in
theorem zq359 : (Jvm.Cond.fieldLink "UnsoldPrice$Reader" (19 : Nat) "UnsoldPrice$Reader" "wrongAt" "I") ∈ zTB := zt1 43 rfl rfl
set_option maxRecDepth 20000 in
theorem zq360 : (Jvm.Cond.fieldLink "UnsoldPrice$MarketReader" (32 : Nat) "UnsoldPrice$MarketReader" "wrongAt" "I") ∈ zTB := zt1 44 rfl rfl
set_option maxRecDepth 20000 in
theorem zq361 : (Jvm.Cond.sameField "UnsoldPrice$MarketReader" "UnsoldPrice$Reader" "wrongAt" "I") ∈ zTB := zt1 45 rfl rfl
set_option maxRecDepth 20000 in
theorem zq362 : (Jvm.Cond.fieldLink "UnsoldPrice$RuleReader" (29 : Nat) "UnsoldPrice$RuleReader" "wrongAt" "I") ∈ zTB := zt1 46 rfl rfl
set_option maxRecDepth 20000 in
theorem zq363 : (Jvm.Cond.sameField "UnsoldPrice$RuleReader" "UnsoldPrice$Reader" "wrongAt" "I") ∈ zTB := zt1 47 rfl rfl
set_option maxRecDepth 20000 in
theorem zq375 : (Jvm.Cond.arrayClass Jvm.ClassFile.FieldType.boolean) ∈ zTB := zt1 59 rfl rfl
set_option maxRecDepth 20000 in
theorem zq376 : (Jvm.Cond.classLink "UnsoldPrice" (39 : Nat) "UnsoldPrice$RuleReader") ∈ zTB := zt1 60 rfl rfl
set_option maxRecDepth 20000 in
theorem zq377 : (Jvm.Cond.instantiable "UnsoldPrice$RuleReader" (4 : Nat)) ∈ zTB := zt1 61 rfl rfl
set_option maxRecDepth 20000 in
theorem zq378 : (Jvm.Cond.methodLink "UnsoldPrice" (41 : Nat) ({ cls := "UnsoldPrice$RuleReader", name := "<init>", desc := "(LUnsoldPrice$Tape;)V" } : Jvm.MethodName)) ∈ zTB := zt1 62 rfl rfl
set_option maxRecDepth 20000 in
theorem zq379 : (Jvm.Cond.instanceMethod ({ cls := "UnsoldPrice$RuleReader", name := "<init>", desc := "(LUnsoldPrice$Tape;)V" } : Jvm.MethodName)) ∈ zTB := zt1 63 rfl rfl
set_option maxRecDepth 20000 in
theorem zq380 : (Jvm.Cond.code ({ cls := "UnsoldPrice$RuleReader", name := "<init>", desc := "(LUnsoldPrice$Tape;)V" } : Jvm.MethodName) prog_7_method_1_code (2 : Nat) (Option.none : Option Jvm.ClassFile.FieldType)) ∈ zTB := zt1 64 rfl rfl
set_option maxRecDepth 20000 in
theorem zq381 : (Jvm.Cond.methodLink "UnsoldPrice$RuleReader" (3 : Nat) ({ cls := "UnsoldPrice$Reader", name := "<init>", desc := "(LUnsoldPrice$Tape;)V" } : Jvm.MethodName)) ∈ zTB := zt1 65 rfl rfl
set_option maxRecDepth 20000 in
theorem zq382 : (Jvm.Cond.fieldLink "UnsoldPrice$RuleReader" (15 : Nat) "UnsoldPrice$RuleReader" "target" "LUnsoldPrice$Rule;") ∈ zTB := zt1 66 rfl rfl
set_option maxRecDepth 20000 in
theorem zq389 : (Jvm.Cond.classLink "UnsoldPrice" (72 : Nat) "UnsoldPrice$Walk") ∈ zTB := zt1 73 rfl rfl
set_option maxRecDepth 20000 in
theorem zq390 : (Jvm.Cond.instantiable "UnsoldPrice$Walk" (14 : Nat)) ∈ zTB := zt1 74 rfl rfl
set_option maxRecDepth 20000 in
theorem zq391 : (Jvm.Cond.methodLink "UnsoldPrice" (74 : Nat) ({ cls := "UnsoldPrice$Walk", name := "<init>", desc := "(LUnsoldPrice$Market;LUnsoldPrice$Runner;LUnsoldPrice$State;)V" } : Jvm.MethodName)) ∈ zTB := zt1 75 rfl rfl
set_option maxRecDepth 20000 in
theorem zq392 : (Jvm.Cond.instanceMethod ({ cls := "UnsoldPrice$Walk", name := "<init>", desc := "(LUnsoldPrice$Market;LUnsoldPrice$Runner;LUnsoldPrice$State;)V" } : Jvm.MethodName)) ∈ zTB := zt1 76 rfl rfl
set_option maxRecDepth 20000 in
theorem zq393 : (Jvm.Cond.code ({ cls := "UnsoldPrice$Walk", name := "<init>", desc := "(LUnsoldPrice$Market;LUnsoldPrice$Runner;LUnsoldPrice$State;)V" } : Jvm.MethodName) prog_12_method_1_code (4 : Nat) (Option.none : Option Jvm.ClassFile.FieldType)) ∈ zTB := zt1 77 rfl rfl
set_option maxRecDepth 20000 in
theorem zq394 : (Jvm.Cond.methodLink "UnsoldPrice$Walk" (3 : Nat) ({ cls := "java/lang/Object", name := "<init>", desc := "()V" } : Jvm.MethodName)) ∈ zTB := zt1 78 rfl rfl
set_option maxRecDepth 20000 in
theorem zq395 : (Jvm.Cond.classLink "UnsoldPrice$Walk" (9 : Nat) "UnsoldPrice$State") ∈ zTB := zt1 79 rfl rfl
set_option maxRecDepth 20000 in
theorem zq397 : (Jvm.Cond.fieldLink "UnsoldPrice$Walk" (18 : Nat) "UnsoldPrice$Walk" "market" "LUnsoldPrice$Market;") ∈ zTB := zt1 81 rfl rfl
set_option maxRecDepth 20000 in
theorem zq398 : (Jvm.Cond.fieldLink "UnsoldPrice$Walk" (22 : Nat) "UnsoldPrice$Walk" "runner" "LUnsoldPrice$Runner;") ∈ zTB := zt1 82 rfl rfl
set_option maxRecDepth 20000 in
theorem zq399 : (Jvm.Cond.fieldLink "UnsoldPrice$Walk" (26 : Nat) "UnsoldPrice$Walk" "start" "LUnsoldPrice$State;") ∈ zTB := zt1 83 rfl rfl
set_option maxRecDepth 20000 in
theorem zq400 : (Jvm.Cond.fieldLink "UnsoldPrice$Walk" (12 : Nat) "UnsoldPrice$Walk" "at" "LUnsoldPrice$State;") ∈ zTB := zt1 84 rfl rfl
set_option maxRecDepth 20000 in
theorem zq401 : (Jvm.Cond.fieldLink "UnsoldPrice" (216 : Nat) "UnsoldPrice$Walk" "at" "LUnsoldPrice$State;") ∈ zTB := zt1 85 rfl rfl
set_option maxRecDepth 20000 in
theorem zq402 : (Jvm.Cond.fieldLink "UnsoldPrice$Walk" (38 : Nat) "UnsoldPrice$Walk" "jumps" "I") ∈ zTB := zt1 86 rfl rfl
set_option maxRecDepth 20000 in
theorem zq403 : (Jvm.Cond.fieldLink "UnsoldPrice" (219 : Nat) "UnsoldPrice$Walk" "jumps" "I") ∈ zTB := zt1 87 rfl rfl
set_option maxRecDepth 20000 in
theorem zq404 : (Jvm.Cond.fieldLink "UnsoldPrice$Walk" (42 : Nat) "UnsoldPrice$Walk" "fall" "I") ∈ zTB := zt1 88 rfl rfl
set_option maxRecDepth 20000 in
theorem zq405 : (Jvm.Cond.fieldLink "UnsoldPrice" (222 : Nat) "UnsoldPrice$Walk" "fall" "I") ∈ zTB := zt1 89 rfl rfl
set_option maxRecDepth 20000 in
theorem zq406 : (Jvm.Cond.fieldLink "UnsoldPrice$Walk" (48 : Nat) "UnsoldPrice$Walk" "peak" "I") ∈ zTB := zt1 90 rfl rfl
set_option maxRecDepth 20000 in
theorem zq407 : (Jvm.Cond.fieldLink "UnsoldPrice$Walk" (51 : Nat) "UnsoldPrice$Walk" "highest" "I") ∈ zTB := zt1 91 rfl rfl
set_option maxRecDepth 20000 in
theorem zq408 : (Jvm.Cond.fieldLink "UnsoldPrice" (311 : Nat) "UnsoldPrice$Walk" "highest" "I") ∈ zTB := zt1 92 rfl rfl
set_option maxRecDepth 20000 in
theorem zq409 : (Jvm.Cond.fieldLink "UnsoldPrice$Walk" (54 : Nat) "UnsoldPrice$Walk" "lowest" "I") ∈ zTB := zt1 93 rfl rfl
set_option maxRecDepth 20000 in
theorem zq410 : (Jvm.Cond.fieldLink "UnsoldPrice" (314 : Nat) "UnsoldPrice$Walk" "lowest" "I") ∈ zTB := zt1 94 rfl rfl
set_option maxRecDepth 20000 in
theorem zq411 : (Jvm.Cond.fieldLink "UnsoldPrice$Walk" (57 : Nat) "UnsoldPrice$Walk" "sum" "I") ∈ zTB := zt1 95 rfl rfl
set_option maxRecDepth 20000 in
theorem zq412 : (Jvm.Cond.fieldLink "UnsoldPrice" (317 : Nat) "UnsoldPrice$Walk" "sum" "I") ∈ zTB := zt1 96 rfl rfl
set_option maxRecDepth 20000 in
theorem zq413 : (Jvm.Cond.fieldLink "UnsoldPrice$Walk" (60 : Nat) "UnsoldPrice$Walk" "gluts" "I") ∈ zTB := zt1 97 rfl rfl
set_option maxRecDepth 20000 in
theorem zq414 : (Jvm.Cond.fieldLink "UnsoldPrice" (333 : Nat) "UnsoldPrice$Walk" "gluts" "I") ∈ zTB := zt1 98 rfl rfl
set_option maxRecDepth 20000 in
theorem zq415 : (Jvm.Cond.fieldLink "UnsoldPrice$Walk" (63 : Nat) "UnsoldPrice$Walk" "cheapestDay" "I") ∈ zTB := zt1 99 rfl rfl
set_option maxRecDepth 20000 in
theorem zq416 : (Jvm.Cond.fieldLink "UnsoldPrice" (278 : Nat) "UnsoldPrice$Walk" "cheapestDay" "I") ∈ zTB := zt1 100 rfl rfl
set_option maxRecDepth 20000 in
theorem zq417 : (Jvm.Cond.fieldLink "UnsoldPrice$Walk" (66 : Nat) "UnsoldPrice$Walk" "cheapest" "I") ∈ zTB := zt1 101 rfl rfl
set_option maxRecDepth 20000 in
theorem zq418 : (Jvm.Cond.fieldLink "UnsoldPrice" (281 : Nat) "UnsoldPrice$Walk" "cheapest" "I") ∈ zTB := zt1 102 rfl rfl
set_option maxRecDepth 20000 in
theorem zq419 : (Jvm.Cond.fieldLink "UnsoldPrice$Walk" (69 : Nat) "UnsoldPrice$Walk" "daysGone" "I") ∈ zTB := zt1 103 rfl rfl
set_option maxRecDepth 20000 in
theorem zq449 : (Jvm.Cond.classLink "UnsoldPrice" (81 : Nat) "UnsoldPrice$Search") ∈ zTB := zt1 133 rfl rfl
set_option maxRecDepth 20000 in
theorem zq450 : (Jvm.Cond.instantiable "UnsoldPrice$Search" (14 : Nat)) ∈ zTB := zt1 134 rfl rfl
set_option maxRecDepth 20000 in
theorem zq451 : (Jvm.Cond.methodLink "UnsoldPrice" (83 : Nat) ({ cls := "UnsoldPrice$Search", name := "<init>", desc := "(LUnsoldPrice$Market;LUnsoldPrice$Runner;LUnsoldPrice$State;)V" } : Jvm.MethodName)) ∈ zTB := zt1 135 rfl rfl
set_option maxRecDepth 20000 in
theorem zq452 : (Jvm.Cond.instanceMethod ({ cls := "UnsoldPrice$Search", name := "<init>", desc := "(LUnsoldPrice$Market;LUnsoldPrice$Runner;LUnsoldPrice$State;)V" } : Jvm.MethodName)) ∈ zTB := zt1 136 rfl rfl
set_option maxRecDepth 20000 in
theorem zq453 : (Jvm.Cond.code ({ cls := "UnsoldPrice$Search", name := "<init>", desc := "(LUnsoldPrice$Market;LUnsoldPrice$Runner;LUnsoldPrice$State;)V" } : Jvm.MethodName) prog_9_method_1_code (5 : Nat) (Option.none : Option Jvm.ClassFile.FieldType)) ∈ zTB := zt1 137 rfl rfl
set_option maxRecDepth 20000 in
theorem zq454 : (Jvm.Cond.methodLink "UnsoldPrice$Search" (3 : Nat) ({ cls := "java/lang/Object", name := "<init>", desc := "()V" } : Jvm.MethodName)) ∈ zTB := zt1 138 rfl rfl
set_option maxRecDepth 20000 in
theorem zq455 : (Jvm.Cond.classLink "UnsoldPrice$Search" (9 : Nat) "UnsoldPrice$State") ∈ zTB := zt1 139 rfl rfl
set_option maxRecDepth 20000 in
theorem zq457 : (Jvm.Cond.classLink "UnsoldPrice$Search" (17 : Nat) "[[I") ∈ zTB := zt1 141 rfl rfl
set_option maxRecDepth 20000 in
theorem zq460 : (Jvm.Cond.fieldLink "UnsoldPrice$Search" (22 : Nat) "UnsoldPrice$Search" "market" "LUnsoldPrice$Market;") ∈ zTB := zt1 144 rfl rfl
set_option maxRecDepth 20000 in
theorem zq461 : (Jvm.Cond.fieldLink "UnsoldPrice$Search" (26 : Nat) "UnsoldPrice$Search" "runner" "LUnsoldPrice$Runner;") ∈ zTB := zt1 145 rfl rfl
set_option maxRecDepth 20000 in
theorem zq462 : (Jvm.Cond.fieldLink "UnsoldPrice$Search" (30 : Nat) "UnsoldPrice$Search" "start" "LUnsoldPrice$State;") ∈ zTB := zt1 146 rfl rfl
set_option maxRecDepth 20000 in
theorem zq463 : (Jvm.Cond.fieldLink "UnsoldPrice$Search" (11 : Nat) "UnsoldPrice$Search" "path" "[LUnsoldPrice$State;") ∈ zTB := zt1 147 rfl rfl
set_option maxRecDepth 20000 in
theorem zq464 : (Jvm.Cond.fieldLink "UnsoldPrice$Search" (59 : Nat) "UnsoldPrice$Search" "ringFrom" "I") ∈ zTB := zt1 148 rfl rfl
set_option maxRecDepth 20000 in
theorem zq465 : (Jvm.Cond.fieldLink "UnsoldPrice" (232 : Nat) "UnsoldPrice$Search" "ringFrom" "I") ∈ zTB := zt1 149 rfl rfl
set_option maxRecDepth 20000 in
theorem zq466 : (Jvm.Cond.fieldLink "UnsoldPrice$Search" (63 : Nat) "UnsoldPrice$Search" "ringLength" "I") ∈ zTB := zt1 150 rfl rfl
set_option maxRecDepth 20000 in
theorem zq467 : (Jvm.Cond.fieldLink "UnsoldPrice" (235 : Nat) "UnsoldPrice$Search" "ringLength" "I") ∈ zTB := zt1 151 rfl rfl
set_option maxRecDepth 20000 in
theorem zq468 : (Jvm.Cond.fieldLink "UnsoldPrice$Search" (66 : Nat) "UnsoldPrice$Search" "seller" "I") ∈ zTB := zt1 152 rfl rfl
set_option maxRecDepth 20000 in
theorem zq469 : (Jvm.Cond.fieldLink "UnsoldPrice$Search" (69 : Nat) "UnsoldPrice$Search" "lastDay" "I") ∈ zTB := zt1 153 rfl rfl
set_option maxRecDepth 20000 in
theorem zq470 : (Jvm.Cond.fieldLink "UnsoldPrice$Search" (72 : Nat) "UnsoldPrice$Search" "bestRow" "I") ∈ zTB := zt1 154 rfl rfl
set_option maxRecDepth 20000 in
theorem zq471 : (Jvm.Cond.fieldLink "UnsoldPrice" (243 : Nat) "UnsoldPrice$Search" "bestRow" "I") ∈ zTB := zt1 155 rfl rfl
set_option maxRecDepth 20000 in
theorem zq472 : (Jvm.Cond.fieldLink "UnsoldPrice$Search" (75 : Nat) "UnsoldPrice$Search" "bestGain" "I") ∈ zTB := zt1 156 rfl rfl
set_option maxRecDepth 20000 in
theorem zq473 : (Jvm.Cond.fieldLink "UnsoldPrice" (246 : Nat) "UnsoldPrice$Search" "bestGain" "I") ∈ zTB := zt1 157 rfl rfl
set_option maxRecDepth 20000 in
theorem zq474 : (Jvm.Cond.fieldLink "UnsoldPrice$Search" (96 : Nat) "UnsoldPrice$Search" "price" "I") ∈ zTB := zt1 158 rfl rfl
set_option maxRecDepth 20000 in
theorem zq475 : (Jvm.Cond.fieldLink "UnsoldPrice$Search" (99 : Nat) "UnsoldPrice$Search" "risk" "I") ∈ zTB := zt1 159 rfl rfl
set_option maxRecDepth 20000 in
theorem zq476 : (Jvm.Cond.fieldLink "UnsoldPrice$Search" (19 : Nat) "UnsoldPrice$Search" "takes" "[[I") ∈ zTB := zt1 160 rfl rfl
set_option maxRecDepth 20000 in
theorem zq477 : (Jvm.Cond.fieldLink "UnsoldPrice$Search" (129 : Nat) "UnsoldPrice$Search" "restRow" "I") ∈ zTB := zt1 161 rfl rfl
set_option maxRecDepth 20000 in
theorem zq478 : (Jvm.Cond.fieldLink "UnsoldPrice" (255 : Nat) "UnsoldPrice$Search" "restRow" "I") ∈ zTB := zt1 162 rfl rfl
set_option maxRecDepth 20000 in
theorem zq508 : (Jvm.Cond.classLink "UnsoldPrice" (88 : Nat) "UnsoldPrice$Notes") ∈ zTB := zt1 192 rfl rfl
set_option maxRecDepth 20000 in
theorem zq509 : (Jvm.Cond.instantiable "UnsoldPrice$Notes" (4 : Nat)) ∈ zTB := zt1 193 rfl rfl
set_option maxRecDepth 20000 in
theorem zq510 : (Jvm.Cond.methodLink "UnsoldPrice" (90 : Nat) ({ cls := "UnsoldPrice$Notes", name := "<init>", desc := "(I)V" } : Jvm.MethodName)) ∈ zTB := zt1 194 rfl rfl
set_option maxRecDepth 20000 in
theorem zq511 : (Jvm.Cond.instanceMethod ({ cls := "UnsoldPrice$Notes", name := "<init>", desc := "(I)V" } : Jvm.MethodName)) ∈ zTB := zt1 195 rfl rfl
set_option maxRecDepth 20000 in
theorem zq512 : (Jvm.Cond.code ({ cls := "UnsoldPrice$Notes", name := "<init>", desc := "(I)V" } : Jvm.MethodName) prog_4_method_1_code (3 : Nat) (Option.none : Option Jvm.ClassFile.FieldType)) ∈ zTB := zt1 196 rfl rfl
set_option maxRecDepth 20000 in
theorem zq513 : (Jvm.Cond.methodLink "UnsoldPrice$Notes" (1 : Nat) ({ cls := "java/lang/Object", name := "<init>", desc := "()V" } : Jvm.MethodName)) ∈ zTB := zt1 197 rfl rfl
set_option maxRecDepth 20000 in
theorem zq514 : (Jvm.Cond.methodLink "UnsoldPrice$Notes" (7 : Nat) ({ cls := "java/lang/Math", name := "max", desc := "(II)I" } : Jvm.MethodName)) ∈ zTB := zt1 198 rfl rfl
set_option maxRecDepth 20000 in
theorem zq515 : (Jvm.Cond.static ({ cls := "java/lang/Math", name := "max", desc := "(II)I" } : Jvm.MethodName)) ∈ zTB := zt1 199 rfl rfl
set_option maxRecDepth 20000 in
theorem zq516 : (Jvm.Cond.code ({ cls := "java/lang/Math", name := "max", desc := "(II)I" } : Jvm.MethodName) prog_20_method_65_code (2 : Nat) (Option.some Jvm.ClassFile.FieldType.int)) ∈ zTB := zt1 200 rfl rfl
set_option maxRecDepth 20000 in
theorem zq517 : (Jvm.Cond.fieldLink "UnsoldPrice$Notes" (13 : Nat) "UnsoldPrice$Notes" "first" "[I") ∈ zTB := zt1 201 rfl rfl
set_option maxRecDepth 20000 in
theorem zq518 : (Jvm.Cond.fieldLink "UnsoldPrice" (360 : Nat) "UnsoldPrice$Notes" "first" "[I") ∈ zTB := zt1 202 rfl rfl
set_option maxRecDepth 20000 in
theorem zq519 : (Jvm.Cond.fieldLink "UnsoldPrice$Notes" (19 : Nat) "UnsoldPrice$Notes" "second" "[I") ∈ zTB := zt1 203 rfl rfl
set_option maxRecDepth 20000 in
theorem zq520 : (Jvm.Cond.fieldLink "UnsoldPrice" (369 : Nat) "UnsoldPrice$Notes" "second" "[I") ∈ zTB := zt1 204 rfl rfl
set_option maxRecDepth 20000 in
theorem zq521 : (Jvm.Cond.fieldLink "UnsoldPrice$Notes" (22 : Nat) "UnsoldPrice$Notes" "third" "[I") ∈ zTB := zt1 205 rfl rfl
set_option maxRecDepth 20000 in
theorem zq522 : (Jvm.Cond.fieldLink "UnsoldPrice" (372 : Nat) "UnsoldPrice$Notes" "third" "[I") ∈ zTB := zt1 206 rfl rfl
set_option maxRecDepth 20000 in
theorem zq523 : (Jvm.Cond.fieldLink "UnsoldPrice$Notes" (25 : Nat) "UnsoldPrice$Notes" "size" "I") ∈ zTB := zt1 207 rfl rfl
set_option maxRecDepth 20000 in
theorem zq524 : (Jvm.Cond.fieldLink "UnsoldPrice" (290 : Nat) "UnsoldPrice$Notes" "size" "I") ∈ zTB := zt1 208 rfl rfl
set_option maxRecDepth 20000 in
theorem zq534 : (Jvm.Cond.fieldLink "UnsoldPrice" (26 : Nat) "UnsoldPrice" "tape" "LUnsoldPrice$Tape;") ∈ zTB := zt1 218 rfl rfl
set_option maxRecDepth 20000 in
theorem zq535 : (Jvm.Cond.fieldLink "UnsoldPrice" (35 : Nat) "UnsoldPrice" "marketReader" "LUnsoldPrice$MarketReader;") ∈ zTB := zt1 219 rfl rfl
set_option maxRecDepth 20000 in
theorem zq536 : (Jvm.Cond.fieldLink "UnsoldPrice" (42 : Nat) "UnsoldPrice" "ruleReader" "LUnsoldPrice$RuleReader;") ∈ zTB := zt1 220 rfl rfl
set_option maxRecDepth 20000 in
theorem zq537 : (Jvm.Cond.fieldLink "UnsoldPrice" (46 : Nat) "UnsoldPrice" "market" "LUnsoldPrice$Market;") ∈ zTB := zt1 221 rfl rfl
set_option maxRecDepth 20000 in
theorem zq538 : (Jvm.Cond.fieldLink "UnsoldPrice" (50 : Nat) "UnsoldPrice" "marketDraft" "LUnsoldPrice$Market;") ∈ zTB := zt1 222 rfl rfl
set_option maxRecDepth 20000 in
theorem zq539 : (Jvm.Cond.fieldLink "UnsoldPrice" (53 : Nat) "UnsoldPrice" "rules" "[LUnsoldPrice$Rule;") ∈ zTB := zt1 223 rfl rfl
set_option maxRecDepth 20000 in
theorem zq540 : (Jvm.Cond.fieldLink "UnsoldPrice" (57 : Nat) "UnsoldPrice" "ruleDraft" "LUnsoldPrice$Rule;") ∈ zTB := zt1 224 rfl rfl
set_option maxRecDepth 20000 in
theorem zq541 : (Jvm.Cond.fieldLink "UnsoldPrice" (61 : Nat) "UnsoldPrice" "now" "LUnsoldPrice$State;") ∈ zTB := zt1 225 rfl rfl
set_option maxRecDepth 20000 in
theorem zq542 : (Jvm.Cond.fieldLink "UnsoldPrice" (65 : Nat) "UnsoldPrice" "kept" "LUnsoldPrice$State;") ∈ zTB := zt1 226 rfl rfl
set_option maxRecDepth 20000 in
theorem zq543 : (Jvm.Cond.fieldLink "UnsoldPrice" (68 : Nat) "UnsoldPrice" "runner" "LUnsoldPrice$Runner;") ∈ zTB := zt1 227 rfl rfl
set_option maxRecDepth 20000 in
theorem zq544 : (Jvm.Cond.fieldLink "UnsoldPrice" (77 : Nat) "UnsoldPrice" "walk" "LUnsoldPrice$Walk;") ∈ zTB := zt1 228 rfl rfl
set_option maxRecDepth 20000 in
theorem zq545 : (Jvm.Cond.fieldLink "UnsoldPrice" (84 : Nat) "UnsoldPrice" "search" "LUnsoldPrice$Search;") ∈ zTB := zt1 229 rfl rfl
set_option maxRecDepth 20000 in
theorem zq546 : (Jvm.Cond.fieldLink "UnsoldPrice" (93 : Nat) "UnsoldPrice" "seenBoards" "LUnsoldPrice$Notes;") ∈ zTB := zt1 230 rfl rfl
set_option maxRecDepth 20000 in
theorem zq547 : (Jvm.Cond.fieldLink "UnsoldPrice" (97 : Nat) "UnsoldPrice" "askings" "LUnsoldPrice$Notes;") ∈ zTB := zt1 231 rfl rfl
set_option maxRecDepth 20000 in
theorem zq548 : (Jvm.Cond.fieldLink "UnsoldPrice" (122 : Nat) "UnsoldPrice" "ruleCount" "I") ∈ zTB := zt1 232 rfl rfl
set_option maxRecDepth 20000 in
theorem zq549 : (Jvm.Cond.fieldLink "UnsoldPrice" (189 : Nat) "UnsoldPrice" "feastRisk" "I") ∈ zTB := zt1 233 rfl rfl
set_option maxRecDepth 20000 in
theorem zq550 : (Jvm.Cond.fieldLink "UnsoldPrice" (343 : Nat) "UnsoldPrice" "hasImage" "Z") ∈ zTB := zt1 234 rfl rfl
set_option maxRecDepth 20000 in
theorem zq587 : (Jvm.Cond.instanceMethod ({ cls := "UnsoldPrice", name := "feed", desc := "(IIIII)I" } : Jvm.MethodName)) ∈ zTB := zt2 31 rfl rfl
set_option maxRecDepth 20000 in
theorem zq588 : (Jvm.Cond.selects "UnsoldPrice" ({ cls := "UnsoldPrice", name := "feed", desc := "(IIIII)I" } : Jvm.MethodName) ({ cls := "UnsoldPrice", name := "feed", desc := "(IIIII)I" } : Jvm.MethodName)) ∈ zTB := zt2 32 rfl rfl
set_option maxRecDepth 20000 in
theorem zq589 : (Jvm.Cond.code ({ cls := "UnsoldPrice", name := "feed", desc := "(IIIII)I" } : Jvm.MethodName) prog_1_method_2_code (7 : Nat) (Option.some Jvm.ClassFile.FieldType.int)) ∈ zTB := zt2 33 rfl rfl
set_option maxRecDepth 20000 in
theorem zq590 : (Jvm.Cond.methodLink "UnsoldPrice" (100 : Nat) ({ cls := "UnsoldPrice", name := "bytesIn", desc := "(I)I" } : Jvm.MethodName)) ∈ zTB := zt2 34 rfl rfl
set_option maxRecDepth 20000 in
theorem zq591 : (Jvm.Cond.static ({ cls := "UnsoldPrice", name := "bytesIn", desc := "(I)I" } : Jvm.MethodName)) ∈ zTB := zt2 35 rfl rfl
set_option maxRecDepth 20000 in
theorem zq592 : (Jvm.Cond.code ({ cls := "UnsoldPrice", name := "bytesIn", desc := "(I)I" } : Jvm.MethodName) prog_1_method_43_code (3 : Nat) (Option.some Jvm.ClassFile.FieldType.int)) ∈ zTB := zt2 36 rfl rfl
set_option maxRecDepth 20000 in
theorem zq593 : (Jvm.Cond.methodLink "UnsoldPrice" (108 : Nat) ({ cls := "UnsoldPrice$Tape", name := "add", desc := "(I)V" } : Jvm.MethodName)) ∈ zTB := zt2 37 rfl rfl
set_option maxRecDepth 20000 in
theorem zq594 : (Jvm.Cond.instanceMethod ({ cls := "UnsoldPrice$Tape", name := "add", desc := "(I)V" } : Jvm.MethodName)) ∈ zTB := zt2 38 rfl rfl
set_option maxRecDepth 20000 in
theorem zq595 : (Jvm.Cond.selects "UnsoldPrice$Tape" ({ cls := "UnsoldPrice$Tape", name := "add", desc := "(I)V" } : Jvm.MethodName) ({ cls := "UnsoldPrice$Tape", name := "add", desc := "(I)V" } : Jvm.MethodName)) ∈ zTB := zt2 39 rfl rfl
set_option maxRecDepth 20000 in
theorem zq596 : (Jvm.Cond.code ({ cls := "UnsoldPrice$Tape", name := "add", desc := "(I)V" } : Jvm.MethodName) prog_11_method_2_code (4 : Nat) (Option.none : Option Jvm.ClassFile.FieldType)) ∈ zTB := zt2 40 rfl rfl
set_option maxRecDepth 20000 in
theorem zq598 : (Jvm.Cond.instanceMethod ({ cls := "UnsoldPrice", name := "end", desc := "(I)Z" } : Jvm.MethodName)) ∈ zTB := zt2 42 rfl rfl
set_option maxRecDepth 20000 in
theorem zq599 : (Jvm.Cond.selects "UnsoldPrice" ({ cls := "UnsoldPrice", name := "end", desc := "(I)Z" } : Jvm.MethodName) ({ cls := "UnsoldPrice", name := "end", desc := "(I)Z" } : Jvm.MethodName)) ∈ zTB := zt2 43 rfl rfl
set_option maxRecDepth 20000 in
theorem zq600 : (Jvm.Cond.code ({ cls := "UnsoldPrice", name := "end", desc := "(I)Z" } : Jvm.MethodName) prog_1_method_3_code (2 : Nat) (Option.some Jvm.ClassFile.FieldType.boolean)) ∈ zTB := zt2 44 rfl rfl
set_option maxRecDepth 20000 in
theorem zq602 : (Jvm.Cond.instanceMethod ({ cls := "UnsoldPrice", name := "fault", desc := "(I)I" } : Jvm.MethodName)) ∈ zTB := zt2 46 rfl rfl
set_option maxRecDepth 20000 in
theorem zq603 : (Jvm.Cond.selects "UnsoldPrice" ({ cls := "UnsoldPrice", name := "fault", desc := "(I)I" } : Jvm.MethodName) ({ cls := "UnsoldPrice", name := "fault", desc := "(I)I" } : Jvm.MethodName)) ∈ zTB := zt2 47 rfl rfl
set_option maxRecDepth 20000 in
theorem zq604 : (Jvm.Cond.code ({ cls := "UnsoldPrice", name := "fault", desc := "(I)I" } : Jvm.MethodName) prog_1_method_4_code (2 : Nat) (Option.some Jvm.ClassFile.FieldType.int)) ∈ zTB := zt2 48 rfl rfl
set_option maxRecDepth 20000 in
theorem zq605 : (Jvm.Cond.methodLink "UnsoldPrice" (111 : Nat) ({ cls := "UnsoldPrice$MarketReader", name := "read", desc := "(LUnsoldPrice$Market;)I" } : Jvm.MethodName)) ∈ zTB := zt2 49 rfl rfl
set_option maxRecDepth 20000 in
theorem zq606 : (Jvm.Cond.instanceMethod ({ cls := "UnsoldPrice$MarketReader", name := "read", desc := "(LUnsoldPrice$Market;)I" } : Jvm.MethodName)) ∈ zTB := zt2 50 rfl rfl
set_option maxRecDepth 20000 in
theorem zq607 : (Jvm.Cond.selects "UnsoldPrice$MarketReader" ({ cls := "UnsoldPrice$MarketReader", name := "read", desc := "(LUnsoldPrice$Market;)I" } : Jvm.MethodName) ({ cls := "UnsoldPrice$MarketReader", name := "read", desc := "(LUnsoldPrice$Market;)I" } : Jvm.MethodName)) ∈ zTB := zt2 51 rfl rfl
set_option maxRecDepth 20000 in
theorem zq608 : (Jvm.Cond.code ({ cls := "UnsoldPrice$MarketReader", name := "read", desc := "(LUnsoldPrice$Market;)I" } : Jvm.MethodName) prog_3_method_2_code (3 : Nat) (Option.some Jvm.ClassFile.FieldType.int)) ∈ zTB := zt2 52 rfl rfl
set_option maxRecDepth 20000 in
theorem zq609 : (Jvm.Cond.methodLink "UnsoldPrice$MarketReader" (19 : Nat) ({ cls := "UnsoldPrice$MarketReader", name := "beginReading", desc := "()V" } : Jvm.MethodName)) ∈ zTB := zt2 53 rfl rfl
set_option maxRecDepth 20000 in
theorem zq610 : (Jvm.Cond.sameMethod "UnsoldPrice$MarketReader" "UnsoldPrice$Reader" "beginReading" "()V") ∈ zTB := zt2 54 rfl rfl
set_option maxRecDepth 20000 in
theorem zq612 : (Jvm.Cond.selects "UnsoldPrice$MarketReader" ({ cls := "UnsoldPrice$MarketReader", name := "beginReading", desc := "()V" } : Jvm.MethodName) ({ cls := "UnsoldPrice$Reader", name := "beginReading", desc := "()V" } : Jvm.MethodName)) ∈ zTB := zt2 56 rfl rfl
set_option maxRecDepth 20000 in
theorem zq613 : (Jvm.Cond.instanceMethod ({ cls := "UnsoldPrice$Reader", name := "beginReading", desc := "()V" } : Jvm.MethodName)) ∈ zTB := zt2 57 rfl rfl
set_option maxRecDepth 20000 in
theorem zq614 : (Jvm.Cond.code ({ cls := "UnsoldPrice$Reader", name := "beginReading", desc := "()V" } : Jvm.MethodName) prog_5_method_2_code (1 : Nat) (Option.none : Option Jvm.ClassFile.FieldType)) ∈ zTB := zt2 58 rfl rfl
set_option maxRecDepth 20000 in
theorem zq615 : (Jvm.Cond.methodLink "UnsoldPrice$MarketReader" (23 : Nat) ({ cls := "UnsoldPrice$Market", name := "clear", desc := "()V" } : Jvm.MethodName)) ∈ zTB := zt2 59 rfl rfl
set_option maxRecDepth 20000 in
theorem zq616 : (Jvm.Cond.instanceMethod ({ cls := "UnsoldPrice$Market", name := "clear", desc := "()V" } : Jvm.MethodName)) ∈ zTB := zt2 60 rfl rfl
set_option maxRecDepth 20000 in
theorem zq617 : (Jvm.Cond.selects "UnsoldPrice$Market" ({ cls := "UnsoldPrice$Market", name := "clear", desc := "()V" } : Jvm.MethodName) ({ cls := "UnsoldPrice$Market", name := "clear", desc := "()V" } : Jvm.MethodName)) ∈ zTB := zt2 61 rfl rfl
set_option maxRecDepth 20000 in
theorem zq618 : (Jvm.Cond.code ({ cls := "UnsoldPrice$Market", name := "clear", desc := "()V" } : Jvm.MethodName) prog_2_method_2_code (2 : Nat) (Option.none : Option Jvm.ClassFile.FieldType)) ∈ zTB := zt2 62 rfl rfl
set_option maxRecDepth 20000 in
theorem zq621 : (Jvm.Cond.methodLink "UnsoldPrice$MarketReader" (28 : Nat) ({ cls := "UnsoldPrice$MarketReader", name := "clause", desc := "(LUnsoldPrice$Market;)Z" } : Jvm.MethodName)) ∈ zTB := zt2 65 rfl rfl
set_option maxRecDepth 20000 in
theorem zq623 : (Jvm.Cond.instanceMethod ({ cls := "UnsoldPrice$MarketReader", name := "clause", desc := "(LUnsoldPrice$Market;)Z" } : Jvm.MethodName)) ∈ zTB := zt2 67 rfl rfl
set_option maxRecDepth 20000 in
theorem zq624 : (Jvm.Cond.code ({ cls := "UnsoldPrice$MarketReader", name := "clause", desc := "(LUnsoldPrice$Market;)Z" } : Jvm.MethodName) prog_3_method_3_code (3 : Nat) (Option.some Jvm.ClassFile.FieldType.boolean)) ∈ zTB := zt2 68 rfl rfl
set_option maxRecDepth 20000 in
theorem zq625 : (Jvm.Cond.methodLink "UnsoldPrice$MarketReader" (36 : Nat) ({ cls := "UnsoldPrice$MarketReader", name := "sign", desc := "()I" } : Jvm.MethodName)) ∈ zTB := zt2 69 rfl rfl
set_option maxRecDepth 20000 in
theorem zq626 : (Jvm.Cond.sameMethod "UnsoldPrice$MarketReader" "UnsoldPrice$Reader" "sign" "()I") ∈ zTB := zt2 70 rfl rfl
set_option maxRecDepth 20000 in
theorem zq628 : (Jvm.Cond.selects "UnsoldPrice$MarketReader" ({ cls := "UnsoldPrice$MarketReader", name := "sign", desc := "()I" } : Jvm.MethodName) ({ cls := "UnsoldPrice$Reader", name := "sign", desc := "()I" } : Jvm.MethodName)) ∈ zTB := zt2 72 rfl rfl
set_option maxRecDepth 20000 in
theorem zq629 : (Jvm.Cond.instanceMethod ({ cls := "UnsoldPrice$Reader", name := "sign", desc := "()I" } : Jvm.MethodName)) ∈ zTB := zt2 73 rfl rfl
set_option maxRecDepth 20000 in
theorem zq630 : (Jvm.Cond.code ({ cls := "UnsoldPrice$Reader", name := "sign", desc := "()I" } : Jvm.MethodName) prog_5_method_3_code (2 : Nat) (Option.some Jvm.ClassFile.FieldType.int)) ∈ zTB := zt2 74 rfl rfl
set_option maxRecDepth 20000 in
theorem zq631 : (Jvm.Cond.methodLink "UnsoldPrice$Reader" (22 : Nat) ({ cls := "UnsoldPrice$Tape", name := "byteAt", desc := "(I)I" } : Jvm.MethodName)) ∈ zTB := zt2 75 rfl rfl
set_option maxRecDepth 20000 in
theorem zq632 : (Jvm.Cond.instanceMethod ({ cls := "UnsoldPrice$Tape", name := "byteAt", desc := "(I)I" } : Jvm.MethodName)) ∈ zTB := zt2 76 rfl rfl
set_option maxRecDepth 20000 in
theorem zq633 : (Jvm.Cond.selects "UnsoldPrice$Tape" ({ cls := "UnsoldPrice$Tape", name := "byteAt", desc := "(I)I" } : Jvm.MethodName) ({ cls := "UnsoldPrice$Tape", name := "byteAt", desc := "(I)I" } : Jvm.MethodName)) ∈ zTB := zt2 77 rfl rfl
set_option maxRecDepth 20000 in
theorem zq634 : (Jvm.Cond.code ({ cls := "UnsoldPrice$Tape", name := "byteAt", desc := "(I)I" } : Jvm.MethodName) prog_11_method_3_code (2 : Nat) (Option.some Jvm.ClassFile.FieldType.int)) ∈ zTB := zt2 78 rfl rfl
set_option maxRecDepth 20000 in
theorem zq635 : (Jvm.Cond.methodLink "UnsoldPrice$MarketReader" (53 : Nat) ({ cls := "UnsoldPrice$MarketReader", name := "kindOf", desc := "(ILUnsoldPrice$Market;)I" } : Jvm.MethodName)) ∈ zTB := zt2 79 rfl rfl
set_option maxRecDepth 20000 in
theorem zq636 : (Jvm.Cond.static ({ cls := "UnsoldPrice$MarketReader", name := "kindOf", desc := "(ILUnsoldPrice$Market;)I" } : Jvm.MethodName)) ∈ zTB := zt2 80 rfl rfl
set_option maxRecDepth 20000 in
theorem zq637 : (Jvm.Cond.code ({ cls := "UnsoldPrice$MarketReader", name := "kindOf", desc := "(ILUnsoldPrice$Market;)I" } : Jvm.MethodName) prog_3_method_4_code (2 : Nat) (Option.some Jvm.ClassFile.FieldType.int)) ∈ zTB := zt2 81 rfl rfl
set_option maxRecDepth 20000 in
theorem zq638 : (Jvm.Cond.methodLink "UnsoldPrice$MarketReader" (57 : Nat) ({ cls := "UnsoldPrice$MarketReader", name := "wrong", desc := "()Z" } : Jvm.MethodName)) ∈ zTB := zt2 82 rfl rfl
set_option maxRecDepth 20000 in
theorem zq639 : (Jvm.Cond.sameMethod "UnsoldPrice$MarketReader" "UnsoldPrice$Reader" "wrong" "()Z") ∈ zTB := zt2 83 rfl rfl
set_option maxRecDepth 20000 in
theorem zq641 : (Jvm.Cond.selects "UnsoldPrice$MarketReader" ({ cls := "UnsoldPrice$MarketReader", name := "wrong", desc := "()Z" } : Jvm.MethodName) ({ cls := "UnsoldPrice$Reader", name := "wrong", desc := "()Z" } : Jvm.MethodName)) ∈ zTB := zt2 85 rfl rfl
set_option maxRecDepth 20000 in
theorem zq642 : (Jvm.Cond.instanceMethod ({ cls := "UnsoldPrice$Reader", name := "wrong", desc := "()Z" } : Jvm.MethodName)) ∈ zTB := zt2 86 rfl rfl
set_option maxRecDepth 20000 in
theorem zq643 : (Jvm.Cond.code ({ cls := "UnsoldPrice$Reader", name := "wrong", desc := "()Z" } : Jvm.MethodName) prog_5_method_4_code (1 : Nat) (Option.some Jvm.ClassFile.FieldType.boolean)) ∈ zTB := zt2 87 rfl rfl
set_option maxRecDepth 20000 in
theorem zq644 : (Jvm.Cond.methodLink "UnsoldPrice$MarketReader" (61 : Nat) ({ cls := "UnsoldPrice$MarketReader", name := "items", desc := "(I)Z" } : Jvm.MethodName)) ∈ zTB := zt2 88 rfl rfl
set_option maxRecDepth 20000 in
theorem zq646 : (Jvm.Cond.instanceMethod ({ cls := "UnsoldPrice$MarketReader", name := "items", desc := "(I)Z" } : Jvm.MethodName)) ∈ zTB := zt2 90 rfl rfl
set_option maxRecDepth 20000 in
theorem zq647 : (Jvm.Cond.code ({ cls := "UnsoldPrice$MarketReader", name := "items", desc := "(I)Z" } : Jvm.MethodName) prog_3_method_5_code (5 : Nat) (Option.some Jvm.ClassFile.FieldType.boolean)) ∈ zTB := zt2 91 rfl rfl
set_option maxRecDepth 20000 in
theorem zq650 : (Jvm.Cond.methodLink "UnsoldPrice$MarketReader" (84 : Nat) ({ cls := "java/lang/String", name := "length", desc := "()I" } : Jvm.MethodName)) ∈ zTB := zt2 94 rfl rfl
set_option maxRecDepth 20000 in
theorem zq651 : (Jvm.Cond.instanceMethod ({ cls := "java/lang/String", name := "length", desc := "()I" } : Jvm.MethodName)) ∈ zTB := zt2 95 rfl rfl
set_option maxRecDepth 20000 in
theorem zq652 : (Jvm.Cond.selects "java/lang/String" ({ cls := "java/lang/String", name := "length", desc := "()I" } : Jvm.MethodName) ({ cls := "java/lang/String", name := "length", desc := "()I" } : Jvm.MethodName)) ∈ zTB := zt2 96 rfl rfl
set_option maxRecDepth 20000 in
theorem zq653 : (Jvm.Cond.code ({ cls := "java/lang/String", name := "length", desc := "()I" } : Jvm.MethodName) prog_22_method_54_code (1 : Nat) (Option.some Jvm.ClassFile.FieldType.int)) ∈ zTB := zt2 97 rfl rfl
set_option maxRecDepth 20000 in
theorem zq654 : (Jvm.Cond.methodLink "java/lang/String" (335 : Nat) ({ cls := "java/lang/String", name := "coder", desc := "()B" } : Jvm.MethodName)) ∈ zTB := zt2 98 rfl rfl
set_option maxRecDepth 20000 in
theorem zq655 : (Jvm.Cond.instanceMethod ({ cls := "java/lang/String", name := "coder", desc := "()B" } : Jvm.MethodName)) ∈ zTB := zt2 99 rfl rfl
set_option maxRecDepth 20000 in
theorem zq656 : (Jvm.Cond.selects "java/lang/String" ({ cls := "java/lang/String", name := "coder", desc := "()B" } : Jvm.MethodName) ({ cls := "java/lang/String", name := "coder", desc := "()B" } : Jvm.MethodName)) ∈ zTB := zt2 100 rfl rfl
set_option maxRecDepth 20000 in
theorem zq657 : (Jvm.Cond.code ({ cls := "java/lang/String", name := "coder", desc := "()B" } : Jvm.MethodName) prog_22_method_152_code (1 : Nat) (Option.some Jvm.ClassFile.FieldType.byte)) ∈ zTB := zt2 101 rfl rfl
set_option maxRecDepth 20000 in
theorem zq658 : (Jvm.Cond.fieldLink "java/lang/String" (38 : Nat) "java/lang/String" "COMPACT_STRINGS" "Z") ∈ zTB := zt2 102 rfl rfl
set_option maxRecDepth 20000 in
theorem zq660 : (Jvm.Cond.methodLink "UnsoldPrice$MarketReader" (89 : Nat) ({ cls := "UnsoldPrice$MarketReader", name := "itemOf", desc := "(II)I" } : Jvm.MethodName)) ∈ zTB := zt2 104 rfl rfl
set_option maxRecDepth 20000 in
theorem zq661 : (Jvm.Cond.static ({ cls := "UnsoldPrice$MarketReader", name := "itemOf", desc := "(II)I" } : Jvm.MethodName)) ∈ zTB := zt2 105 rfl rfl
set_option maxRecDepth 20000 in
theorem zq662 : (Jvm.Cond.code ({ cls := "UnsoldPrice$MarketReader", name := "itemOf", desc := "(II)I" } : Jvm.MethodName) prog_3_method_6_code (4 : Nat) (Option.some Jvm.ClassFile.FieldType.int)) ∈ zTB := zt2 106 rfl rfl
set_option maxRecDepth 20000 in
theorem zq665 : (Jvm.Cond.methodLink "UnsoldPrice$MarketReader" (106 : Nat) ({ cls := "java/lang/Math", name := "min", desc := "(II)I" } : Jvm.MethodName)) ∈ zTB := zt2 109 rfl rfl
set_option maxRecDepth 20000 in
theorem zq666 : (Jvm.Cond.static ({ cls := "java/lang/Math", name := "min", desc := "(II)I" } : Jvm.MethodName)) ∈ zTB := zt2 110 rfl rfl
set_option maxRecDepth 20000 in
theorem zq667 : (Jvm.Cond.code ({ cls := "java/lang/Math", name := "min", desc := "(II)I" } : Jvm.MethodName) prog_20_method_69_code (2 : Nat) (Option.some Jvm.ClassFile.FieldType.int)) ∈ zTB := zt2 111 rfl rfl
set_option maxRecDepth 20000 in
theorem zq668 : (Jvm.Cond.methodLink "UnsoldPrice$MarketReader" (111 : Nat) ({ cls := "java/lang/String", name := "charAt", desc := "(I)C" } : Jvm.MethodName)) ∈ zTB := zt2 112 rfl rfl
set_option maxRecDepth 20000 in
theorem zq669 : (Jvm.Cond.instanceMethod ({ cls := "java/lang/String", name := "charAt", desc := "(I)C" } : Jvm.MethodName)) ∈ zTB := zt2 113 rfl rfl
set_option maxRecDepth 20000 in
theorem zq670 : (Jvm.Cond.selects "java/lang/String" ({ cls := "java/lang/String", name := "charAt", desc := "(I)C" } : Jvm.MethodName) ({ cls := "java/lang/String", name := "charAt", desc := "(I)C" } : Jvm.MethodName)) ∈ zTB := zt2 114 rfl rfl
set_option maxRecDepth 20000 in
theorem zq671 : (Jvm.Cond.code ({ cls := "java/lang/String", name := "charAt", desc := "(I)C" } : Jvm.MethodName) prog_22_method_56_code (2 : Nat) (Option.some Jvm.ClassFile.FieldType.char)) ∈ zTB := zt2 115 rfl rfl
set_option maxRecDepth 20000 in
theorem zq672 : (Jvm.Cond.methodLink "java/lang/String" (492 : Nat) ({ cls := "java/lang/String", name := "isLatin1", desc := "()Z" } : Jvm.MethodName)) ∈ zTB := zt2 116 rfl rfl
set_option maxRecDepth 20000 in
theorem zq673 : (Jvm.Cond.instanceMethod ({ cls := "java/lang/String", name := "isLatin1", desc := "()Z" } : Jvm.MethodName)) ∈ zTB := zt2 117 rfl rfl
set_option maxRecDepth 20000 in
theorem zq674 : (Jvm.Cond.selects "java/lang/String" ({ cls := "java/lang/String", name := "isLatin1", desc := "()Z" } : Jvm.MethodName) ({ cls := "java/lang/String", name := "isLatin1", desc := "()Z" } : Jvm.MethodName)) ∈ zTB := zt2 118 rfl rfl
set_option maxRecDepth 20000 in
theorem zq675 : (Jvm.Cond.code ({ cls := "java/lang/String", name := "isLatin1", desc := "()Z" } : Jvm.MethodName) prog_22_method_154_code (1 : Nat) (Option.some Jvm.ClassFile.FieldType.boolean)) ∈ zTB := zt2 119 rfl rfl
set_option maxRecDepth 20000 in
theorem zq676 : (Jvm.Cond.methodLink "java/lang/String" (495 : Nat) ({ cls := "java/lang/StringLatin1", name := "charAt", desc := "([BI)C" } : Jvm.MethodName)) ∈ zTB := zt2 120 rfl rfl
set_option maxRecDepth 20000 in
theorem zq677 : (Jvm.Cond.static ({ cls := "java/lang/StringLatin1", name := "charAt", desc := "([BI)C" } : Jvm.MethodName)) ∈ zTB := zt2 121 rfl rfl
set_option maxRecDepth 20000 in
theorem zq678 : (Jvm.Cond.code ({ cls := "java/lang/StringLatin1", name := "charAt", desc := "([BI)C" } : Jvm.MethodName) prog_23_method_2_code (2 : Nat) (Option.some Jvm.ClassFile.FieldType.char)) ∈ zTB := zt2 122 rfl rfl
set_option maxRecDepth 20000 in
theorem zq679 : (Jvm.Cond.methodLink "java/lang/StringLatin1" (9 : Nat) ({ cls := "java/lang/String", name := "checkIndex", desc := "(II)V" } : Jvm.MethodName)) ∈ zTB := zt2 123 rfl rfl
set_option maxRecDepth 20000 in
theorem zq680 : (Jvm.Cond.static ({ cls := "java/lang/String", name := "checkIndex", desc := "(II)V" } : Jvm.MethodName)) ∈ zTB := zt2 124 rfl rfl
set_option maxRecDepth 20000 in
theorem zq681 : (Jvm.Cond.code ({ cls := "java/lang/String", name := "checkIndex", desc := "(II)V" } : Jvm.MethodName) prog_22_method_155_code (2 : Nat) (Option.none : Option Jvm.ClassFile.FieldType)) ∈ zTB := zt2 125 rfl rfl
set_option maxRecDepth 20000 in
theorem zq682 : (Jvm.Cond.fieldLink "java/lang/String" (1053 : Nat) "jdk/internal/util/Preconditions" "SIOOBE_FORMATTER" "Ljava/util/function/BiFunction;") ∈ zTB := zt2 126 rfl rfl
set_option maxRecDepth 20000 in
theorem zq684 : (Jvm.Cond.methodLink "java/lang/String" (1059 : Nat) ({ cls := "jdk/internal/util/Preconditions", name := "checkIndex", desc := "(IILjava/util/function/BiFunction;)I" } : Jvm.MethodName)) ∈ zTB := zt2 128 rfl rfl
set_option maxRecDepth 20000 in
theorem zq685 : (Jvm.Cond.static ({ cls := "jdk/internal/util/Preconditions", name := "checkIndex", desc := "(IILjava/util/function/BiFunction;)I" } : Jvm.MethodName)) ∈ zTB := zt2 129 rfl rfl
set_option maxRecDepth 20000 in
theorem zq686 : (Jvm.Cond.code ({ cls := "jdk/internal/util/Preconditions", name := "checkIndex", desc := "(IILjava/util/function/BiFunction;)I" } : Jvm.MethodName) prog_30_method_11_code (3 : Nat) (Option.some Jvm.ClassFile.FieldType.int)) ∈ zTB := zt2 130 rfl rfl
set_option maxRecDepth 20000 in
theorem zq706 : (Jvm.Cond.methodLink "UnsoldPrice$MarketReader" (93 : Nat) ({ cls := "UnsoldPrice$MarketReader", name := "number", desc := "(I)I" } : Jvm.MethodName)) ∈ zTB := zt2 150 rfl rfl
set_option maxRecDepth 20000 in
theorem zq707 : (Jvm.Cond.sameMethod "UnsoldPrice$MarketReader" "UnsoldPrice$Reader" "number" "(I)I") ∈ zTB := zt2 151 rfl rfl
set_option maxRecDepth 20000 in
theorem zq709 : (Jvm.Cond.selects "UnsoldPrice$MarketReader" ({ cls := "UnsoldPrice$MarketReader", name := "number", desc := "(I)I" } : Jvm.MethodName) ({ cls := "UnsoldPrice$Reader", name := "number", desc := "(I)I" } : Jvm.MethodName)) ∈ zTB := zt2 153 rfl rfl
set_option maxRecDepth 20000 in
theorem zq710 : (Jvm.Cond.instanceMethod ({ cls := "UnsoldPrice$Reader", name := "number", desc := "(I)I" } : Jvm.MethodName)) ∈ zTB := zt2 154 rfl rfl
set_option maxRecDepth 20000 in
theorem zq711 : (Jvm.Cond.code ({ cls := "UnsoldPrice$Reader", name := "number", desc := "(I)I" } : Jvm.MethodName) prog_5_method_6_code (6 : Nat) (Option.some Jvm.ClassFile.FieldType.int)) ∈ zTB := zt2 155 rfl rfl
set_option maxRecDepth 20000 in
theorem zq716 : (Jvm.Cond.methodLink "UnsoldPrice$MarketReader" (64 : Nat) ({ cls := "UnsoldPrice$Market", name := "addSeller", desc := "(III)Z" } : Jvm.MethodName)) ∈ zTB := zt2 160 rfl rfl
set_option maxRecDepth 20000 in
theorem zq717 : (Jvm.Cond.instanceMethod ({ cls := "UnsoldPrice$Market", name := "addSeller", desc := "(III)Z" } : Jvm.MethodName)) ∈ zTB := zt2 161 rfl rfl
set_option maxRecDepth 20000 in
theorem zq718 : (Jvm.Cond.selects "UnsoldPrice$Market" ({ cls := "UnsoldPrice$Market", name := "addSeller", desc := "(III)Z" } : Jvm.MethodName) ({ cls := "UnsoldPrice$Market", name := "addSeller", desc := "(III)Z" } : Jvm.MethodName)) ∈ zTB := zt2 162 rfl rfl
set_option maxRecDepth 20000 in
theorem zq719 : (Jvm.Cond.code ({ cls := "UnsoldPrice$Market", name := "addSeller", desc := "(III)Z" } : Jvm.MethodName) prog_2_method_3_code (4 : Nat) (Option.some Jvm.ClassFile.FieldType.boolean)) ∈ zTB := zt2 163 rfl rfl
set_option maxRecDepth 20000 in
theorem zq720 : (Jvm.Cond.methodLink "UnsoldPrice$MarketReader" (68 : Nat) ({ cls := "UnsoldPrice$Market", name := "addSort", desc := "(III)Z" } : Jvm.MethodName)) ∈ zTB := zt2 164 rfl rfl
set_option maxRecDepth 20000 in
theorem zq721 : (Jvm.Cond.instanceMethod ({ cls := "UnsoldPrice$Market", name := "addSort", desc := "(III)Z" } : Jvm.MethodName)) ∈ zTB := zt2 165 rfl rfl
set_option maxRecDepth 20000 in
theorem zq722 : (Jvm.Cond.selects "UnsoldPrice$Market" ({ cls := "UnsoldPrice$Market", name := "addSort", desc := "(III)Z" } : Jvm.MethodName) ({ cls := "UnsoldPrice$Market", name := "addSort", desc := "(III)Z" } : Jvm.MethodName)) ∈ zTB := zt2 166 rfl rfl
set_option maxRecDepth 20000 in
theorem zq723 : (Jvm.Cond.code ({ cls := "UnsoldPrice$Market", name := "addSort", desc := "(III)Z" } : Jvm.MethodName) prog_2_method_4_code (5 : Nat) (Option.some Jvm.ClassFile.FieldType.boolean)) ∈ zTB := zt2 167 rfl rfl
set_option maxRecDepth 20000 in
theorem zq724 : (Jvm.Cond.methodLink "UnsoldPrice$MarketReader" (71 : Nat) ({ cls := "UnsoldPrice$Market", name := "setLaw", desc := "(II)Z" } : Jvm.MethodName)) ∈ zTB := zt2 168 rfl rfl
set_option maxRecDepth 20000 in
theorem zq725 : (Jvm.Cond.instanceMethod ({ cls := "UnsoldPrice$Market", name := "setLaw", desc := "(II)Z" } : Jvm.MethodName)) ∈ zTB := zt2 169 rfl rfl
set_option maxRecDepth 20000 in
theorem zq726 : (Jvm.Cond.selects "UnsoldPrice$Market" ({ cls := "UnsoldPrice$Market", name := "setLaw", desc := "(II)Z" } : Jvm.MethodName) ({ cls := "UnsoldPrice$Market", name := "setLaw", desc := "(II)Z" } : Jvm.MethodName)) ∈ zTB := zt2 170 rfl rfl
set_option maxRecDepth 20000 in
theorem zq727 : (Jvm.Cond.code ({ cls := "UnsoldPrice$Market", name := "setLaw", desc := "(II)Z" } : Jvm.MethodName) prog_2_method_5_code (3 : Nat) (Option.some Jvm.ClassFile.FieldType.boolean)) ∈ zTB := zt2 171 rfl rfl
set_option maxRecDepth 20000 in
theorem zq728 : (Jvm.Cond.methodLink "UnsoldPrice$MarketReader" (49 : Nat) ({ cls := "UnsoldPrice$MarketReader", name := "take", desc := "(I)Z" } : Jvm.MethodName)) ∈ zTB := zt2 172 rfl rfl
set_option maxRecDepth 20000 in
theorem zq729 : (Jvm.Cond.sameMethod "UnsoldPrice$MarketReader" "UnsoldPrice$Reader" "take" "(I)Z") ∈ zTB := zt2 173 rfl rfl
set_option maxRecDepth 20000 in
theorem zq731 : (Jvm.Cond.selects "UnsoldPrice$MarketReader" ({ cls := "UnsoldPrice$MarketReader", name := "take", desc := "(I)Z" } : Jvm.MethodName) ({ cls := "UnsoldPrice$Reader", name := "take", desc := "(I)Z" } : Jvm.MethodName)) ∈ zTB := zt2 175 rfl rfl
set_option maxRecDepth 20000 in
theorem zq732 : (Jvm.Cond.instanceMethod ({ cls := "UnsoldPrice$Reader", name := "take", desc := "(I)Z" } : Jvm.MethodName)) ∈ zTB := zt2 176 rfl rfl
set_option maxRecDepth 20000 in
theorem zq733 : (Jvm.Cond.code ({ cls := "UnsoldPrice$Reader", name := "take", desc := "(I)Z" } : Jvm.MethodName) prog_5_method_5_code (2 : Nat) (Option.some Jvm.ClassFile.FieldType.boolean)) ∈ zTB := zt2 177 rfl rfl
set_option maxRecDepth 20000 in
theorem zq734 : (Jvm.Cond.methodLink "UnsoldPrice$Reader" (28 : Nat) ({ cls := "UnsoldPrice$Reader", name := "sign", desc := "()I" } : Jvm.MethodName)) ∈ zTB := zt2 178 rfl rfl
set_option maxRecDepth 20000 in
theorem zq735 : (Jvm.Cond.methodLink "UnsoldPrice$Reader" (32 : Nat) ({ cls := "UnsoldPrice$Reader", name := "wrong", desc := "()Z" } : Jvm.MethodName)) ∈ zTB := zt2 179 rfl rfl
set_option maxRecDepth 20000 in
theorem zq736 : (Jvm.Cond.methodLink "UnsoldPrice" (115 : Nat) ({ cls := "UnsoldPrice$RuleReader", name := "read", desc := "(LUnsoldPrice$Rule;)I" } : Jvm.MethodName)) ∈ zTB := zt2 180 rfl rfl
set_option maxRecDepth 20000 in
theorem zq737 : (Jvm.Cond.instanceMethod ({ cls := "UnsoldPrice$RuleReader", name := "read", desc := "(LUnsoldPrice$Rule;)I" } : Jvm.MethodName)) ∈ zTB := zt2 181 rfl rfl
set_option maxRecDepth 20000 in
theorem zq738 : (Jvm.Cond.selects "UnsoldPrice$RuleReader" ({ cls := "UnsoldPrice$RuleReader", name := "read", desc := "(LUnsoldPrice$Rule;)I" } : Jvm.MethodName) ({ cls := "UnsoldPrice$RuleReader", name := "read", desc := "(LUnsoldPrice$Rule;)I" } : Jvm.MethodName)) ∈ zTB := zt2 182 rfl rfl
set_option maxRecDepth 20000 in
theorem zq739 : (Jvm.Cond.code ({ cls := "UnsoldPrice$RuleReader", name := "read", desc := "(LUnsoldPrice$Rule;)I" } : Jvm.MethodName) prog_7_method_2_code (3 : Nat) (Option.some Jvm.ClassFile.FieldType.int)) ∈ zTB := zt2 183 rfl rfl
set_option maxRecDepth 20000 in
theorem zq740 : (Jvm.Cond.methodLink "UnsoldPrice$RuleReader" (9 : Nat) ({ cls := "UnsoldPrice$RuleReader", name := "beginReading", desc := "()V" } : Jvm.MethodName)) ∈ zTB := zt2 184 rfl rfl
set_option maxRecDepth 20000 in
theorem zq741 : (Jvm.Cond.sameMethod "UnsoldPrice$RuleReader" "UnsoldPrice$Reader" "beginReading" "()V") ∈ zTB := zt2 185 rfl rfl
set_option maxRecDepth 20000 in
theorem zq742 : (Jvm.Cond.selects "UnsoldPrice$RuleReader" ({ cls := "UnsoldPrice$RuleReader", name := "beginReading", desc := "()V" } : Jvm.MethodName) ({ cls := "UnsoldPrice$Reader", name := "beginReading", desc := "()V" } : Jvm.MethodName)) ∈ zTB := zt2 186 rfl rfl
set_option maxRecDepth 20000 in
theorem zq743 : (Jvm.Cond.methodLink "UnsoldPrice$RuleReader" (25 : Nat) ({ cls := "UnsoldPrice$RuleReader", name := "clause", desc := "()Z" } : Jvm.MethodName)) ∈ zTB := zt2 187 rfl rfl
set_option maxRecDepth 20000 in
theorem zq745 : (Jvm.Cond.instanceMethod ({ cls := "UnsoldPrice$RuleReader", name := "clause", desc := "()Z" } : Jvm.MethodName)) ∈ zTB := zt2 189 rfl rfl
set_option maxRecDepth 20000 in
theorem zq746 : (Jvm.Cond.code ({ cls := "UnsoldPrice$RuleReader", name := "clause", desc := "()Z" } : Jvm.MethodName) prog_7_method_4_code (4 : Nat) (Option.some Jvm.ClassFile.FieldType.boolean)) ∈ zTB := zt2 190 rfl rfl
set_option maxRecDepth 20000 in
theorem zq747 : (Jvm.Cond.methodLink "UnsoldPrice$RuleReader" (36 : Nat) ({ cls := "UnsoldPrice$RuleReader", name := "take", desc := "(I)Z" } : Jvm.MethodName)) ∈ zTB := zt2 191 rfl rfl
set_option maxRecDepth 20000 in
theorem zq748 : (Jvm.Cond.sameMethod "UnsoldPrice$RuleReader" "UnsoldPrice$Reader" "take" "(I)Z") ∈ zTB := zt2 192 rfl rfl
set_option maxRecDepth 20000 in
theorem zq749 : (Jvm.Cond.selects "UnsoldPrice$RuleReader" ({ cls := "UnsoldPrice$RuleReader", name := "take", desc := "(I)Z" } : Jvm.MethodName) ({ cls := "UnsoldPrice$Reader", name := "take", desc := "(I)Z" } : Jvm.MethodName)) ∈ zTB := zt2 193 rfl rfl
set_option maxRecDepth 20000 in
theorem zq750 : (Jvm.Cond.methodLink "UnsoldPrice$RuleReader" (32 : Nat) ({ cls := "UnsoldPrice$RuleReader", name := "sign", desc := "()I" } : Jvm.MethodName)) ∈ zTB := zt2 194 rfl rfl
set_option maxRecDepth 20000 in
theorem zq751 : (Jvm.Cond.sameMethod "UnsoldPrice$RuleReader" "UnsoldPrice$Reader" "sign" "()I") ∈ zTB := zt2 195 rfl rfl
set_option maxRecDepth 20000 in
theorem zq752 : (Jvm.Cond.selects "UnsoldPrice$RuleReader" ({ cls := "UnsoldPrice$RuleReader", name := "sign", desc := "()I" } : Jvm.MethodName) ({ cls := "UnsoldPrice$Reader", name := "sign", desc := "()I" } : Jvm.MethodName)) ∈ zTB := zt2 196 rfl rfl
set_option maxRecDepth 20000 in
theorem zq753 : (Jvm.Cond.methodLink "UnsoldPrice$RuleReader" (46 : Nat) ({ cls := "UnsoldPrice$RuleReader", name := "sum", desc := "(I)Z" } : Jvm.MethodName)) ∈ zTB := zt2 197 rfl rfl
set_option maxRecDepth 20000 in
theorem zq755 : (Jvm.Cond.instanceMethod ({ cls := "UnsoldPrice$RuleReader", name := "sum", desc := "(I)Z" } : Jvm.MethodName)) ∈ zTB := zt2 199 rfl rfl
set_option maxRecDepth 20000 in
theorem zq756 : (Jvm.Cond.code ({ cls := "UnsoldPrice$RuleReader", name := "sum", desc := "(I)Z" } : Jvm.MethodName) prog_7_method_8_code (6 : Nat) (Option.some Jvm.ClassFile.FieldType.boolean)) ∈ zTB := zt2 200 rfl rfl
set_option maxRecDepth 20000 in
theorem zq757 : (Jvm.Cond.methodLink "UnsoldPrice$RuleReader" (66 : Nat) ({ cls := "UnsoldPrice$RuleReader", name := "atom", desc := "(I)Z" } : Jvm.MethodName)) ∈ zTB := zt2 201 rfl rfl
set_option maxRecDepth 20000 in
theorem zq759 : (Jvm.Cond.instanceMethod ({ cls := "UnsoldPrice$RuleReader", name := "atom", desc := "(I)Z" } : Jvm.MethodName)) ∈ zTB := zt2 203 rfl rfl
set_option maxRecDepth 20000 in
theorem zq760 : (Jvm.Cond.code ({ cls := "UnsoldPrice$RuleReader", name := "atom", desc := "(I)Z" } : Jvm.MethodName) prog_7_method_9_code (4 : Nat) (Option.some Jvm.ClassFile.FieldType.boolean)) ∈ zTB := zt2 204 rfl rfl
set_option maxRecDepth 20000 in
theorem zq761 : (Jvm.Cond.methodLink "UnsoldPrice$RuleReader" (69 : Nat) ({ cls := "UnsoldPrice$RuleReader", name := "number", desc := "(I)I" } : Jvm.MethodName)) ∈ zTB := zt2 205 rfl rfl
set_option maxRecDepth 20000 in
theorem zq762 : (Jvm.Cond.sameMethod "UnsoldPrice$RuleReader" "UnsoldPrice$Reader" "number" "(I)I") ∈ zTB := zt2 206 rfl rfl
set_option maxRecDepth 20000 in
theorem zq763 : (Jvm.Cond.selects "UnsoldPrice$RuleReader" ({ cls := "UnsoldPrice$RuleReader", name := "number", desc := "(I)I" } : Jvm.MethodName) ({ cls := "UnsoldPrice$Reader", name := "number", desc := "(I)I" } : Jvm.MethodName)) ∈ zTB := zt2 207 rfl rfl
set_option maxRecDepth 20000 in
theorem zq764 : (Jvm.Cond.methodLink "UnsoldPrice$RuleReader" (52 : Nat) ({ cls := "UnsoldPrice$RuleReader", name := "put", desc := "(I)Z" } : Jvm.MethodName)) ∈ zTB := zt2 208 rfl rfl
set_option maxRecDepth 20000 in
theorem zq766 : (Jvm.Cond.instanceMethod ({ cls := "UnsoldPrice$RuleReader", name := "put", desc := "(I)Z" } : Jvm.MethodName)) ∈ zTB := zt2 210 rfl rfl
set_option maxRecDepth 20000 in
theorem zq767 : (Jvm.Cond.code ({ cls := "UnsoldPrice$RuleReader", name := "put", desc := "(I)Z" } : Jvm.MethodName) prog_7_method_3_code (2 : Nat) (Option.some Jvm.ClassFile.FieldType.boolean)) ∈ zTB := zt2 211 rfl rfl
set_option maxRecDepth 20000 in
theorem zq768 : (Jvm.Cond.methodLink "UnsoldPrice$RuleReader" (43 : Nat) ({ cls := "UnsoldPrice$Rule", name := "put", desc := "(I)Z" } : Jvm.MethodName)) ∈ zTB := zt2 212 rfl rfl
set_option maxRecDepth 20000 in
theorem zq769 : (Jvm.Cond.instanceMethod ({ cls := "UnsoldPrice$Rule", name := "put", desc := "(I)Z" } : Jvm.MethodName)) ∈ zTB := zt2 213 rfl rfl
set_option maxRecDepth 20000 in
theorem zq770 : (Jvm.Cond.selects "UnsoldPrice$Rule" ({ cls := "UnsoldPrice$Rule", name := "put", desc := "(I)Z" } : Jvm.MethodName) ({ cls := "UnsoldPrice$Rule", name := "put", desc := "(I)Z" } : Jvm.MethodName)) ∈ zTB := zt2 214 rfl rfl
set_option maxRecDepth 20000 in
theorem zq771 : (Jvm.Cond.code ({ cls := "UnsoldPrice$Rule", name := "put", desc := "(I)Z" } : Jvm.MethodName) prog_6_method_2_code (2 : Nat) (Option.some Jvm.ClassFile.FieldType.boolean)) ∈ zTB := zt2 215 rfl rfl
set_option maxRecDepth 20000 in
theorem zq772 : (Jvm.Cond.methodLink "UnsoldPrice$RuleReader" (63 : Nat) ({ cls := "UnsoldPrice$RuleReader", name := "wrong", desc := "()Z" } : Jvm.MethodName)) ∈ zTB := zt2 216 rfl rfl
set_option maxRecDepth 20000 in
theorem zq773 : (Jvm.Cond.sameMethod "UnsoldPrice$RuleReader" "UnsoldPrice$Reader" "wrong" "()Z") ∈ zTB := zt2 217 rfl rfl
set_option maxRecDepth 20000 in
theorem zq774 : (Jvm.Cond.selects "UnsoldPrice$RuleReader" ({ cls := "UnsoldPrice$RuleReader", name := "wrong", desc := "()Z" } : Jvm.MethodName) ({ cls := "UnsoldPrice$Reader", name := "wrong", desc := "()Z" } : Jvm.MethodName)) ∈ zTB := zt2 218 rfl rfl
set_option maxRecDepth 20000 in
theorem zq776 : (Jvm.Cond.methodLink "UnsoldPrice$RuleReader" (75 : Nat) ({ cls := "java/lang/String", name := "length", desc := "()I" } : Jvm.MethodName)) ∈ zTB := zt2 220 rfl rfl
set_option maxRecDepth 20000 in
theorem zq777 : (Jvm.Cond.methodLink "UnsoldPrice$RuleReader" (79 : Nat) ({ cls := "java/lang/String", name := "charAt", desc := "(I)C" } : Jvm.MethodName)) ∈ zTB := zt2 221 rfl rfl
set_option maxRecDepth 20000 in
theorem zq778 : (Jvm.Cond.methodLink "UnsoldPrice$RuleReader" (49 : Nat) ({ cls := "UnsoldPrice$RuleReader", name := "isComparison", desc := "(I)Z" } : Jvm.MethodName)) ∈ zTB := zt2 222 rfl rfl
set_option maxRecDepth 20000 in
theorem zq779 : (Jvm.Cond.static ({ cls := "UnsoldPrice$RuleReader", name := "isComparison", desc := "(I)Z" } : Jvm.MethodName)) ∈ zTB := zt2 223 rfl rfl
set_option maxRecDepth 20000 in
theorem zq780 : (Jvm.Cond.code ({ cls := "UnsoldPrice$RuleReader", name := "isComparison", desc := "(I)Z" } : Jvm.MethodName) prog_7_method_7_code (1 : Nat) (Option.some Jvm.ClassFile.FieldType.boolean)) ∈ zTB := zt2 224 rfl rfl
set_option maxRecDepth 20000 in
theorem zq781 : (Jvm.Cond.methodLink "UnsoldPrice$RuleReader" (53 : Nat) ({ cls := "UnsoldPrice$RuleReader", name := "condition", desc := "(IZ)Z" } : Jvm.MethodName)) ∈ zTB := zt2 225 rfl rfl
set_option maxRecDepth 20000 in
theorem zq783 : (Jvm.Cond.instanceMethod ({ cls := "UnsoldPrice$RuleReader", name := "condition", desc := "(IZ)Z" } : Jvm.MethodName)) ∈ zTB := zt2 227 rfl rfl
set_option maxRecDepth 20000 in
theorem zq784 : (Jvm.Cond.code ({ cls := "UnsoldPrice$RuleReader", name := "condition", desc := "(IZ)Z" } : Jvm.MethodName) prog_7_method_5_code (7 : Nat) (Option.some Jvm.ClassFile.FieldType.boolean)) ∈ zTB := zt2 228 rfl rfl
set_option maxRecDepth 20000 in
theorem zq785 : (Jvm.Cond.methodLink "UnsoldPrice$RuleReader" (60 : Nat) ({ cls := "UnsoldPrice$RuleReader", name := "unit", desc := "(IZ)Z" } : Jvm.MethodName)) ∈ zTB := zt2 229 rfl rfl
set_option maxRecDepth 20000 in
theorem zq787 : (Jvm.Cond.instanceMethod ({ cls := "UnsoldPrice$RuleReader", name := "unit", desc := "(IZ)Z" } : Jvm.MethodName)) ∈ zTB := zt2 231 rfl rfl
set_option maxRecDepth 20000 in
theorem zq788 : (Jvm.Cond.code ({ cls := "UnsoldPrice$RuleReader", name := "unit", desc := "(IZ)Z" } : Jvm.MethodName) prog_7_method_6_code (5 : Nat) (Option.some Jvm.ClassFile.FieldType.boolean)) ∈ zTB := zt2 232 rfl rfl
set_option maxRecDepth 20000 in
theorem zq789 : (Jvm.Cond.methodLink "UnsoldPrice$RuleReader" (57 : Nat) ({ cls := "UnsoldPrice$Rule", name := "setHole", desc := "(I)Z" } : Jvm.MethodName)) ∈ zTB := zt2 233 rfl rfl
set_option maxRecDepth 20000 in
theorem zq790 : (Jvm.Cond.instanceMethod ({ cls := "UnsoldPrice$Rule", name := "setHole", desc := "(I)Z" } : Jvm.MethodName)) ∈ zTB := zt2 234 rfl rfl
set_option maxRecDepth 20000 in
theorem zq791 : (Jvm.Cond.selects "UnsoldPrice$Rule" ({ cls := "UnsoldPrice$Rule", name := "setHole", desc := "(I)Z" } : Jvm.MethodName) ({ cls := "UnsoldPrice$Rule", name := "setHole", desc := "(I)Z" } : Jvm.MethodName)) ∈ zTB := zt2 235 rfl rfl
set_option maxRecDepth 20000 in
theorem zq792 : (Jvm.Cond.code ({ cls := "UnsoldPrice$Rule", name := "setHole", desc := "(I)Z" } : Jvm.MethodName) prog_6_method_3_code (2 : Nat) (Option.some Jvm.ClassFile.FieldType.boolean)) ∈ zTB := zt2 236 rfl rfl
set_option maxRecDepth 20000 in
theorem zq793 : (Jvm.Cond.arrayClass Jvm.ClassFile.FieldType.byte) ∈ zTB := zt2 237 rfl rfl
set_option maxRecDepth 20000 in
theorem zq795 : (Jvm.Cond.instanceMethod ({ cls := "UnsoldPrice", name := "text", desc := "(I)I" } : Jvm.MethodName)) ∈ zTB := zt2 239 rfl rfl
set_option maxRecDepth 20000 in
theorem zq796 : (Jvm.Cond.selects "UnsoldPrice" ({ cls := "UnsoldPrice", name := "text", desc := "(I)I" } : Jvm.MethodName) ({ cls := "UnsoldPrice", name := "text", desc := "(I)I" } : Jvm.MethodName)) ∈ zTB := zt3 0 rfl rfl
set_option maxRecDepth 20000 in
theorem zq797 : (Jvm.Cond.code ({ cls := "UnsoldPrice", name := "text", desc := "(I)I" } : Jvm.MethodName) prog_1_method_5_code (2 : Nat) (Option.some Jvm.ClassFile.FieldType.int)) ∈ zTB := zt3 1 rfl rfl
set_option maxRecDepth 20000 in
theorem zq798 : (Jvm.Cond.methodLink "UnsoldPrice" (118 : Nat) ({ cls := "UnsoldPrice", name := "openMarket", desc := "()I" } : Jvm.MethodName)) ∈ zTB := zt3 2 rfl rfl
set_option maxRecDepth 20000 in
theorem zq800 : (Jvm.Cond.instanceMethod ({ cls := "UnsoldPrice", name := "openMarket", desc := "()I" } : Jvm.MethodName)) ∈ zTB := zt3 4 rfl rfl
set_option maxRecDepth 20000 in
theorem zq801 : (Jvm.Cond.code ({ cls := "UnsoldPrice", name := "openMarket", desc := "()I" } : Jvm.MethodName) prog_1_method_44_code (1 : Nat) (Option.some Jvm.ClassFile.FieldType.int)) ∈ zTB := zt3 5 rfl rfl
set_option maxRecDepth 20000 in
theorem zq802 : (Jvm.Cond.methodLink "UnsoldPrice" (357 : Nat) ({ cls := "UnsoldPrice$State", name := "clear", desc := "(I)V" } : Jvm.MethodName)) ∈ zTB := zt3 6 rfl rfl
set_option maxRecDepth 20000 in
theorem zq803 : (Jvm.Cond.instanceMethod ({ cls := "UnsoldPrice$State", name := "clear", desc := "(I)V" } : Jvm.MethodName)) ∈ zTB := zt3 7 rfl rfl
set_option maxRecDepth 20000 in
theorem zq804 : (Jvm.Cond.selects "UnsoldPrice$State" ({ cls := "UnsoldPrice$State", name := "clear", desc := "(I)V" } : Jvm.MethodName) ({ cls := "UnsoldPrice$State", name := "clear", desc := "(I)V" } : Jvm.MethodName)) ∈ zTB := zt3 8 rfl rfl
set_option maxRecDepth 20000 in
theorem zq805 : (Jvm.Cond.code ({ cls := "UnsoldPrice$State", name := "clear", desc := "(I)V" } : Jvm.MethodName) prog_10_method_2_code (3 : Nat) (Option.none : Option Jvm.ClassFile.FieldType)) ∈ zTB := zt3 9 rfl rfl
set_option maxRecDepth 20000 in
theorem zq806 : (Jvm.Cond.methodLink "UnsoldPrice" (125 : Nat) ({ cls := "UnsoldPrice", name := "addRule", desc := "()I" } : Jvm.MethodName)) ∈ zTB := zt3 10 rfl rfl
set_option maxRecDepth 20000 in
theorem zq808 : (Jvm.Cond.instanceMethod ({ cls := "UnsoldPrice", name := "addRule", desc := "()I" } : Jvm.MethodName)) ∈ zTB := zt3 12 rfl rfl
set_option maxRecDepth 20000 in
theorem zq809 : (Jvm.Cond.code ({ cls := "UnsoldPrice", name := "addRule", desc := "()I" } : Jvm.MethodName) prog_1_method_45_code (2 : Nat) (Option.some Jvm.ClassFile.FieldType.int)) ∈ zTB := zt3 13 rfl rfl
set_option maxRecDepth 20000 in
theorem zq811 : (Jvm.Cond.instanceMethod ({ cls := "UnsoldPrice", name := "buyers", desc := "(II)I" } : Jvm.MethodName)) ∈ zTB := zt3 15 rfl rfl
set_option maxRecDepth 20000 in
theorem zq812 : (Jvm.Cond.selects "UnsoldPrice" ({ cls := "UnsoldPrice", name := "buyers", desc := "(II)I" } : Jvm.MethodName) ({ cls := "UnsoldPrice", name := "buyers", desc := "(II)I" } : Jvm.MethodName)) ∈ zTB := zt3 16 rfl rfl
set_option maxRecDepth 20000 in
theorem zq813 : (Jvm.Cond.code ({ cls := "UnsoldPrice", name := "buyers", desc := "(II)I" } : Jvm.MethodName) prog_1_method_7_code (3 : Nat) (Option.some Jvm.ClassFile.FieldType.int)) ∈ zTB := zt3 17 rfl rfl
set_option maxRecDepth 20000 in
theorem zq814 : (Jvm.Cond.methodLink "UnsoldPrice" (170 : Nat) ({ cls := "UnsoldPrice", name := "isSort", desc := "(I)Z" } : Jvm.MethodName)) ∈ zTB := zt3 18 rfl rfl
set_option maxRecDepth 20000 in
theorem zq816 : (Jvm.Cond.instanceMethod ({ cls := "UnsoldPrice", name := "isSort", desc := "(I)Z" } : Jvm.MethodName)) ∈ zTB := zt3 20 rfl rfl
set_option maxRecDepth 20000 in
theorem zq817 : (Jvm.Cond.code ({ cls := "UnsoldPrice", name := "isSort", desc := "(I)Z" } : Jvm.MethodName) prog_1_method_42_code (2 : Nat) (Option.some Jvm.ClassFile.FieldType.boolean)) ∈ zTB := zt3 21 rfl rfl
set_option maxRecDepth 20000 in
theorem zq818 : (Jvm.Cond.methodLink "UnsoldPrice" (182 : Nat) ({ cls := "UnsoldPrice$State", name := "waiting", desc := "(I)I" } : Jvm.MethodName)) ∈ zTB := zt3 22 rfl rfl
set_option maxRecDepth 20000 in
theorem zq819 : (Jvm.Cond.instanceMethod ({ cls := "UnsoldPrice$State", name := "waiting", desc := "(I)I" } : Jvm.MethodName)) ∈ zTB := zt3 23 rfl rfl
set_option maxRecDepth 20000 in
theorem zq820 : (Jvm.Cond.selects "UnsoldPrice$State" ({ cls := "UnsoldPrice$State", name := "waiting", desc := "(I)I" } : Jvm.MethodName) ({ cls := "UnsoldPrice$State", name := "waiting", desc := "(I)I" } : Jvm.MethodName)) ∈ zTB := zt3 24 rfl rfl
set_option maxRecDepth 20000 in
theorem zq821 : (Jvm.Cond.code ({ cls := "UnsoldPrice$State", name := "waiting", desc := "(I)I" } : Jvm.MethodName) prog_10_method_6_code (5 : Nat) (Option.some Jvm.ClassFile.FieldType.int)) ∈ zTB := zt3 25 rfl rfl
set_option maxRecDepth 20000 in
theorem zq823 : (Jvm.Cond.instanceMethod ({ cls := "UnsoldPrice", name := "rule", desc := "(II)Z" } : Jvm.MethodName)) ∈ zTB := zt3 27 rfl rfl
set_option maxRecDepth 20000 in
theorem zq824 : (Jvm.Cond.selects "UnsoldPrice" ({ cls := "UnsoldPrice", name := "rule", desc := "(II)Z" } : Jvm.MethodName) ({ cls := "UnsoldPrice", name := "rule", desc := "(II)Z" } : Jvm.MethodName)) ∈ zTB := zt3 28 rfl rfl
set_option maxRecDepth 20000 in
theorem zq825 : (Jvm.Cond.code ({ cls := "UnsoldPrice", name := "rule", desc := "(II)Z" } : Jvm.MethodName) prog_1_method_8_code (3 : Nat) (Option.some Jvm.ClassFile.FieldType.boolean)) ∈ zTB := zt3 29 rfl rfl
set_option maxRecDepth 20000 in
theorem zq826 : (Jvm.Cond.methodLink "UnsoldPrice" (128 : Nat) ({ cls := "UnsoldPrice", name := "isSeller", desc := "(I)Z" } : Jvm.MethodName)) ∈ zTB := zt3 30 rfl rfl
set_option maxRecDepth 20000 in
theorem zq828 : (Jvm.Cond.instanceMethod ({ cls := "UnsoldPrice", name := "isSeller", desc := "(I)Z" } : Jvm.MethodName)) ∈ zTB := zt3 32 rfl rfl
set_option maxRecDepth 20000 in
theorem zq829 : (Jvm.Cond.code ({ cls := "UnsoldPrice", name := "isSeller", desc := "(I)Z" } : Jvm.MethodName) prog_1_method_41_code (2 : Nat) (Option.some Jvm.ClassFile.FieldType.boolean)) ∈ zTB := zt3 33 rfl rfl
set_option maxRecDepth 20000 in
theorem zq831 : (Jvm.Cond.instanceMethod ({ cls := "UnsoldPrice", name := "hold", desc := "(IZ)Z" } : Jvm.MethodName)) ∈ zTB := zt3 35 rfl rfl
set_option maxRecDepth 20000 in
theorem zq832 : (Jvm.Cond.selects "UnsoldPrice" ({ cls := "UnsoldPrice", name := "hold", desc := "(IZ)Z" } : Jvm.MethodName) ({ cls := "UnsoldPrice", name := "hold", desc := "(IZ)Z" } : Jvm.MethodName)) ∈ zTB := zt3 36 rfl rfl
set_option maxRecDepth 20000 in
theorem zq833 : (Jvm.Cond.code ({ cls := "UnsoldPrice", name := "hold", desc := "(IZ)Z" } : Jvm.MethodName) prog_1_method_9_code (3 : Nat) (Option.some Jvm.ClassFile.FieldType.boolean)) ∈ zTB := zt3 37 rfl rfl
set_option maxRecDepth 20000 in
theorem zq834 : (Jvm.Cond.methodLink "UnsoldPrice" (161 : Nat) ({ cls := "UnsoldPrice$State", name := "isHolding", desc := "(I)Z" } : Jvm.MethodName)) ∈ zTB := zt3 38 rfl rfl
set_option maxRecDepth 20000 in
theorem zq835 : (Jvm.Cond.instanceMethod ({ cls := "UnsoldPrice$State", name := "isHolding", desc := "(I)Z" } : Jvm.MethodName)) ∈ zTB := zt3 39 rfl rfl
set_option maxRecDepth 20000 in
theorem zq836 : (Jvm.Cond.selects "UnsoldPrice$State" ({ cls := "UnsoldPrice$State", name := "isHolding", desc := "(I)Z" } : Jvm.MethodName) ({ cls := "UnsoldPrice$State", name := "isHolding", desc := "(I)Z" } : Jvm.MethodName)) ∈ zTB := zt3 40 rfl rfl
set_option maxRecDepth 20000 in
theorem zq837 : (Jvm.Cond.code ({ cls := "UnsoldPrice$State", name := "isHolding", desc := "(I)Z" } : Jvm.MethodName) prog_10_method_4_code (2 : Nat) (Option.some Jvm.ClassFile.FieldType.boolean)) ∈ zTB := zt3 41 rfl rfl
set_option maxRecDepth 20000 in
theorem zq838 : (Jvm.Cond.methodLink "UnsoldPrice" (185 : Nat) ({ cls := "UnsoldPrice$State", name := "setHolding", desc := "(IZ)V" } : Jvm.MethodName)) ∈ zTB := zt3 42 rfl rfl
set_option maxRecDepth 20000 in
theorem zq839 : (Jvm.Cond.instanceMethod ({ cls := "UnsoldPrice$State", name := "setHolding", desc := "(IZ)V" } : Jvm.MethodName)) ∈ zTB := zt3 43 rfl rfl
set_option maxRecDepth 20000 in
theorem zq840 : (Jvm.Cond.selects "UnsoldPrice$State" ({ cls := "UnsoldPrice$State", name := "setHolding", desc := "(IZ)V" } : Jvm.MethodName) ({ cls := "UnsoldPrice$State", name := "setHolding", desc := "(IZ)V" } : Jvm.MethodName)) ∈ zTB := zt3 44 rfl rfl
set_option maxRecDepth 20000 in
theorem zq841 : (Jvm.Cond.code ({ cls := "UnsoldPrice$State", name := "setHolding", desc := "(IZ)V" } : Jvm.MethodName) prog_10_method_5_code (3 : Nat) (Option.none : Option Jvm.ClassFile.FieldType)) ∈ zTB := zt3 45 rfl rfl
set_option maxRecDepth 20000 in
theorem zq843 : (Jvm.Cond.instanceMethod ({ cls := "UnsoldPrice", name := "risk", desc := "(I)Z" } : Jvm.MethodName)) ∈ zTB := zt3 47 rfl rfl
set_option maxRecDepth 20000 in
theorem zq844 : (Jvm.Cond.selects "UnsoldPrice" ({ cls := "UnsoldPrice", name := "risk", desc := "(I)Z" } : Jvm.MethodName) ({ cls := "UnsoldPrice", name := "risk", desc := "(I)Z" } : Jvm.MethodName)) ∈ zTB := zt3 48 rfl rfl
set_option maxRecDepth 20000 in
theorem zq845 : (Jvm.Cond.code ({ cls := "UnsoldPrice", name := "risk", desc := "(I)Z" } : Jvm.MethodName) prog_1_method_10_code (2 : Nat) (Option.some Jvm.ClassFile.FieldType.boolean)) ∈ zTB := zt3 49 rfl rfl
set_option maxRecDepth 20000 in
theorem zq847 : (Jvm.Cond.instanceMethod ({ cls := "UnsoldPrice", name := "seed", desc := "(J)Z" } : Jvm.MethodName)) ∈ zTB := zt3 51 rfl rfl
set_option maxRecDepth 20000 in
theorem zq848 : (Jvm.Cond.selects "UnsoldPrice" ({ cls := "UnsoldPrice", name := "seed", desc := "(J)Z" } : Jvm.MethodName) ({ cls := "UnsoldPrice", name := "seed", desc := "(J)Z" } : Jvm.MethodName)) ∈ zTB := zt3 52 rfl rfl
set_option maxRecDepth 20000 in
theorem zq849 : (Jvm.Cond.code ({ cls := "UnsoldPrice", name := "seed", desc := "(J)Z" } : Jvm.MethodName) prog_1_method_11_code (3 : Nat) (Option.some Jvm.ClassFile.FieldType.boolean)) ∈ zTB := zt3 53 rfl rfl
set_option maxRecDepth 20000 in
theorem zq851 : (Jvm.Cond.instanceMethod ({ cls := "UnsoldPrice", name := "days", desc := "(I)I" } : Jvm.MethodName)) ∈ zTB := zt3 55 rfl rfl
set_option maxRecDepth 20000 in
theorem zq852 : (Jvm.Cond.selects "UnsoldPrice" ({ cls := "UnsoldPrice", name := "days", desc := "(I)I" } : Jvm.MethodName) ({ cls := "UnsoldPrice", name := "days", desc := "(I)I" } : Jvm.MethodName)) ∈ zTB := zt3 56 rfl rfl
set_option maxRecDepth 20000 in
theorem zq853 : (Jvm.Cond.code ({ cls := "UnsoldPrice", name := "days", desc := "(I)I" } : Jvm.MethodName) prog_1_method_12_code (4 : Nat) (Option.some Jvm.ClassFile.FieldType.int)) ∈ zTB := zt3 57 rfl rfl
set_option maxRecDepth 20000 in
theorem zq854 : (Jvm.Cond.methodLink "UnsoldPrice" (196 : Nat) ({ cls := "UnsoldPrice", name := "noDays", desc := "(I)Z" } : Jvm.MethodName)) ∈ zTB := zt3 58 rfl rfl
set_option maxRecDepth 20000 in
theorem zq856 : (Jvm.Cond.instanceMethod ({ cls := "UnsoldPrice", name := "noDays", desc := "(I)Z" } : Jvm.MethodName)) ∈ zTB := zt3 60 rfl rfl
set_option maxRecDepth 20000 in
theorem zq857 : (Jvm.Cond.code ({ cls := "UnsoldPrice", name := "noDays", desc := "(I)Z" } : Jvm.MethodName) prog_1_method_38_code (2 : Nat) (Option.some Jvm.ClassFile.FieldType.boolean)) ∈ zTB := zt3 61 rfl rfl
set_option maxRecDepth 20000 in
theorem zq858 : (Jvm.Cond.methodLink "UnsoldPrice" (225 : Nat) ({ cls := "UnsoldPrice", name := "noMarket", desc := "()Z" } : Jvm.MethodName)) ∈ zTB := zt3 62 rfl rfl
set_option maxRecDepth 20000 in
theorem zq860 : (Jvm.Cond.instanceMethod ({ cls := "UnsoldPrice", name := "noMarket", desc := "()Z" } : Jvm.MethodName)) ∈ zTB := zt3 64 rfl rfl
set_option maxRecDepth 20000 in
theorem zq861 : (Jvm.Cond.code ({ cls := "UnsoldPrice", name := "noMarket", desc := "()Z" } : Jvm.MethodName) prog_1_method_37_code (1 : Nat) (Option.some Jvm.ClassFile.FieldType.boolean)) ∈ zTB := zt3 65 rfl rfl
set_option maxRecDepth 20000 in
theorem zq862 : (Jvm.Cond.methodLink "UnsoldPrice" (199 : Nat) ({ cls := "UnsoldPrice$Runner", name := "begin", desc := "()V" } : Jvm.MethodName)) ∈ zTB := zt3 66 rfl rfl
set_option maxRecDepth 20000 in
theorem zq863 : (Jvm.Cond.instanceMethod ({ cls := "UnsoldPrice$Runner", name := "begin", desc := "()V" } : Jvm.MethodName)) ∈ zTB := zt3 67 rfl rfl
set_option maxRecDepth 20000 in
theorem zq864 : (Jvm.Cond.selects "UnsoldPrice$Runner" ({ cls := "UnsoldPrice$Runner", name := "begin", desc := "()V" } : Jvm.MethodName) ({ cls := "UnsoldPrice$Runner", name := "begin", desc := "()V" } : Jvm.MethodName)) ∈ zTB := zt3 68 rfl rfl
set_option maxRecDepth 20000 in
theorem zq865 : (Jvm.Cond.code ({ cls := "UnsoldPrice$Runner", name := "begin", desc := "()V" } : Jvm.MethodName) prog_8_method_2_code (2 : Nat) (Option.none : Option Jvm.ClassFile.FieldType)) ∈ zTB := zt3 69 rfl rfl
set_option maxRecDepth 20000 in
theorem zq866 : (Jvm.Cond.methodLink "UnsoldPrice" (202 : Nat) ({ cls := "UnsoldPrice$State", name := "draw", desc := "()I" } : Jvm.MethodName)) ∈ zTB := zt3 70 rfl rfl
set_option maxRecDepth 20000 in
theorem zq867 : (Jvm.Cond.instanceMethod ({ cls := "UnsoldPrice$State", name := "draw", desc := "()I" } : Jvm.MethodName)) ∈ zTB := zt3 71 rfl rfl
set_option maxRecDepth 20000 in
theorem zq868 : (Jvm.Cond.selects "UnsoldPrice$State" ({ cls := "UnsoldPrice$State", name := "draw", desc := "()I" } : Jvm.MethodName) ({ cls := "UnsoldPrice$State", name := "draw", desc := "()I" } : Jvm.MethodName)) ∈ zTB := zt3 72 rfl rfl
set_option maxRecDepth 20000 in
theorem zq869 : (Jvm.Cond.code ({ cls := "UnsoldPrice$State", name := "draw", desc := "()I" } : Jvm.MethodName) prog_10_method_7_code (1 : Nat) (Option.some Jvm.ClassFile.FieldType.int)) ∈ zTB := zt3 73 rfl rfl
set_option maxRecDepth 20000 in
theorem zq870 : (Jvm.Cond.constantLong "UnsoldPrice$State" (62 : Nat) (6364136223846793005 : Int64)) ∈ zTB := zt3 74 rfl rfl
set_option maxRecDepth 20000 in
theorem zq871 : (Jvm.Cond.constantLong "UnsoldPrice$State" (64 : Nat) (1442695040888963407 : Int64)) ∈ zTB := zt3 75 rfl rfl
set_option maxRecDepth 20000 in
theorem zq872 : (Jvm.Cond.constantLong "UnsoldPrice$State" (66 : Nat) (100 : Int64)) ∈ zTB := zt3 76 rfl rfl
set_option maxRecDepth 20000 in
theorem zq873 : (Jvm.Cond.methodLink "UnsoldPrice" (205 : Nat) ({ cls := "UnsoldPrice$Runner", name := "runDay", desc := "(LUnsoldPrice$State;Z)V" } : Jvm.MethodName)) ∈ zTB := zt3 77 rfl rfl
set_option maxRecDepth 20000 in
theorem zq874 : (Jvm.Cond.instanceMethod ({ cls := "UnsoldPrice$Runner", name := "runDay", desc := "(LUnsoldPrice$State;Z)V" } : Jvm.MethodName)) ∈ zTB := zt3 78 rfl rfl
set_option maxRecDepth 20000 in
theorem zq875 : (Jvm.Cond.selects "UnsoldPrice$Runner" ({ cls := "UnsoldPrice$Runner", name := "runDay", desc := "(LUnsoldPrice$State;Z)V" } : Jvm.MethodName) ({ cls := "UnsoldPrice$Runner", name := "runDay", desc := "(LUnsoldPrice$State;Z)V" } : Jvm.MethodName)) ∈ zTB := zt3 79 rfl rfl
set_option maxRecDepth 20000 in
theorem zq876 : (Jvm.Cond.code ({ cls := "UnsoldPrice$Runner", name := "runDay", desc := "(LUnsoldPrice$State;Z)V" } : Jvm.MethodName) prog_8_method_3_code (4 : Nat) (Option.none : Option Jvm.ClassFile.FieldType)) ∈ zTB := zt3 80 rfl rfl
set_option maxRecDepth 20000 in
theorem zq877 : (Jvm.Cond.methodLink "UnsoldPrice$Runner" (48 : Nat) ({ cls := "UnsoldPrice$Runner", name := "openDay", desc := "(LUnsoldPrice$State;Z)I" } : Jvm.MethodName)) ∈ zTB := zt3 81 rfl rfl
set_option maxRecDepth 20000 in
theorem zq878 : (Jvm.Cond.instanceMethod ({ cls := "UnsoldPrice$Runner", name := "openDay", desc := "(LUnsoldPrice$State;Z)I" } : Jvm.MethodName)) ∈ zTB := zt3 82 rfl rfl
set_option maxRecDepth 20000 in
theorem zq879 : (Jvm.Cond.selects "UnsoldPrice$Runner" ({ cls := "UnsoldPrice$Runner", name := "openDay", desc := "(LUnsoldPrice$State;Z)I" } : Jvm.MethodName) ({ cls := "UnsoldPrice$Runner", name := "openDay", desc := "(LUnsoldPrice$State;Z)I" } : Jvm.MethodName)) ∈ zTB := zt3 83 rfl rfl
set_option maxRecDepth 20000 in
theorem zq880 : (Jvm.Cond.code ({ cls := "UnsoldPrice$Runner", name := "openDay", desc := "(LUnsoldPrice$State;Z)I" } : Jvm.MethodName) prog_8_method_4_code (6 : Nat) (Option.some Jvm.ClassFile.FieldType.int)) ∈ zTB := zt3 84 rfl rfl
set_option maxRecDepth 20000 in
theorem zq881 : (Jvm.Cond.methodLink "UnsoldPrice$Runner" (77 : Nat) ({ cls := "java/lang/Math", name := "min", desc := "(II)I" } : Jvm.MethodName)) ∈ zTB := zt3 85 rfl rfl
set_option maxRecDepth 20000 in
theorem zq882 : (Jvm.Cond.methodLink "UnsoldPrice$Runner" (52 : Nat) ({ cls := "UnsoldPrice$Runner", name := "setAskings", desc := "(LUnsoldPrice$State;I)V" } : Jvm.MethodName)) ∈ zTB := zt3 86 rfl rfl
set_option maxRecDepth 20000 in
theorem zq884 : (Jvm.Cond.instanceMethod ({ cls := "UnsoldPrice$Runner", name := "setAskings", desc := "(LUnsoldPrice$State;I)V" } : Jvm.MethodName)) ∈ zTB := zt3 88 rfl rfl
set_option maxRecDepth 20000 in
theorem zq885 : (Jvm.Cond.code ({ cls := "UnsoldPrice$Runner", name := "setAskings", desc := "(LUnsoldPrice$State;I)V" } : Jvm.MethodName) prog_8_method_5_code (6 : Nat) (Option.none : Option Jvm.ClassFile.FieldType)) ∈ zTB := zt3 89 rfl rfl
set_option maxRecDepth 20000 in
theorem zq886 : (Jvm.Cond.methodLink "UnsoldPrice$Runner" (113 : Nat) ({ cls := "UnsoldPrice$State", name := "isHolding", desc := "(I)Z" } : Jvm.MethodName)) ∈ zTB := zt3 90 rfl rfl
set_option maxRecDepth 20000 in
theorem zq887 : (Jvm.Cond.methodLink "UnsoldPrice$Runner" (120 : Nat) ({ cls := "UnsoldPrice$Rule", name := "worth", desc := "([I)I" } : Jvm.MethodName)) ∈ zTB := zt3 91 rfl rfl
set_option maxRecDepth 20000 in
theorem zq888 : (Jvm.Cond.instanceMethod ({ cls := "UnsoldPrice$Rule", name := "worth", desc := "([I)I" } : Jvm.MethodName)) ∈ zTB := zt3 92 rfl rfl
set_option maxRecDepth 20000 in
theorem zq889 : (Jvm.Cond.selects "UnsoldPrice$Rule" ({ cls := "UnsoldPrice$Rule", name := "worth", desc := "([I)I" } : Jvm.MethodName) ({ cls := "UnsoldPrice$Rule", name := "worth", desc := "([I)I" } : Jvm.MethodName)) ∈ zTB := zt3 93 rfl rfl
set_option maxRecDepth 20000 in
theorem zq890 : (Jvm.Cond.code ({ cls := "UnsoldPrice$Rule", name := "worth", desc := "([I)I" } : Jvm.MethodName) prog_6_method_4_code (6 : Nat) (Option.some Jvm.ClassFile.FieldType.int)) ∈ zTB := zt3 94 rfl rfl
set_option maxRecDepth 20000 in
theorem zq891 : (Jvm.Cond.methodLink "UnsoldPrice$Rule" (22 : Nat) ({ cls := "UnsoldPrice$Rule", name := "isBetweenTwo", desc := "(I)Z" } : Jvm.MethodName)) ∈ zTB := zt3 95 rfl rfl
set_option maxRecDepth 20000 in
theorem zq892 : (Jvm.Cond.static ({ cls := "UnsoldPrice$Rule", name := "isBetweenTwo", desc := "(I)Z" } : Jvm.MethodName)) ∈ zTB := zt3 96 rfl rfl
set_option maxRecDepth 20000 in
theorem zq893 : (Jvm.Cond.code ({ cls := "UnsoldPrice$Rule", name := "isBetweenTwo", desc := "(I)Z" } : Jvm.MethodName) prog_6_method_5_code (1 : Nat) (Option.some Jvm.ClassFile.FieldType.boolean)) ∈ zTB := zt3 97 rfl rfl
set_option maxRecDepth 20000 in
theorem zq894 : (Jvm.Cond.methodLink "UnsoldPrice$Rule" (26 : Nat) ({ cls := "java/lang/Math", name := "max", desc := "(II)I" } : Jvm.MethodName)) ∈ zTB := zt3 98 rfl rfl
set_option maxRecDepth 20000 in
theorem zq895 : (Jvm.Cond.methodLink "UnsoldPrice$Rule" (32 : Nat) ({ cls := "UnsoldPrice$Rule", name := "joined", desc := "(III)I" } : Jvm.MethodName)) ∈ zTB := zt3 99 rfl rfl
set_option maxRecDepth 20000 in
theorem zq896 : (Jvm.Cond.static ({ cls := "UnsoldPrice$Rule", name := "joined", desc := "(III)I" } : Jvm.MethodName)) ∈ zTB := zt3 100 rfl rfl
set_option maxRecDepth 20000 in
theorem zq897 : (Jvm.Cond.code ({ cls := "UnsoldPrice$Rule", name := "joined", desc := "(III)I" } : Jvm.MethodName) prog_6_method_6_code (5 : Nat) (Option.some Jvm.ClassFile.FieldType.int)) ∈ zTB := zt3 101 rfl rfl
set_option maxRecDepth 20000 in
theorem zq898 : (Jvm.Cond.constantLong "UnsoldPrice$Rule" (36 : Nat) (-1000000 : Int64)) ∈ zTB := zt3 102 rfl rfl
set_option maxRecDepth 20000 in
theorem zq899 : (Jvm.Cond.constantLong "UnsoldPrice$Rule" (38 : Nat) (1000000 : Int64)) ∈ zTB := zt3 103 rfl rfl
set_option maxRecDepth 20000 in
theorem zq900 : (Jvm.Cond.methodLink "UnsoldPrice$Rule" (40 : Nat) ({ cls := "java/lang/Math", name := "min", desc := "(JJ)J" } : Jvm.MethodName)) ∈ zTB := zt3 104 rfl rfl
set_option maxRecDepth 20000 in
theorem zq901 : (Jvm.Cond.static ({ cls := "java/lang/Math", name := "min", desc := "(JJ)J" } : Jvm.MethodName)) ∈ zTB := zt3 105 rfl rfl
set_option maxRecDepth 20000 in
theorem zq902 : (Jvm.Cond.code ({ cls := "java/lang/Math", name := "min", desc := "(JJ)J" } : Jvm.MethodName) prog_20_method_70_code (4 : Nat) (Option.some Jvm.ClassFile.FieldType.long)) ∈ zTB := zt3 106 rfl rfl
set_option maxRecDepth 20000 in
theorem zq903 : (Jvm.Cond.methodLink "UnsoldPrice$Rule" (44 : Nat) ({ cls := "java/lang/Math", name := "max", desc := "(JJ)J" } : Jvm.MethodName)) ∈ zTB := zt3 107 rfl rfl
set_option maxRecDepth 20000 in
theorem zq904 : (Jvm.Cond.static ({ cls := "java/lang/Math", name := "max", desc := "(JJ)J" } : Jvm.MethodName)) ∈ zTB := zt3 108 rfl rfl
set_option maxRecDepth 20000 in
theorem zq905 : (Jvm.Cond.code ({ cls := "java/lang/Math", name := "max", desc := "(JJ)J" } : Jvm.MethodName) prog_20_method_66_code (4 : Nat) (Option.some Jvm.ClassFile.FieldType.long)) ∈ zTB := zt3 109 rfl rfl
set_option maxRecDepth 20000 in
theorem zq906 : (Jvm.Cond.methodLink "UnsoldPrice$Runner" (126 : Nat) ({ cls := "java/lang/Math", name := "max", desc := "(II)I" } : Jvm.MethodName)) ∈ zTB := zt3 110 rfl rfl
set_option maxRecDepth 20000 in
theorem zq907 : (Jvm.Cond.methodLink "UnsoldPrice$Runner" (56 : Nat) ({ cls := "UnsoldPrice$Runner", name := "lineUp", desc := "(LUnsoldPrice$State;)V" } : Jvm.MethodName)) ∈ zTB := zt3 111 rfl rfl
set_option maxRecDepth 20000 in
theorem zq908 : (Jvm.Cond.instanceMethod ({ cls := "UnsoldPrice$Runner", name := "lineUp", desc := "(LUnsoldPrice$State;)V" } : Jvm.MethodName)) ∈ zTB := zt3 112 rfl rfl
set_option maxRecDepth 20000 in
theorem zq909 : (Jvm.Cond.selects "UnsoldPrice$Runner" ({ cls := "UnsoldPrice$Runner", name := "lineUp", desc := "(LUnsoldPrice$State;)V" } : Jvm.MethodName) ({ cls := "UnsoldPrice$Runner", name := "lineUp", desc := "(LUnsoldPrice$State;)V" } : Jvm.MethodName)) ∈ zTB := zt3 113 rfl rfl
set_option maxRecDepth 20000 in
theorem zq910 : (Jvm.Cond.code ({ cls := "UnsoldPrice$Runner", name := "lineUp", desc := "(LUnsoldPrice$State;)V" } : Jvm.MethodName) prog_8_method_6_code (4 : Nat) (Option.none : Option Jvm.ClassFile.FieldType)) ∈ zTB := zt3 114 rfl rfl
set_option maxRecDepth 20000 in
theorem zq911 : (Jvm.Cond.methodLink "UnsoldPrice$Runner" (60 : Nat) ({ cls := "UnsoldPrice$Runner", name := "sell", desc := "(LUnsoldPrice$State;)V" } : Jvm.MethodName)) ∈ zTB := zt3 115 rfl rfl
set_option maxRecDepth 20000 in
theorem zq912 : (Jvm.Cond.instanceMethod ({ cls := "UnsoldPrice$Runner", name := "sell", desc := "(LUnsoldPrice$State;)V" } : Jvm.MethodName)) ∈ zTB := zt3 116 rfl rfl
set_option maxRecDepth 20000 in
theorem zq913 : (Jvm.Cond.selects "UnsoldPrice$Runner" ({ cls := "UnsoldPrice$Runner", name := "sell", desc := "(LUnsoldPrice$State;)V" } : Jvm.MethodName) ({ cls := "UnsoldPrice$Runner", name := "sell", desc := "(LUnsoldPrice$State;)V" } : Jvm.MethodName)) ∈ zTB := zt3 117 rfl rfl
set_option maxRecDepth 20000 in
theorem zq914 : (Jvm.Cond.code ({ cls := "UnsoldPrice$Runner", name := "sell", desc := "(LUnsoldPrice$State;)V" } : Jvm.MethodName) prog_8_method_7_code (6 : Nat) (Option.none : Option Jvm.ClassFile.FieldType)) ∈ zTB := zt3 118 rfl rfl
set_option maxRecDepth 20000 in
theorem zq915 : (Jvm.Cond.methodLink "UnsoldPrice$Runner" (135 : Nat) ({ cls := "UnsoldPrice$Runner", name := "sellTo", desc := "(LUnsoldPrice$State;II)I" } : Jvm.MethodName)) ∈ zTB := zt3 119 rfl rfl
set_option maxRecDepth 20000 in
theorem zq917 : (Jvm.Cond.instanceMethod ({ cls := "UnsoldPrice$Runner", name := "sellTo", desc := "(LUnsoldPrice$State;II)I" } : Jvm.MethodName)) ∈ zTB := zt3 121 rfl rfl
set_option maxRecDepth 20000 in
theorem zq918 : (Jvm.Cond.code ({ cls := "UnsoldPrice$Runner", name := "sellTo", desc := "(LUnsoldPrice$State;II)I" } : Jvm.MethodName) prog_8_method_8_code (10 : Nat) (Option.some Jvm.ClassFile.FieldType.int)) ∈ zTB := zt3 122 rfl rfl
set_option maxRecDepth 20000 in
theorem zq919 : (Jvm.Cond.methodLink "UnsoldPrice$Runner" (63 : Nat) ({ cls := "UnsoldPrice$Runner", name := "leadBoard", desc := "(LUnsoldPrice$State;)V" } : Jvm.MethodName)) ∈ zTB := zt3 123 rfl rfl
set_option maxRecDepth 20000 in
theorem zq921 : (Jvm.Cond.instanceMethod ({ cls := "UnsoldPrice$Runner", name := "leadBoard", desc := "(LUnsoldPrice$State;)V" } : Jvm.MethodName)) ∈ zTB := zt3 125 rfl rfl
set_option maxRecDepth 20000 in
theorem zq922 : (Jvm.Cond.code ({ cls := "UnsoldPrice$Runner", name := "leadBoard", desc := "(LUnsoldPrice$State;)V" } : Jvm.MethodName) prog_8_method_9_code (5 : Nat) (Option.none : Option Jvm.ClassFile.FieldType)) ∈ zTB := zt3 126 rfl rfl
set_option maxRecDepth 20000 in
theorem zq923 : (Jvm.Cond.methodLink "UnsoldPrice$Runner" (66 : Nat) ({ cls := "UnsoldPrice$Runner", name := "closeDay", desc := "(LUnsoldPrice$State;)V" } : Jvm.MethodName)) ∈ zTB := zt3 127 rfl rfl
set_option maxRecDepth 20000 in
theorem zq925 : (Jvm.Cond.instanceMethod ({ cls := "UnsoldPrice$Runner", name := "closeDay", desc := "(LUnsoldPrice$State;)V" } : Jvm.MethodName)) ∈ zTB := zt3 129 rfl rfl
set_option maxRecDepth 20000 in
theorem zq926 : (Jvm.Cond.code ({ cls := "UnsoldPrice$Runner", name := "closeDay", desc := "(LUnsoldPrice$State;)V" } : Jvm.MethodName) prog_8_method_10_code (6 : Nat) (Option.none : Option Jvm.ClassFile.FieldType)) ∈ zTB := zt3 130 rfl rfl
set_option maxRecDepth 20000 in
theorem zq928 : (Jvm.Cond.instanceMethod ({ cls := "UnsoldPrice", name := "ahead", desc := "(I)I" } : Jvm.MethodName)) ∈ zTB := zt3 132 rfl rfl
set_option maxRecDepth 20000 in
theorem zq929 : (Jvm.Cond.selects "UnsoldPrice" ({ cls := "UnsoldPrice", name := "ahead", desc := "(I)I" } : Jvm.MethodName) ({ cls := "UnsoldPrice", name := "ahead", desc := "(I)I" } : Jvm.MethodName)) ∈ zTB := zt3 133 rfl rfl
set_option maxRecDepth 20000 in
theorem zq930 : (Jvm.Cond.code ({ cls := "UnsoldPrice", name := "ahead", desc := "(I)I" } : Jvm.MethodName) prog_1_method_13_code (2 : Nat) (Option.some Jvm.ClassFile.FieldType.int)) ∈ zTB := zt3 134 rfl rfl
set_option maxRecDepth 20000 in
theorem zq931 : (Jvm.Cond.methodLink "UnsoldPrice" (212 : Nat) ({ cls := "UnsoldPrice$Walk", name := "begin", desc := "()V" } : Jvm.MethodName)) ∈ zTB := zt3 135 rfl rfl
set_option maxRecDepth 20000 in
theorem zq932 : (Jvm.Cond.instanceMethod ({ cls := "UnsoldPrice$Walk", name := "begin", desc := "()V" } : Jvm.MethodName)) ∈ zTB := zt3 136 rfl rfl
set_option maxRecDepth 20000 in
theorem zq933 : (Jvm.Cond.selects "UnsoldPrice$Walk" ({ cls := "UnsoldPrice$Walk", name := "begin", desc := "()V" } : Jvm.MethodName) ({ cls := "UnsoldPrice$Walk", name := "begin", desc := "()V" } : Jvm.MethodName)) ∈ zTB := zt3 137 rfl rfl
set_option maxRecDepth 20000 in
theorem zq934 : (Jvm.Cond.code ({ cls := "UnsoldPrice$Walk", name := "begin", desc := "()V" } : Jvm.MethodName) prog_12_method_2_code (1 : Nat) (Option.none : Option Jvm.ClassFile.FieldType)) ∈ zTB := zt3 138 rfl rfl
set_option maxRecDepth 20000 in
theorem zq935 : (Jvm.Cond.methodLink "UnsoldPrice$Walk" (29 : Nat) ({ cls := "UnsoldPrice$State", name := "copyFrom", desc := "(LUnsoldPrice$State;)V" } : Jvm.MethodName)) ∈ zTB := zt3 139 rfl rfl
set_option maxRecDepth 20000 in
theorem zq936 : (Jvm.Cond.instanceMethod ({ cls := "UnsoldPrice$State", name := "copyFrom", desc := "(LUnsoldPrice$State;)V" } : Jvm.MethodName)) ∈ zTB := zt3 140 rfl rfl
set_option maxRecDepth 20000 in
theorem zq937 : (Jvm.Cond.selects "UnsoldPrice$State" ({ cls := "UnsoldPrice$State", name := "copyFrom", desc := "(LUnsoldPrice$State;)V" } : Jvm.MethodName) ({ cls := "UnsoldPrice$State", name := "copyFrom", desc := "(LUnsoldPrice$State;)V" } : Jvm.MethodName)) ∈ zTB := zt3 141 rfl rfl
set_option maxRecDepth 20000 in
theorem zq938 : (Jvm.Cond.code ({ cls := "UnsoldPrice$State", name := "copyFrom", desc := "(LUnsoldPrice$State;)V" } : Jvm.MethodName) prog_10_method_3_code (2 : Nat) (Option.none : Option Jvm.ClassFile.FieldType)) ∈ zTB := zt3 142 rfl rfl
set_option maxRecDepth 20000 in
theorem zq939 : (Jvm.Cond.methodLink "UnsoldPrice$State" (56 : Nat) ({ cls := "java/lang/System", name := "arraycopy", desc := "(Ljava/lang/Object;ILjava/lang/Object;II)V" } : Jvm.MethodName)) ∈ zTB := zt3 143 rfl rfl
set_option maxRecDepth 20000 in
theorem zq940 : (Jvm.Cond.static ({ cls := "java/lang/System", name := "arraycopy", desc := "(Ljava/lang/Object;ILjava/lang/Object;II)V" } : Jvm.MethodName)) ∈ zTB := zt3 144 rfl rfl
set_option maxRecDepth 20000 in
theorem zq941 : (Jvm.Cond.native ({ cls := "java/lang/System", name := "arraycopy", desc := "(Ljava/lang/Object;ILjava/lang/Object;II)V" } : Jvm.MethodName)) ∈ zTB := zt3 145 rfl rfl
set_option maxRecDepth 20000 in
theorem zq942 : (Jvm.Cond.methodLink "UnsoldPrice$Walk" (33 : Nat) ({ cls := "UnsoldPrice$Runner", name := "begin", desc := "()V" } : Jvm.MethodName)) ∈ zTB := zt3 146 rfl rfl
set_option maxRecDepth 20000 in
theorem zq943 : (Jvm.Cond.methodLink "UnsoldPrice" (213 : Nat) ({ cls := "UnsoldPrice$Walk", name := "pass", desc := "(I)V" } : Jvm.MethodName)) ∈ zTB := zt3 147 rfl rfl
set_option maxRecDepth 20000 in
theorem zq944 : (Jvm.Cond.instanceMethod ({ cls := "UnsoldPrice$Walk", name := "pass", desc := "(I)V" } : Jvm.MethodName)) ∈ zTB := zt3 148 rfl rfl
set_option maxRecDepth 20000 in
theorem zq945 : (Jvm.Cond.selects "UnsoldPrice$Walk" ({ cls := "UnsoldPrice$Walk", name := "pass", desc := "(I)V" } : Jvm.MethodName) ({ cls := "UnsoldPrice$Walk", name := "pass", desc := "(I)V" } : Jvm.MethodName)) ∈ zTB := zt3 149 rfl rfl
set_option maxRecDepth 20000 in
theorem zq946 : (Jvm.Cond.code ({ cls := "UnsoldPrice$Walk", name := "pass", desc := "(I)V" } : Jvm.MethodName) prog_12_method_5_code (3 : Nat) (Option.none : Option Jvm.ClassFile.FieldType)) ∈ zTB := zt3 150 rfl rfl
set_option maxRecDepth 20000 in
theorem zq947 : (Jvm.Cond.methodLink "UnsoldPrice$Walk" (92 : Nat) ({ cls := "UnsoldPrice$Walk", name := "step", desc := "()V" } : Jvm.MethodName)) ∈ zTB := zt3 151 rfl rfl
set_option maxRecDepth 20000 in
theorem zq948 : (Jvm.Cond.instanceMethod ({ cls := "UnsoldPrice$Walk", name := "step", desc := "()V" } : Jvm.MethodName)) ∈ zTB := zt3 152 rfl rfl
set_option maxRecDepth 20000 in
theorem zq949 : (Jvm.Cond.selects "UnsoldPrice$Walk" ({ cls := "UnsoldPrice$Walk", name := "step", desc := "()V" } : Jvm.MethodName) ({ cls := "UnsoldPrice$Walk", name := "step", desc := "()V" } : Jvm.MethodName)) ∈ zTB := zt3 153 rfl rfl
set_option maxRecDepth 20000 in
theorem zq950 : (Jvm.Cond.code ({ cls := "UnsoldPrice$Walk", name := "step", desc := "()V" } : Jvm.MethodName) prog_12_method_6_code (1 : Nat) (Option.none : Option Jvm.ClassFile.FieldType)) ∈ zTB := zt3 154 rfl rfl
set_option maxRecDepth 20000 in
theorem zq951 : (Jvm.Cond.methodLink "UnsoldPrice$Walk" (95 : Nat) ({ cls := "UnsoldPrice$Runner", name := "runDay", desc := "(LUnsoldPrice$State;Z)V" } : Jvm.MethodName)) ∈ zTB := zt3 155 rfl rfl
set_option maxRecDepth 20000 in
theorem zq952 : (Jvm.Cond.methodLink "UnsoldPrice$Walk" (99 : Nat) ({ cls := "UnsoldPrice$Walk", name := "noteBoard", desc := "()V" } : Jvm.MethodName)) ∈ zTB := zt3 156 rfl rfl
set_option maxRecDepth 20000 in
theorem zq954 : (Jvm.Cond.instanceMethod ({ cls := "UnsoldPrice$Walk", name := "noteBoard", desc := "()V" } : Jvm.MethodName)) ∈ zTB := zt3 158 rfl rfl
set_option maxRecDepth 20000 in
theorem zq955 : (Jvm.Cond.code ({ cls := "UnsoldPrice$Walk", name := "noteBoard", desc := "()V" } : Jvm.MethodName) prog_12_method_7_code (2 : Nat) (Option.none : Option Jvm.ClassFile.FieldType)) ∈ zTB := zt3 159 rfl rfl
set_option maxRecDepth 20000 in
theorem zq956 : (Jvm.Cond.methodLink "UnsoldPrice$Walk" (112 : Nat) ({ cls := "java/lang/Math", name := "max", desc := "(II)I" } : Jvm.MethodName)) ∈ zTB := zt3 160 rfl rfl
set_option maxRecDepth 20000 in
theorem zq957 : (Jvm.Cond.methodLink "UnsoldPrice$Walk" (118 : Nat) ({ cls := "java/lang/Math", name := "min", desc := "(II)I" } : Jvm.MethodName)) ∈ zTB := zt3 161 rfl rfl
set_option maxRecDepth 20000 in
theorem zq958 : (Jvm.Cond.methodLink "UnsoldPrice$Walk" (102 : Nat) ({ cls := "UnsoldPrice$Walk", name := "noteCheapest", desc := "()V" } : Jvm.MethodName)) ∈ zTB := zt3 162 rfl rfl
set_option maxRecDepth 20000 in
theorem zq960 : (Jvm.Cond.instanceMethod ({ cls := "UnsoldPrice$Walk", name := "noteCheapest", desc := "()V" } : Jvm.MethodName)) ∈ zTB := zt3 164 rfl rfl
set_option maxRecDepth 20000 in
theorem zq961 : (Jvm.Cond.code ({ cls := "UnsoldPrice$Walk", name := "noteCheapest", desc := "()V" } : Jvm.MethodName) prog_12_method_8_code (2 : Nat) (Option.none : Option Jvm.ClassFile.FieldType)) ∈ zTB := zt3 165 rfl rfl
set_option maxRecDepth 20000 in
theorem zq962 : (Jvm.Cond.methodLink "UnsoldPrice$Walk" (124 : Nat) ({ cls := "UnsoldPrice$State", name := "isHolding", desc := "(I)Z" } : Jvm.MethodName)) ∈ zTB := zt3 166 rfl rfl
set_option maxRecDepth 20000 in
theorem zq963 : (Jvm.Cond.methodLink "UnsoldPrice$Walk" (105 : Nat) ({ cls := "UnsoldPrice$Walk", name := "noteGlut", desc := "()V" } : Jvm.MethodName)) ∈ zTB := zt3 167 rfl rfl
set_option maxRecDepth 20000 in
theorem zq965 : (Jvm.Cond.instanceMethod ({ cls := "UnsoldPrice$Walk", name := "noteGlut", desc := "()V" } : Jvm.MethodName)) ∈ zTB := zt3 169 rfl rfl
set_option maxRecDepth 20000 in
theorem zq966 : (Jvm.Cond.code ({ cls := "UnsoldPrice$Walk", name := "noteGlut", desc := "()V" } : Jvm.MethodName) prog_12_method_9_code (2 : Nat) (Option.none : Option Jvm.ClassFile.FieldType)) ∈ zTB := zt3 170 rfl rfl
set_option maxRecDepth 20000 in
theorem zq968 : (Jvm.Cond.instanceMethod ({ cls := "UnsoldPrice", name := "falls", desc := "(II)I" } : Jvm.MethodName)) ∈ zTB := zt3 172 rfl rfl
set_option maxRecDepth 20000 in
theorem zq969 : (Jvm.Cond.selects "UnsoldPrice" ({ cls := "UnsoldPrice", name := "falls", desc := "(II)I" } : Jvm.MethodName) ({ cls := "UnsoldPrice", name := "falls", desc := "(II)I" } : Jvm.MethodName)) ∈ zTB := zt3 173 rfl rfl
set_option maxRecDepth 20000 in
theorem zq970 : (Jvm.Cond.code ({ cls := "UnsoldPrice", name := "falls", desc := "(II)I" } : Jvm.MethodName) prog_1_method_14_code (3 : Nat) (Option.some Jvm.ClassFile.FieldType.int)) ∈ zTB := zt3 174 rfl rfl
set_option maxRecDepth 20000 in
theorem zq971 : (Jvm.Cond.methodLink "UnsoldPrice" (132 : Nat) ({ cls := "UnsoldPrice", name := "noWhat", desc := "(II)Z" } : Jvm.MethodName)) ∈ zTB := zt3 175 rfl rfl
set_option maxRecDepth 20000 in
theorem zq972 : (Jvm.Cond.static ({ cls := "UnsoldPrice", name := "noWhat", desc := "(II)Z" } : Jvm.MethodName)) ∈ zTB := zt3 176 rfl rfl
set_option maxRecDepth 20000 in
theorem zq973 : (Jvm.Cond.code ({ cls := "UnsoldPrice", name := "noWhat", desc := "(II)Z" } : Jvm.MethodName) prog_1_method_39_code (2 : Nat) (Option.some Jvm.ClassFile.FieldType.boolean)) ∈ zTB := zt3 177 rfl rfl
set_option maxRecDepth 20000 in
theorem zq975 : (Jvm.Cond.instanceMethod ({ cls := "UnsoldPrice", name := "ring", desc := "(I)I" } : Jvm.MethodName)) ∈ zTB := zt3 179 rfl rfl
set_option maxRecDepth 20000 in
theorem zq976 : (Jvm.Cond.selects "UnsoldPrice" ({ cls := "UnsoldPrice", name := "ring", desc := "(I)I" } : Jvm.MethodName) ({ cls := "UnsoldPrice", name := "ring", desc := "(I)I" } : Jvm.MethodName)) ∈ zTB := zt3 180 rfl rfl
set_option maxRecDepth 20000 in
theorem zq977 : (Jvm.Cond.code ({ cls := "UnsoldPrice", name := "ring", desc := "(I)I" } : Jvm.MethodName) prog_1_method_15_code (2 : Nat) (Option.some Jvm.ClassFile.FieldType.int)) ∈ zTB := zt3 181 rfl rfl
set_option maxRecDepth 20000 in
theorem zq978 : (Jvm.Cond.methodLink "UnsoldPrice" (229 : Nat) ({ cls := "UnsoldPrice$Search", name := "findRing", desc := "()Z" } : Jvm.MethodName)) ∈ zTB := zt3 182 rfl rfl
set_option maxRecDepth 20000 in
theorem zq979 : (Jvm.Cond.instanceMethod ({ cls := "UnsoldPrice$Search", name := "findRing", desc := "()Z" } : Jvm.MethodName)) ∈ zTB := zt3 183 rfl rfl
set_option maxRecDepth 20000 in
theorem zq980 : (Jvm.Cond.selects "UnsoldPrice$Search" ({ cls := "UnsoldPrice$Search", name := "findRing", desc := "()Z" } : Jvm.MethodName) ({ cls := "UnsoldPrice$Search", name := "findRing", desc := "()Z" } : Jvm.MethodName)) ∈ zTB := zt3 184 rfl rfl
set_option maxRecDepth 20000 in
theorem zq981 : (Jvm.Cond.code ({ cls := "UnsoldPrice$Search", name := "findRing", desc := "()Z" } : Jvm.MethodName) prog_9_method_4_code (4 : Nat) (Option.some Jvm.ClassFile.FieldType.boolean)) ∈ zTB := zt3 185 rfl rfl
set_option maxRecDepth 20000 in
theorem zq982 : (Jvm.Cond.methodLink "UnsoldPrice$Search" (48 : Nat) ({ cls := "UnsoldPrice$Search", name := "begin", desc := "()LUnsoldPrice$State;" } : Jvm.MethodName)) ∈ zTB := zt3 186 rfl rfl
set_option maxRecDepth 20000 in
theorem zq984 : (Jvm.Cond.instanceMethod ({ cls := "UnsoldPrice$Search", name := "begin", desc := "()LUnsoldPrice$State;" } : Jvm.MethodName)) ∈ zTB := zt3 188 rfl rfl
set_option maxRecDepth 20000 in
theorem zq985 : (Jvm.Cond.code ({ cls := "UnsoldPrice$Search", name := "begin", desc := "()LUnsoldPrice$State;" } : Jvm.MethodName) prog_9_method_2_code (2 : Nat) (Option.some (Jvm.ClassFile.FieldType.object "UnsoldPrice$State"))) ∈ zTB := zt3 189 rfl rfl
set_option maxRecDepth 20000 in
theorem zq986 : (Jvm.Cond.methodLink "UnsoldPrice$Search" (35 : Nat) ({ cls := "UnsoldPrice$Runner", name := "begin", desc := "()V" } : Jvm.MethodName)) ∈ zTB := zt3 190 rfl rfl
set_option maxRecDepth 20000 in
theorem zq987 : (Jvm.Cond.methodLink "UnsoldPrice$Search" (40 : Nat) ({ cls := "UnsoldPrice$State", name := "copyFrom", desc := "(LUnsoldPrice$State;)V" } : Jvm.MethodName)) ∈ zTB := zt3 191 rfl rfl
set_option maxRecDepth 20000 in
theorem zq988 : (Jvm.Cond.methodLink "UnsoldPrice$Search" (51 : Nat) ({ cls := "UnsoldPrice$Search", name := "next", desc := "(IZ)LUnsoldPrice$State;" } : Jvm.MethodName)) ∈ zTB := zt3 192 rfl rfl
set_option maxRecDepth 20000 in
theorem zq990 : (Jvm.Cond.instanceMethod ({ cls := "UnsoldPrice$Search", name := "next", desc := "(IZ)LUnsoldPrice$State;" } : Jvm.MethodName)) ∈ zTB := zt3 194 rfl rfl
set_option maxRecDepth 20000 in
theorem zq991 : (Jvm.Cond.code ({ cls := "UnsoldPrice$Search", name := "next", desc := "(IZ)LUnsoldPrice$State;" } : Jvm.MethodName) prog_9_method_3_code (5 : Nat) (Option.some (Jvm.ClassFile.FieldType.object "UnsoldPrice$State"))) ∈ zTB := zt3 195 rfl rfl
set_option maxRecDepth 20000 in
theorem zq992 : (Jvm.Cond.methodLink "UnsoldPrice$Search" (44 : Nat) ({ cls := "UnsoldPrice$Runner", name := "runDay", desc := "(LUnsoldPrice$State;Z)V" } : Jvm.MethodName)) ∈ zTB := zt3 196 rfl rfl
set_option maxRecDepth 20000 in
theorem zq993 : (Jvm.Cond.methodLink "UnsoldPrice$Search" (55 : Nat) ({ cls := "UnsoldPrice$State", name := "isLike", desc := "(LUnsoldPrice$State;)Z" } : Jvm.MethodName)) ∈ zTB := zt3 197 rfl rfl
set_option maxRecDepth 20000 in
theorem zq994 : (Jvm.Cond.instanceMethod ({ cls := "UnsoldPrice$State", name := "isLike", desc := "(LUnsoldPrice$State;)Z" } : Jvm.MethodName)) ∈ zTB := zt3 198 rfl rfl
set_option maxRecDepth 20000 in
theorem zq995 : (Jvm.Cond.selects "UnsoldPrice$State" ({ cls := "UnsoldPrice$State", name := "isLike", desc := "(LUnsoldPrice$State;)Z" } : Jvm.MethodName) ({ cls := "UnsoldPrice$State", name := "isLike", desc := "(LUnsoldPrice$State;)Z" } : Jvm.MethodName)) ∈ zTB := zt3 199 rfl rfl
set_option maxRecDepth 20000 in
theorem zq996 : (Jvm.Cond.code ({ cls := "UnsoldPrice$State", name := "isLike", desc := "(LUnsoldPrice$State;)Z" } : Jvm.MethodName) prog_10_method_8_code (4 : Nat) (Option.some Jvm.ClassFile.FieldType.boolean)) ∈ zTB := zt3 200 rfl rfl
set_option maxRecDepth 20000 in
theorem zq998 : (Jvm.Cond.instanceMethod ({ cls := "UnsoldPrice", name := "best", desc := "(III)I" } : Jvm.MethodName)) ∈ zTB := zt3 202 rfl rfl
set_option maxRecDepth 20000 in
theorem zq999 : (Jvm.Cond.selects "UnsoldPrice" ({ cls := "UnsoldPrice", name := "best", desc := "(III)I" } : Jvm.MethodName) ({ cls := "UnsoldPrice", name := "best", desc := "(III)I" } : Jvm.MethodName)) ∈ zTB := zt3 203 rfl rfl
set_option maxRecDepth 20000 in
theorem zq1000 : (Jvm.Cond.code ({ cls := "UnsoldPrice", name := "best", desc := "(III)I" } : Jvm.MethodName) prog_1_method_16_code (4 : Nat) (Option.some Jvm.ClassFile.FieldType.int)) ∈ zTB := zt3 204 rfl rfl
set_option maxRecDepth 20000 in
theorem zq1001 : (Jvm.Cond.constant "UnsoldPrice" (238 : Nat) (-1000000 : Int32)) ∈ zTB := zt3 205 rfl rfl
set_option maxRecDepth 20000 in
theorem zq1002 : (Jvm.Cond.methodLink "UnsoldPrice" (239 : Nat) ({ cls := "UnsoldPrice$Search", name := "findBest", desc := "(II)V" } : Jvm.MethodName)) ∈ zTB := zt3 206 rfl rfl
set_option maxRecDepth 20000 in
theorem zq1003 : (Jvm.Cond.instanceMethod ({ cls := "UnsoldPrice$Search", name := "findBest", desc := "(II)V" } : Jvm.MethodName)) ∈ zTB := zt3 207 rfl rfl
set_option maxRecDepth 20000 in
theorem zq1004 : (Jvm.Cond.selects "UnsoldPrice$Search" ({ cls := "UnsoldPrice$Search", name := "findBest", desc := "(II)V" } : Jvm.MethodName) ({ cls := "UnsoldPrice$Search", name := "findBest", desc := "(II)V" } : Jvm.MethodName)) ∈ zTB := zt3 208 rfl rfl
set_option maxRecDepth 20000 in
theorem zq1005 : (Jvm.Cond.code ({ cls := "UnsoldPrice$Search", name := "findBest", desc := "(II)V" } : Jvm.MethodName) prog_9_method_5_code (4 : Nat) (Option.none : Option Jvm.ClassFile.FieldType)) ∈ zTB := zt3 209 rfl rfl
set_option maxRecDepth 20000 in
theorem zq1006 : (Jvm.Cond.methodLink "UnsoldPrice$Search" (78 : Nat) ({ cls := "UnsoldPrice$State", name := "setHolding", desc := "(IZ)V" } : Jvm.MethodName)) ∈ zTB := zt3 210 rfl rfl
set_option maxRecDepth 20000 in
theorem zq1007 : (Jvm.Cond.methodLink "UnsoldPrice$Search" (82 : Nat) ({ cls := "UnsoldPrice$Search", name := "tryAskings", desc := "(II)V" } : Jvm.MethodName)) ∈ zTB := zt3 211 rfl rfl
set_option maxRecDepth 20000 in
theorem zq1009 : (Jvm.Cond.instanceMethod ({ cls := "UnsoldPrice$Search", name := "tryAskings", desc := "(II)V" } : Jvm.MethodName)) ∈ zTB := zt3 213 rfl rfl
set_option maxRecDepth 20000 in
theorem zq1010 : (Jvm.Cond.code ({ cls := "UnsoldPrice$Search", name := "tryAskings", desc := "(II)V" } : Jvm.MethodName) prog_9_method_6_code (5 : Nat) (Option.none : Option Jvm.ClassFile.FieldType)) ∈ zTB := zt3 214 rfl rfl
set_option maxRecDepth 20000 in
theorem zq1012 : (Jvm.Cond.instanceMethod ({ cls := "UnsoldPrice", name := "rest", desc := "(I)I" } : Jvm.MethodName)) ∈ zTB := zt3 216 rfl rfl
set_option maxRecDepth 20000 in
theorem zq1013 : (Jvm.Cond.selects "UnsoldPrice" ({ cls := "UnsoldPrice", name := "rest", desc := "(I)I" } : Jvm.MethodName) ({ cls := "UnsoldPrice", name := "rest", desc := "(I)I" } : Jvm.MethodName)) ∈ zTB := zt3 217 rfl rfl
set_option maxRecDepth 20000 in
theorem zq1014 : (Jvm.Cond.code ({ cls := "UnsoldPrice", name := "rest", desc := "(I)I" } : Jvm.MethodName) prog_1_method_17_code (3 : Nat) (Option.some Jvm.ClassFile.FieldType.int)) ∈ zTB := zt3 218 rfl rfl
set_option maxRecDepth 20000 in
theorem zq1015 : (Jvm.Cond.methodLink "UnsoldPrice" (252 : Nat) ({ cls := "UnsoldPrice$Search", name := "findRests", desc := "(I)I" } : Jvm.MethodName)) ∈ zTB := zt3 219 rfl rfl
set_option maxRecDepth 20000 in
theorem zq1016 : (Jvm.Cond.instanceMethod ({ cls := "UnsoldPrice$Search", name := "findRests", desc := "(I)I" } : Jvm.MethodName)) ∈ zTB := zt3 220 rfl rfl
set_option maxRecDepth 20000 in
theorem zq1017 : (Jvm.Cond.selects "UnsoldPrice$Search" ({ cls := "UnsoldPrice$Search", name := "findRests", desc := "(I)I" } : Jvm.MethodName) ({ cls := "UnsoldPrice$Search", name := "findRests", desc := "(I)I" } : Jvm.MethodName)) ∈ zTB := zt3 221 rfl rfl
set_option maxRecDepth 20000 in
theorem zq1018 : (Jvm.Cond.code ({ cls := "UnsoldPrice$Search", name := "findRests", desc := "(I)I" } : Jvm.MethodName) prog_9_method_9_code (6 : Nat) (Option.some Jvm.ClassFile.FieldType.int)) ∈ zTB := zt3 222 rfl rfl
set_option maxRecDepth 20000 in
theorem zq1019 : (Jvm.Cond.methodLink "UnsoldPrice$Search" (114 : Nat) ({ cls := "java/lang/Math", name := "min", desc := "(II)I" } : Jvm.MethodName)) ∈ zTB := zt3 223 rfl rfl
set_option maxRecDepth 20000 in
theorem zq1020 : (Jvm.Cond.methodLink "UnsoldPrice$Search" (119 : Nat) ({ cls := "UnsoldPrice$Search", name := "fillTakes", desc := "(II)V" } : Jvm.MethodName)) ∈ zTB := zt3 224 rfl rfl
set_option maxRecDepth 20000 in
theorem zq1022 : (Jvm.Cond.instanceMethod ({ cls := "UnsoldPrice$Search", name := "fillTakes", desc := "(II)V" } : Jvm.MethodName)) ∈ zTB := zt3 226 rfl rfl
set_option maxRecDepth 20000 in
theorem zq1023 : (Jvm.Cond.code ({ cls := "UnsoldPrice$Search", name := "fillTakes", desc := "(II)V" } : Jvm.MethodName) prog_9_method_10_code (8 : Nat) (Option.none : Option Jvm.ClassFile.FieldType)) ∈ zTB := zt3 227 rfl rfl
set_option maxRecDepth 20000 in
theorem zq1024 : (Jvm.Cond.methodLink "UnsoldPrice$Search" (132 : Nat) ({ cls := "UnsoldPrice$Runner", name := "openDay", desc := "(LUnsoldPrice$State;Z)I" } : Jvm.MethodName)) ∈ zTB := zt3 228 rfl rfl
set_option maxRecDepth 20000 in
theorem zq1025 : (Jvm.Cond.methodLink "UnsoldPrice$Search" (139 : Nat) ({ cls := "UnsoldPrice$Runner", name := "lineUp", desc := "(LUnsoldPrice$State;)V" } : Jvm.MethodName)) ∈ zTB := zt3 229 rfl rfl
set_option maxRecDepth 20000 in
theorem zq1026 : (Jvm.Cond.methodLink "UnsoldPrice$Search" (142 : Nat) ({ cls := "UnsoldPrice$Runner", name := "sell", desc := "(LUnsoldPrice$State;)V" } : Jvm.MethodName)) ∈ zTB := zt3 230 rfl rfl
set_option maxRecDepth 20000 in
theorem zq1027 : (Jvm.Cond.methodLink "UnsoldPrice$Search" (122 : Nat) ({ cls := "UnsoldPrice$Search", name := "isAtRest", desc := "(II)Z" } : Jvm.MethodName)) ∈ zTB := zt3 231 rfl rfl
set_option maxRecDepth 20000 in
theorem zq1029 : (Jvm.Cond.instanceMethod ({ cls := "UnsoldPrice$Search", name := "isAtRest", desc := "(II)Z" } : Jvm.MethodName)) ∈ zTB := zt3 233 rfl rfl
set_option maxRecDepth 20000 in
theorem zq1030 : (Jvm.Cond.code ({ cls := "UnsoldPrice$Search", name := "isAtRest", desc := "(II)Z" } : Jvm.MethodName) prog_9_method_11_code (9 : Nat) (Option.some Jvm.ClassFile.FieldType.boolean)) ∈ zTB := zt3 234 rfl rfl
set_option maxRecDepth 20000 in
theorem zq1031 : (Jvm.Cond.methodLink "UnsoldPrice$Search" (148 : Nat) ({ cls := "UnsoldPrice$State", name := "isHolding", desc := "(I)Z" } : Jvm.MethodName)) ∈ zTB := zt3 235 rfl rfl
set_option maxRecDepth 20000 in
theorem zq1032 : (Jvm.Cond.methodLink "UnsoldPrice$Search" (126 : Nat) ({ cls := "UnsoldPrice$Search", name := "inHundreds", desc := "(II)I" } : Jvm.MethodName)) ∈ zTB := zt3 236 rfl rfl
set_option maxRecDepth 20000 in
theorem zq1034 : (Jvm.Cond.instanceMethod ({ cls := "UnsoldPrice$Search", name := "inHundreds", desc := "(II)I" } : Jvm.MethodName)) ∈ zTB := zt3 238 rfl rfl
set_option maxRecDepth 20000 in
theorem zq1035 : (Jvm.Cond.code ({ cls := "UnsoldPrice$Search", name := "inHundreds", desc := "(II)I" } : Jvm.MethodName) prog_9_method_12_code (7 : Nat) (Option.some Jvm.ClassFile.FieldType.int)) ∈ zTB := zt3 239 rfl rfl
set_option maxRecDepth 20000 in
theorem zq1037 : (Jvm.Cond.instanceMethod ({ cls := "UnsoldPrice", name := "fool", desc := "(III)I" } : Jvm.MethodName)) ∈ zTB := zt4 1 rfl rfl
set_option maxRecDepth 20000 in
theorem zq1038 : (Jvm.Cond.selects "UnsoldPrice" ({ cls := "UnsoldPrice", name := "fool", desc := "(III)I" } : Jvm.MethodName) ({ cls := "UnsoldPrice", name := "fool", desc := "(III)I" } : Jvm.MethodName)) ∈ zTB := zt4 2 rfl rfl
set_option maxRecDepth 20000 in
theorem zq1039 : (Jvm.Cond.code ({ cls := "UnsoldPrice", name := "fool", desc := "(III)I" } : Jvm.MethodName) prog_1_method_18_code (8 : Nat) (Option.some Jvm.ClassFile.FieldType.int)) ∈ zTB := zt4 3 rfl rfl
set_option maxRecDepth 20000 in
theorem zq1040 : (Jvm.Cond.methodLink "UnsoldPrice" (258 : Nat) ({ cls := "UnsoldPrice$Walk", name := "beginHolding", desc := "(IZ)V" } : Jvm.MethodName)) ∈ zTB := zt4 4 rfl rfl
set_option maxRecDepth 20000 in
theorem zq1041 : (Jvm.Cond.instanceMethod ({ cls := "UnsoldPrice$Walk", name := "beginHolding", desc := "(IZ)V" } : Jvm.MethodName)) ∈ zTB := zt4 5 rfl rfl
set_option maxRecDepth 20000 in
theorem zq1042 : (Jvm.Cond.selects "UnsoldPrice$Walk" ({ cls := "UnsoldPrice$Walk", name := "beginHolding", desc := "(IZ)V" } : Jvm.MethodName) ({ cls := "UnsoldPrice$Walk", name := "beginHolding", desc := "(IZ)V" } : Jvm.MethodName)) ∈ zTB := zt4 6 rfl rfl
set_option maxRecDepth 20000 in
theorem zq1043 : (Jvm.Cond.code ({ cls := "UnsoldPrice$Walk", name := "beginHolding", desc := "(IZ)V" } : Jvm.MethodName) prog_12_method_3_code (3 : Nat) (Option.none : Option Jvm.ClassFile.FieldType)) ∈ zTB := zt4 7 rfl rfl
set_option maxRecDepth 20000 in
theorem zq1044 : (Jvm.Cond.methodLink "UnsoldPrice$Walk" (72 : Nat) ({ cls := "UnsoldPrice$Walk", name := "begin", desc := "()V" } : Jvm.MethodName)) ∈ zTB := zt4 8 rfl rfl
set_option maxRecDepth 20000 in
theorem zq1045 : (Jvm.Cond.methodLink "UnsoldPrice$Walk" (73 : Nat) ({ cls := "UnsoldPrice$State", name := "setHolding", desc := "(IZ)V" } : Jvm.MethodName)) ∈ zTB := zt4 9 rfl rfl
set_option maxRecDepth 20000 in
theorem zq1046 : (Jvm.Cond.methodLink "UnsoldPrice" (261 : Nat) ({ cls := "UnsoldPrice$Walk", name := "gainOf", desc := "(I)I" } : Jvm.MethodName)) ∈ zTB := zt4 10 rfl rfl
set_option maxRecDepth 20000 in
theorem zq1047 : (Jvm.Cond.instanceMethod ({ cls := "UnsoldPrice$Walk", name := "gainOf", desc := "(I)I" } : Jvm.MethodName)) ∈ zTB := zt4 11 rfl rfl
set_option maxRecDepth 20000 in
theorem zq1048 : (Jvm.Cond.selects "UnsoldPrice$Walk" ({ cls := "UnsoldPrice$Walk", name := "gainOf", desc := "(I)I" } : Jvm.MethodName) ({ cls := "UnsoldPrice$Walk", name := "gainOf", desc := "(I)I" } : Jvm.MethodName)) ∈ zTB := zt4 12 rfl rfl
set_option maxRecDepth 20000 in
theorem zq1049 : (Jvm.Cond.code ({ cls := "UnsoldPrice$Walk", name := "gainOf", desc := "(I)I" } : Jvm.MethodName) prog_12_method_10_code (2 : Nat) (Option.some Jvm.ClassFile.FieldType.int)) ∈ zTB := zt4 13 rfl rfl
set_option maxRecDepth 20000 in
theorem zq1050 : (Jvm.Cond.methodLink "UnsoldPrice" (264 : Nat) ({ cls := "UnsoldPrice$Walk", name := "gainOfAll", desc := "()I" } : Jvm.MethodName)) ∈ zTB := zt4 14 rfl rfl
set_option maxRecDepth 20000 in
theorem zq1051 : (Jvm.Cond.instanceMethod ({ cls := "UnsoldPrice$Walk", name := "gainOfAll", desc := "()I" } : Jvm.MethodName)) ∈ zTB := zt4 15 rfl rfl
set_option maxRecDepth 20000 in
theorem zq1052 : (Jvm.Cond.selects "UnsoldPrice$Walk" ({ cls := "UnsoldPrice$Walk", name := "gainOfAll", desc := "()I" } : Jvm.MethodName) ({ cls := "UnsoldPrice$Walk", name := "gainOfAll", desc := "()I" } : Jvm.MethodName)) ∈ zTB := zt4 16 rfl rfl
set_option maxRecDepth 20000 in
theorem zq1053 : (Jvm.Cond.code ({ cls := "UnsoldPrice$Walk", name := "gainOfAll", desc := "()I" } : Jvm.MethodName) prog_12_method_11_code (3 : Nat) (Option.some Jvm.ClassFile.FieldType.int)) ∈ zTB := zt4 17 rfl rfl
set_option maxRecDepth 20000 in
theorem zq1054 : (Jvm.Cond.methodLink "UnsoldPrice$Walk" (140 : Nat) ({ cls := "UnsoldPrice$Walk", name := "gainOf", desc := "(I)I" } : Jvm.MethodName)) ∈ zTB := zt4 18 rfl rfl
set_option maxRecDepth 20000 in
theorem zq1056 : (Jvm.Cond.instanceMethod ({ cls := "UnsoldPrice", name := "up", desc := "(II)I" } : Jvm.MethodName)) ∈ zTB := zt4 20 rfl rfl
set_option maxRecDepth 20000 in
theorem zq1057 : (Jvm.Cond.selects "UnsoldPrice" ({ cls := "UnsoldPrice", name := "up", desc := "(II)I" } : Jvm.MethodName) ({ cls := "UnsoldPrice", name := "up", desc := "(II)I" } : Jvm.MethodName)) ∈ zTB := zt4 21 rfl rfl
set_option maxRecDepth 20000 in
theorem zq1058 : (Jvm.Cond.code ({ cls := "UnsoldPrice", name := "up", desc := "(II)I" } : Jvm.MethodName) prog_1_method_19_code (6 : Nat) (Option.some Jvm.ClassFile.FieldType.int)) ∈ zTB := zt4 22 rfl rfl
set_option maxRecDepth 20000 in
theorem zq1059 : (Jvm.Cond.methodLink "UnsoldPrice" (267 : Nat) ({ cls := "UnsoldPrice", name := "noPrice", desc := "(I)Z" } : Jvm.MethodName)) ∈ zTB := zt4 23 rfl rfl
set_option maxRecDepth 20000 in
theorem zq1060 : (Jvm.Cond.static ({ cls := "UnsoldPrice", name := "noPrice", desc := "(I)Z" } : Jvm.MethodName)) ∈ zTB := zt4 24 rfl rfl
set_option maxRecDepth 20000 in
theorem zq1061 : (Jvm.Cond.code ({ cls := "UnsoldPrice", name := "noPrice", desc := "(I)Z" } : Jvm.MethodName) prog_1_method_40_code (1 : Nat) (Option.some Jvm.ClassFile.FieldType.boolean)) ∈ zTB := zt4 25 rfl rfl
set_option maxRecDepth 20000 in
theorem zq1062 : (Jvm.Cond.methodLink "UnsoldPrice" (270 : Nat) ({ cls := "java/lang/Integer", name := "bitCount", desc := "(I)I" } : Jvm.MethodName)) ∈ zTB := zt4 26 rfl rfl
set_option maxRecDepth 20000 in
theorem zq1063 : (Jvm.Cond.static ({ cls := "java/lang/Integer", name := "bitCount", desc := "(I)I" } : Jvm.MethodName)) ∈ zTB := zt4 27 rfl rfl
set_option maxRecDepth 20000 in
theorem zq1064 : (Jvm.Cond.code ({ cls := "java/lang/Integer", name := "bitCount", desc := "(I)I" } : Jvm.MethodName) prog_19_method_49_code (1 : Nat) (Option.some Jvm.ClassFile.FieldType.int)) ∈ zTB := zt4 28 rfl rfl
set_option maxRecDepth 20000 in
theorem zq1065 : (Jvm.Cond.constant "java/lang/Integer" (265 : Nat) (1431655765 : Int32)) ∈ zTB := zt4 29 rfl rfl
set_option maxRecDepth 20000 in
theorem zq1066 : (Jvm.Cond.constant "java/lang/Integer" (266 : Nat) (858993459 : Int32)) ∈ zTB := zt4 30 rfl rfl
set_option maxRecDepth 20000 in
theorem zq1067 : (Jvm.Cond.constant "java/lang/Integer" (267 : Nat) (252645135 : Int32)) ∈ zTB := zt4 31 rfl rfl
set_option maxRecDepth 20000 in
theorem zq1069 : (Jvm.Cond.instanceMethod ({ cls := "UnsoldPrice", name := "when", desc := "(II)I" } : Jvm.MethodName)) ∈ zTB := zt4 33 rfl rfl
set_option maxRecDepth 20000 in
theorem zq1070 : (Jvm.Cond.selects "UnsoldPrice" ({ cls := "UnsoldPrice", name := "when", desc := "(II)I" } : Jvm.MethodName) ({ cls := "UnsoldPrice", name := "when", desc := "(II)I" } : Jvm.MethodName)) ∈ zTB := zt4 34 rfl rfl
set_option maxRecDepth 20000 in
theorem zq1071 : (Jvm.Cond.code ({ cls := "UnsoldPrice", name := "when", desc := "(II)I" } : Jvm.MethodName) prog_1_method_20_code (3 : Nat) (Option.some Jvm.ClassFile.FieldType.int)) ∈ zTB := zt4 35 rfl rfl
set_option maxRecDepth 20000 in
theorem zq1073 : (Jvm.Cond.instanceMethod ({ cls := "UnsoldPrice", name := "stranger", desc := "(III)I" } : Jvm.MethodName)) ∈ zTB := zt4 37 rfl rfl
set_option maxRecDepth 20000 in
theorem zq1074 : (Jvm.Cond.selects "UnsoldPrice" ({ cls := "UnsoldPrice", name := "stranger", desc := "(III)I" } : Jvm.MethodName) ({ cls := "UnsoldPrice", name := "stranger", desc := "(III)I" } : Jvm.MethodName)) ∈ zTB := zt4 38 rfl rfl
set_option maxRecDepth 20000 in
theorem zq1075 : (Jvm.Cond.code ({ cls := "UnsoldPrice", name := "stranger", desc := "(III)I" } : Jvm.MethodName) prog_1_method_21_code (6 : Nat) (Option.some Jvm.ClassFile.FieldType.int)) ∈ zTB := zt4 39 rfl rfl
set_option maxRecDepth 20000 in
theorem zq1076 : (Jvm.Cond.methodLink "UnsoldPrice" (284 : Nat) ({ cls := "UnsoldPrice$Walk", name := "addStranger", desc := "(II)V" } : Jvm.MethodName)) ∈ zTB := zt4 40 rfl rfl
set_option maxRecDepth 20000 in
theorem zq1077 : (Jvm.Cond.instanceMethod ({ cls := "UnsoldPrice$Walk", name := "addStranger", desc := "(II)V" } : Jvm.MethodName)) ∈ zTB := zt4 41 rfl rfl
set_option maxRecDepth 20000 in
theorem zq1078 : (Jvm.Cond.selects "UnsoldPrice$Walk" ({ cls := "UnsoldPrice$Walk", name := "addStranger", desc := "(II)V" } : Jvm.MethodName) ({ cls := "UnsoldPrice$Walk", name := "addStranger", desc := "(II)V" } : Jvm.MethodName)) ∈ zTB := zt4 42 rfl rfl
set_option maxRecDepth 20000 in
theorem zq1079 : (Jvm.Cond.code ({ cls := "UnsoldPrice$Walk", name := "addStranger", desc := "(II)V" } : Jvm.MethodName) prog_12_method_4_code (4 : Nat) (Option.none : Option Jvm.ClassFile.FieldType)) ∈ zTB := zt4 43 rfl rfl
set_option maxRecDepth 20000 in
theorem zq1081 : (Jvm.Cond.instanceMethod ({ cls := "UnsoldPrice", name := "see", desc := "(II)I" } : Jvm.MethodName)) ∈ zTB := zt4 45 rfl rfl
set_option maxRecDepth 20000 in
theorem zq1082 : (Jvm.Cond.selects "UnsoldPrice" ({ cls := "UnsoldPrice", name := "see", desc := "(II)I" } : Jvm.MethodName) ({ cls := "UnsoldPrice", name := "see", desc := "(II)I" } : Jvm.MethodName)) ∈ zTB := zt4 46 rfl rfl
set_option maxRecDepth 20000 in
theorem zq1083 : (Jvm.Cond.code ({ cls := "UnsoldPrice", name := "see", desc := "(II)I" } : Jvm.MethodName) prog_1_method_22_code (3 : Nat) (Option.some Jvm.ClassFile.FieldType.int)) ∈ zTB := zt4 47 rfl rfl
set_option maxRecDepth 20000 in
theorem zq1084 : (Jvm.Cond.methodLink "UnsoldPrice" (287 : Nat) ({ cls := "UnsoldPrice$Notes", name := "add", desc := "(III)Z" } : Jvm.MethodName)) ∈ zTB := zt4 48 rfl rfl
set_option maxRecDepth 20000 in
theorem zq1085 : (Jvm.Cond.instanceMethod ({ cls := "UnsoldPrice$Notes", name := "add", desc := "(III)Z" } : Jvm.MethodName)) ∈ zTB := zt4 49 rfl rfl
set_option maxRecDepth 20000 in
theorem zq1086 : (Jvm.Cond.selects "UnsoldPrice$Notes" ({ cls := "UnsoldPrice$Notes", name := "add", desc := "(III)Z" } : Jvm.MethodName) ({ cls := "UnsoldPrice$Notes", name := "add", desc := "(III)Z" } : Jvm.MethodName)) ∈ zTB := zt4 50 rfl rfl
set_option maxRecDepth 20000 in
theorem zq1087 : (Jvm.Cond.code ({ cls := "UnsoldPrice$Notes", name := "add", desc := "(III)Z" } : Jvm.MethodName) prog_4_method_2_code (4 : Nat) (Option.some Jvm.ClassFile.FieldType.boolean)) ∈ zTB := zt4 51 rfl rfl
set_option maxRecDepth 20000 in
theorem zq1089 : (Jvm.Cond.instanceMethod ({ cls := "UnsoldPrice", name := "fits", desc := "(I)I" } : Jvm.MethodName)) ∈ zTB := zt4 53 rfl rfl
set_option maxRecDepth 20000 in
theorem zq1090 : (Jvm.Cond.selects "UnsoldPrice" ({ cls := "UnsoldPrice", name := "fits", desc := "(I)I" } : Jvm.MethodName) ({ cls := "UnsoldPrice", name := "fits", desc := "(I)I" } : Jvm.MethodName)) ∈ zTB := zt4 54 rfl rfl
set_option maxRecDepth 20000 in
theorem zq1091 : (Jvm.Cond.code ({ cls := "UnsoldPrice", name := "fits", desc := "(I)I" } : Jvm.MethodName) prog_1_method_23_code (5 : Nat) (Option.some Jvm.ClassFile.FieldType.int)) ∈ zTB := zt4 55 rfl rfl
set_option maxRecDepth 20000 in
theorem zq1092 : (Jvm.Cond.methodLink "UnsoldPrice" (293 : Nat) ({ cls := "UnsoldPrice", name := "isSeenBy", desc := "(I)Z" } : Jvm.MethodName)) ∈ zTB := zt4 56 rfl rfl
set_option maxRecDepth 20000 in
theorem zq1094 : (Jvm.Cond.instanceMethod ({ cls := "UnsoldPrice", name := "isSeenBy", desc := "(I)Z" } : Jvm.MethodName)) ∈ zTB := zt4 58 rfl rfl
set_option maxRecDepth 20000 in
theorem zq1095 : (Jvm.Cond.code ({ cls := "UnsoldPrice", name := "isSeenBy", desc := "(I)Z" } : Jvm.MethodName) prog_1_method_46_code (5 : Nat) (Option.some Jvm.ClassFile.FieldType.boolean)) ∈ zTB := zt4 59 rfl rfl
set_option maxRecDepth 20000 in
theorem zq1096 : (Jvm.Cond.methodLink "UnsoldPrice" (363 : Nat) ({ cls := "java/lang/Math", name := "max", desc := "(II)I" } : Jvm.MethodName)) ∈ zTB := zt4 60 rfl rfl
set_option maxRecDepth 20000 in
theorem zq1097 : (Jvm.Cond.methodLink "UnsoldPrice" (305 : Nat) ({ cls := "UnsoldPrice$Walk", name := "step", desc := "()V" } : Jvm.MethodName)) ∈ zTB := zt4 61 rfl rfl
set_option maxRecDepth 20000 in
theorem zq1099 : (Jvm.Cond.instanceMethod ({ cls := "UnsoldPrice", name := "other", desc := "(III)I" } : Jvm.MethodName)) ∈ zTB := zt4 63 rfl rfl
set_option maxRecDepth 20000 in
theorem zq1100 : (Jvm.Cond.selects "UnsoldPrice" ({ cls := "UnsoldPrice", name := "other", desc := "(III)I" } : Jvm.MethodName) ({ cls := "UnsoldPrice", name := "other", desc := "(III)I" } : Jvm.MethodName)) ∈ zTB := zt4 64 rfl rfl
set_option maxRecDepth 20000 in
theorem zq1101 : (Jvm.Cond.code ({ cls := "UnsoldPrice", name := "other", desc := "(III)I" } : Jvm.MethodName) prog_1_method_24_code (4 : Nat) (Option.some Jvm.ClassFile.FieldType.int)) ∈ zTB := zt4 65 rfl rfl
set_option maxRecDepth 20000 in
theorem zq1103 : (Jvm.Cond.instanceMethod ({ cls := "UnsoldPrice", name := "ask", desc := "(III)I" } : Jvm.MethodName)) ∈ zTB := zt4 67 rfl rfl
set_option maxRecDepth 20000 in
theorem zq1104 : (Jvm.Cond.selects "UnsoldPrice" ({ cls := "UnsoldPrice", name := "ask", desc := "(III)I" } : Jvm.MethodName) ({ cls := "UnsoldPrice", name := "ask", desc := "(III)I" } : Jvm.MethodName)) ∈ zTB := zt4 68 rfl rfl
set_option maxRecDepth 20000 in
theorem zq1105 : (Jvm.Cond.code ({ cls := "UnsoldPrice", name := "ask", desc := "(III)I" } : Jvm.MethodName) prog_1_method_25_code (4 : Nat) (Option.some Jvm.ClassFile.FieldType.int)) ∈ zTB := zt4 69 rfl rfl
set_option maxRecDepth 20000 in
theorem zq1107 : (Jvm.Cond.instanceMethod ({ cls := "UnsoldPrice", name := "month", desc := "(II)I" } : Jvm.MethodName)) ∈ zTB := zt4 71 rfl rfl
set_option maxRecDepth 20000 in
theorem zq1108 : (Jvm.Cond.selects "UnsoldPrice" ({ cls := "UnsoldPrice", name := "month", desc := "(II)I" } : Jvm.MethodName) ({ cls := "UnsoldPrice", name := "month", desc := "(II)I" } : Jvm.MethodName)) ∈ zTB := zt4 72 rfl rfl
set_option maxRecDepth 20000 in
theorem zq1109 : (Jvm.Cond.code ({ cls := "UnsoldPrice", name := "month", desc := "(II)I" } : Jvm.MethodName) prog_1_method_26_code (5 : Nat) (Option.some Jvm.ClassFile.FieldType.int)) ∈ zTB := zt4 73 rfl rfl
set_option maxRecDepth 20000 in
theorem zq1110 : (Jvm.Cond.methodLink "UnsoldPrice" (302 : Nat) ({ cls := "UnsoldPrice", name := "tellAskings", desc := "(I)I" } : Jvm.MethodName)) ∈ zTB := zt4 74 rfl rfl
set_option maxRecDepth 20000 in
theorem zq1112 : (Jvm.Cond.instanceMethod ({ cls := "UnsoldPrice", name := "tellAskings", desc := "(I)I" } : Jvm.MethodName)) ∈ zTB := zt4 76 rfl rfl
set_option maxRecDepth 20000 in
theorem zq1113 : (Jvm.Cond.code ({ cls := "UnsoldPrice", name := "tellAskings", desc := "(I)I" } : Jvm.MethodName) prog_1_method_47_code (4 : Nat) (Option.some Jvm.ClassFile.FieldType.int)) ∈ zTB := zt4 77 rfl rfl
set_option maxRecDepth 20000 in
theorem zq1115 : (Jvm.Cond.instanceMethod ({ cls := "UnsoldPrice", name := "inTurn", desc := "(II)I" } : Jvm.MethodName)) ∈ zTB := zt4 79 rfl rfl
set_option maxRecDepth 20000 in
theorem zq1116 : (Jvm.Cond.selects "UnsoldPrice" ({ cls := "UnsoldPrice", name := "inTurn", desc := "(II)I" } : Jvm.MethodName) ({ cls := "UnsoldPrice", name := "inTurn", desc := "(II)I" } : Jvm.MethodName)) ∈ zTB := zt4 80 rfl rfl
set_option maxRecDepth 20000 in
theorem zq1117 : (Jvm.Cond.code ({ cls := "UnsoldPrice", name := "inTurn", desc := "(II)I" } : Jvm.MethodName) prog_1_method_27_code (5 : Nat) (Option.some Jvm.ClassFile.FieldType.int)) ∈ zTB := zt4 81 rfl rfl
set_option maxRecDepth 20000 in
theorem zq1118 : (Jvm.Cond.methodLink "UnsoldPrice" (308 : Nat) ({ cls := "UnsoldPrice$Walk", name := "leastGainer", desc := "()I" } : Jvm.MethodName)) ∈ zTB := zt4 82 rfl rfl
set_option maxRecDepth 20000 in
theorem zq1119 : (Jvm.Cond.instanceMethod ({ cls := "UnsoldPrice$Walk", name := "leastGainer", desc := "()I" } : Jvm.MethodName)) ∈ zTB := zt4 83 rfl rfl
set_option maxRecDepth 20000 in
theorem zq1120 : (Jvm.Cond.selects "UnsoldPrice$Walk" ({ cls := "UnsoldPrice$Walk", name := "leastGainer", desc := "()I" } : Jvm.MethodName) ({ cls := "UnsoldPrice$Walk", name := "leastGainer", desc := "()I" } : Jvm.MethodName)) ∈ zTB := zt4 84 rfl rfl
set_option maxRecDepth 20000 in
theorem zq1121 : (Jvm.Cond.code ({ cls := "UnsoldPrice$Walk", name := "leastGainer", desc := "()I" } : Jvm.MethodName) prog_12_method_12_code (3 : Nat) (Option.some Jvm.ClassFile.FieldType.int)) ∈ zTB := zt4 85 rfl rfl
set_option maxRecDepth 20000 in
theorem zq1123 : (Jvm.Cond.instanceMethod ({ cls := "UnsoldPrice", name := "bribe", desc := "(II)I" } : Jvm.MethodName)) ∈ zTB := zt4 87 rfl rfl
set_option maxRecDepth 20000 in
theorem zq1124 : (Jvm.Cond.selects "UnsoldPrice" ({ cls := "UnsoldPrice", name := "bribe", desc := "(II)I" } : Jvm.MethodName) ({ cls := "UnsoldPrice", name := "bribe", desc := "(II)I" } : Jvm.MethodName)) ∈ zTB := zt4 88 rfl rfl
set_option maxRecDepth 20000 in
theorem zq1125 : (Jvm.Cond.code ({ cls := "UnsoldPrice", name := "bribe", desc := "(II)I" } : Jvm.MethodName) prog_1_method_28_code (8 : Nat) (Option.some Jvm.ClassFile.FieldType.int)) ∈ zTB := zt4 89 rfl rfl
set_option maxRecDepth 20000 in
theorem zq1127 : (Jvm.Cond.instanceMethod ({ cls := "UnsoldPrice", name := "spread", desc := "(II)I" } : Jvm.MethodName)) ∈ zTB := zt4 91 rfl rfl
set_option maxRecDepth 20000 in
theorem zq1128 : (Jvm.Cond.selects "UnsoldPrice" ({ cls := "UnsoldPrice", name := "spread", desc := "(II)I" } : Jvm.MethodName) ({ cls := "UnsoldPrice", name := "spread", desc := "(II)I" } : Jvm.MethodName)) ∈ zTB := zt4 92 rfl rfl
set_option maxRecDepth 20000 in
theorem zq1129 : (Jvm.Cond.code ({ cls := "UnsoldPrice", name := "spread", desc := "(II)I" } : Jvm.MethodName) prog_1_method_29_code (3 : Nat) (Option.some Jvm.ClassFile.FieldType.int)) ∈ zTB := zt4 93 rfl rfl
set_option maxRecDepth 20000 in
theorem zq1131 : (Jvm.Cond.instanceMethod ({ cls := "UnsoldPrice", name := "served", desc := "(III)I" } : Jvm.MethodName)) ∈ zTB := zt4 95 rfl rfl
set_option maxRecDepth 20000 in
theorem zq1132 : (Jvm.Cond.selects "UnsoldPrice" ({ cls := "UnsoldPrice", name := "served", desc := "(III)I" } : Jvm.MethodName) ({ cls := "UnsoldPrice", name := "served", desc := "(III)I" } : Jvm.MethodName)) ∈ zTB := zt4 96 rfl rfl
set_option maxRecDepth 20000 in
theorem zq1133 : (Jvm.Cond.code ({ cls := "UnsoldPrice", name := "served", desc := "(III)I" } : Jvm.MethodName) prog_1_method_30_code (4 : Nat) (Option.some Jvm.ClassFile.FieldType.int)) ∈ zTB := zt4 97 rfl rfl
set_option maxRecDepth 20000 in
theorem zq1135 : (Jvm.Cond.instanceMethod ({ cls := "UnsoldPrice", name := "odds", desc := "(II)I" } : Jvm.MethodName)) ∈ zTB := zt4 99 rfl rfl
set_option maxRecDepth 20000 in
theorem zq1136 : (Jvm.Cond.selects "UnsoldPrice" ({ cls := "UnsoldPrice", name := "odds", desc := "(II)I" } : Jvm.MethodName) ({ cls := "UnsoldPrice", name := "odds", desc := "(II)I" } : Jvm.MethodName)) ∈ zTB := zt4 100 rfl rfl
set_option maxRecDepth 20000 in
theorem zq1137 : (Jvm.Cond.code ({ cls := "UnsoldPrice", name := "odds", desc := "(II)I" } : Jvm.MethodName) prog_1_method_31_code (3 : Nat) (Option.some Jvm.ClassFile.FieldType.int)) ∈ zTB := zt4 101 rfl rfl
set_option maxRecDepth 20000 in
theorem zq1138 : (Jvm.Cond.methodLink "UnsoldPrice" (326 : Nat) ({ cls := "UnsoldPrice$Search", name := "partsFrom", desc := "(III)I" } : Jvm.MethodName)) ∈ zTB := zt4 102 rfl rfl
set_option maxRecDepth 20000 in
theorem zq1139 : (Jvm.Cond.instanceMethod ({ cls := "UnsoldPrice$Search", name := "partsFrom", desc := "(III)I" } : Jvm.MethodName)) ∈ zTB := zt4 103 rfl rfl
set_option maxRecDepth 20000 in
theorem zq1140 : (Jvm.Cond.selects "UnsoldPrice$Search" ({ cls := "UnsoldPrice$Search", name := "partsFrom", desc := "(III)I" } : Jvm.MethodName) ({ cls := "UnsoldPrice$Search", name := "partsFrom", desc := "(III)I" } : Jvm.MethodName)) ∈ zTB := zt4 104 rfl rfl
set_option maxRecDepth 20000 in
theorem zq1141 : (Jvm.Cond.code ({ cls := "UnsoldPrice$Search", name := "partsFrom", desc := "(III)I" } : Jvm.MethodName) prog_9_method_7_code (4 : Nat) (Option.some Jvm.ClassFile.FieldType.int)) ∈ zTB := zt4 105 rfl rfl
set_option maxRecDepth 20000 in
theorem zq1142 : (Jvm.Cond.constant "UnsoldPrice$Search" (102 : Nat) (1000000000 : Int32)) ∈ zTB := zt4 106 rfl rfl
set_option maxRecDepth 20000 in
theorem zq1143 : (Jvm.Cond.methodLink "UnsoldPrice$Search" (103 : Nat) ({ cls := "UnsoldPrice$Search", name := "split", desc := "(II)I" } : Jvm.MethodName)) ∈ zTB := zt4 107 rfl rfl
set_option maxRecDepth 20000 in
theorem zq1145 : (Jvm.Cond.instanceMethod ({ cls := "UnsoldPrice$Search", name := "split", desc := "(II)I" } : Jvm.MethodName)) ∈ zTB := zt4 109 rfl rfl
set_option maxRecDepth 20000 in
theorem zq1146 : (Jvm.Cond.code ({ cls := "UnsoldPrice$Search", name := "split", desc := "(II)I" } : Jvm.MethodName) prog_9_method_8_code (5 : Nat) (Option.some Jvm.ClassFile.FieldType.int)) ∈ zTB := zt4 110 rfl rfl
set_option maxRecDepth 20000 in
theorem zq1147 : (Jvm.Cond.constantLong "UnsoldPrice$Search" (107 : Nat) (100 : Int64)) ∈ zTB := zt4 111 rfl rfl
set_option maxRecDepth 20000 in
theorem zq1149 : (Jvm.Cond.instanceMethod ({ cls := "UnsoldPrice", name := "lone", desc := "(II)I" } : Jvm.MethodName)) ∈ zTB := zt4 113 rfl rfl
set_option maxRecDepth 20000 in
theorem zq1150 : (Jvm.Cond.selects "UnsoldPrice" ({ cls := "UnsoldPrice", name := "lone", desc := "(II)I" } : Jvm.MethodName) ({ cls := "UnsoldPrice", name := "lone", desc := "(II)I" } : Jvm.MethodName)) ∈ zTB := zt4 114 rfl rfl
set_option maxRecDepth 20000 in
theorem zq1151 : (Jvm.Cond.code ({ cls := "UnsoldPrice", name := "lone", desc := "(II)I" } : Jvm.MethodName) prog_1_method_32_code (7 : Nat) (Option.some Jvm.ClassFile.FieldType.int)) ∈ zTB := zt4 115 rfl rfl
set_option maxRecDepth 20000 in
theorem zq1153 : (Jvm.Cond.instanceMethod ({ cls := "UnsoldPrice", name := "glut", desc := "(II)I" } : Jvm.MethodName)) ∈ zTB := zt4 117 rfl rfl
set_option maxRecDepth 20000 in
theorem zq1154 : (Jvm.Cond.selects "UnsoldPrice" ({ cls := "UnsoldPrice", name := "glut", desc := "(II)I" } : Jvm.MethodName) ({ cls := "UnsoldPrice", name := "glut", desc := "(II)I" } : Jvm.MethodName)) ∈ zTB := zt4 118 rfl rfl
set_option maxRecDepth 20000 in
theorem zq1155 : (Jvm.Cond.code ({ cls := "UnsoldPrice", name := "glut", desc := "(II)I" } : Jvm.MethodName) prog_1_method_33_code (3 : Nat) (Option.some Jvm.ClassFile.FieldType.int)) ∈ zTB := zt4 119 rfl rfl
set_option maxRecDepth 20000 in
theorem zq1156 : (Jvm.Cond.methodLink "UnsoldPrice" (336 : Nat) ({ cls := "UnsoldPrice$Walk", name := "fullest", desc := "()I" } : Jvm.MethodName)) ∈ zTB := zt4 120 rfl rfl
set_option maxRecDepth 20000 in
theorem zq1157 : (Jvm.Cond.instanceMethod ({ cls := "UnsoldPrice$Walk", name := "fullest", desc := "()I" } : Jvm.MethodName)) ∈ zTB := zt4 121 rfl rfl
set_option maxRecDepth 20000 in
theorem zq1158 : (Jvm.Cond.selects "UnsoldPrice$Walk" ({ cls := "UnsoldPrice$Walk", name := "fullest", desc := "()I" } : Jvm.MethodName) ({ cls := "UnsoldPrice$Walk", name := "fullest", desc := "()I" } : Jvm.MethodName)) ∈ zTB := zt4 122 rfl rfl
set_option maxRecDepth 20000 in
theorem zq1159 : (Jvm.Cond.code ({ cls := "UnsoldPrice$Walk", name := "fullest", desc := "()I" } : Jvm.MethodName) prog_12_method_13_code (3 : Nat) (Option.some Jvm.ClassFile.FieldType.int)) ∈ zTB := zt4 123 rfl rfl
set_option maxRecDepth 20000 in
theorem zq1161 : (Jvm.Cond.instanceMethod ({ cls := "UnsoldPrice", name := "image", desc := "()I" } : Jvm.MethodName)) ∈ zTB := zt4 125 rfl rfl
set_option maxRecDepth 20000 in
theorem zq1162 : (Jvm.Cond.selects "UnsoldPrice" ({ cls := "UnsoldPrice", name := "image", desc := "()I" } : Jvm.MethodName) ({ cls := "UnsoldPrice", name := "image", desc := "()I" } : Jvm.MethodName)) ∈ zTB := zt4 126 rfl rfl
set_option maxRecDepth 20000 in
theorem zq1163 : (Jvm.Cond.code ({ cls := "UnsoldPrice", name := "image", desc := "()I" } : Jvm.MethodName) prog_1_method_34_code (1 : Nat) (Option.some Jvm.ClassFile.FieldType.int)) ∈ zTB := zt4 127 rfl rfl
set_option maxRecDepth 20000 in
theorem zq1164 : (Jvm.Cond.methodLink "UnsoldPrice" (339 : Nat) ({ cls := "UnsoldPrice$State", name := "copyFrom", desc := "(LUnsoldPrice$State;)V" } : Jvm.MethodName)) ∈ zTB := zt4 128 rfl rfl
set_option maxRecDepth 20000 in
theorem zq1166 : (Jvm.Cond.instanceMethod ({ cls := "UnsoldPrice", name := "back", desc := "()I" } : Jvm.MethodName)) ∈ zTB := zt4 130 rfl rfl
set_option maxRecDepth 20000 in
theorem zq1167 : (Jvm.Cond.selects "UnsoldPrice" ({ cls := "UnsoldPrice", name := "back", desc := "()I" } : Jvm.MethodName) ({ cls := "UnsoldPrice", name := "back", desc := "()I" } : Jvm.MethodName)) ∈ zTB := zt4 131 rfl rfl
set_option maxRecDepth 20000 in
theorem zq1168 : (Jvm.Cond.code ({ cls := "UnsoldPrice", name := "back", desc := "()I" } : Jvm.MethodName) prog_1_method_35_code (1 : Nat) (Option.some Jvm.ClassFile.FieldType.int)) ∈ zTB := zt4 132 rfl rfl
set_option maxRecDepth 20000 in
theorem zq1170 : (Jvm.Cond.instanceMethod ({ cls := "UnsoldPrice", name := "count", desc := "(I)I" } : Jvm.MethodName)) ∈ zTB := zt4 134 rfl rfl
set_option maxRecDepth 20000 in
theorem zq1171 : (Jvm.Cond.selects "UnsoldPrice" ({ cls := "UnsoldPrice", name := "count", desc := "(I)I" } : Jvm.MethodName) ({ cls := "UnsoldPrice", name := "count", desc := "(I)I" } : Jvm.MethodName)) ∈ zTB := zt4 135 rfl rfl
set_option maxRecDepth 20000 in
theorem zq1172 : (Jvm.Cond.code ({ cls := "UnsoldPrice", name := "count", desc := "(I)I" } : Jvm.MethodName) prog_1_method_36_code (2 : Nat) (Option.some Jvm.ClassFile.FieldType.int)) ∈ zTB := zt4 136 rfl rfl
set_option maxRecDepth 20000 in
theorem zq1174 : (Jvm.Cond.static ({ cls := "UnsoldPriceLaw", name := "seller", desc := "(LUnsoldPrice;II[J)I" } : Jvm.MethodName)) ∈ zTB := zt4 138 rfl rfl
set_option maxRecDepth 20000 in
theorem zq1175 : (Jvm.Cond.codeWith ({ cls := "UnsoldPriceLaw", name := "seller", desc := "(LUnsoldPrice;II[J)I" } : Jvm.MethodName) method_3_code (5 : Nat) (Option.some Jvm.ClassFile.FieldType.int) [((0 : Nat), (10 : Nat), (13 : Nat), (13 : Nat))]) ∈ zTB := zt4 139 rfl rfl
set_option maxRecDepth 20000 in
theorem zq1176 : (Jvm.Cond.classLink "UnsoldPriceLaw" (13 : Nat) "java/util/NoSuchElementException") ∈ zTB := zt4 140 rfl rfl
set_option maxRecDepth 20000 in
theorem zq1177 : (Jvm.Cond.methodLink "UnsoldPriceLaw" (7 : Nat) ({ cls := "UnsoldPrice", name := "seller", desc := "(II)I" } : Jvm.MethodName)) ∈ zTB := zt4 141 rfl rfl
set_option maxRecDepth 20000 in
theorem zq1178 : (Jvm.Cond.instanceMethod ({ cls := "UnsoldPrice", name := "seller", desc := "(II)I" } : Jvm.MethodName)) ∈ zTB := zt4 142 rfl rfl
set_option maxRecDepth 20000 in
theorem zq1179 : (Jvm.Cond.selects "UnsoldPrice" ({ cls := "UnsoldPrice", name := "seller", desc := "(II)I" } : Jvm.MethodName) ({ cls := "UnsoldPrice", name := "seller", desc := "(II)I" } : Jvm.MethodName)) ∈ zTB := zt4 143 rfl rfl
set_option maxRecDepth 20000 in
theorem zq1180 : (Jvm.Cond.code ({ cls := "UnsoldPrice", name := "seller", desc := "(II)I" } : Jvm.MethodName) prog_1_method_6_code (3 : Nat) (Option.some Jvm.ClassFile.FieldType.int)) ∈ zTB := zt4 144 rfl rfl
set_option maxRecDepth 20000 in
theorem zq1181 : (Jvm.Cond.classLink "UnsoldPrice" (136 : Nat) "java/util/NoSuchElementException") ∈ zTB := zt4 145 rfl rfl
set_option maxRecDepth 20000 in
theorem zq1245 : (Jvm.Cond.instanceMethod ({ cls := "UnsoldPriceModel", name := "<init>", desc := "()V" } : Jvm.MethodName)) ∈ zTB := zt4 209 rfl rfl
set_option maxRecDepth 20000 in
theorem zq1246 : (Jvm.Cond.code ({ cls := "UnsoldPriceModel", name := "<init>", desc := "()V" } : Jvm.MethodName) prog_14_method_1_code (1 : Nat) (Option.none : Option Jvm.ClassFile.FieldType)) ∈ zTB := zt4 210 rfl rfl
set_option maxRecDepth 20000 in
theorem zq1247 : (Jvm.Cond.methodLink "UnsoldPriceModel" (3 : Nat) ({ cls := "java/lang/Object", name := "<init>", desc := "()V" } : Jvm.MethodName)) ∈ zTB := zt4 211 rfl rfl
set_option maxRecDepth 20000 in
theorem zq1250 : (Jvm.Cond.fieldLink "UnsoldPriceModel" (131 : Nat) "UnsoldPriceModel" "thrown" "I") ∈ zTB := zt4 214 rfl rfl
set_option maxRecDepth 20000 in
theorem zq1251 : (Jvm.Cond.fieldLink "UnsoldPriceModel" (9 : Nat) "UnsoldPriceModel" "tape" "[B") ∈ zTB := zt4 215 rfl rfl
set_option maxRecDepth 20000 in
theorem zq1252 : (Jvm.Cond.fieldLink "UnsoldPriceModel" (13 : Nat) "UnsoldPriceModel" "texts" "[B") ∈ zTB := zt4 216 rfl rfl
set_option maxRecDepth 20000 in
theorem zq1253 : (Jvm.Cond.fieldLink "UnsoldPriceModel" (16 : Nat) "UnsoldPriceModel" "textLong" "[I") ∈ zTB := zt4 217 rfl rfl
set_option maxRecDepth 20000 in
theorem zq1254 : (Jvm.Cond.fieldLink "UnsoldPriceModel" (20 : Nat) "UnsoldPriceModel" "letters" "[I") ∈ zTB := zt4 218 rfl rfl
set_option maxRecDepth 20000 in
theorem zq1255 : (Jvm.Cond.fieldLink "UnsoldPriceModel" (23 : Nat) "UnsoldPriceModel" "text" "[B") ∈ zTB := zt4 219 rfl rfl
set_option maxRecDepth 20000 in
theorem zq1256 : (Jvm.Cond.fieldLink "UnsoldPriceModel" (145 : Nat) "UnsoldPriceModel" "length" "I") ∈ zTB := zt4 220 rfl rfl
set_option maxRecDepth 20000 in
theorem zq1257 : (Jvm.Cond.fieldLink "UnsoldPriceModel" (300 : Nat) "UnsoldPriceModel" "ruleMany" "I") ∈ zTB := zt4 221 rfl rfl
set_option maxRecDepth 20000 in
theorem zq1258 : (Jvm.Cond.fieldLink "UnsoldPriceModel" (161 : Nat) "UnsoldPriceModel" "begins" "I") ∈ zTB := zt4 222 rfl rfl
set_option maxRecDepth 20000 in
theorem zq1259 : (Jvm.Cond.fieldLink "UnsoldPriceModel" (158 : Nat) "UnsoldPriceModel" "ends" "I") ∈ zTB := zt4 223 rfl rfl
set_option maxRecDepth 20000 in
theorem zq1260 : (Jvm.Cond.fieldLink "UnsoldPriceModel" (155 : Nat) "UnsoldPriceModel" "at" "I") ∈ zTB := zt4 224 rfl rfl
set_option maxRecDepth 20000 in
theorem zq1261 : (Jvm.Cond.fieldLink "UnsoldPriceModel" (164 : Nat) "UnsoldPriceModel" "fault" "I") ∈ zTB := zt4 225 rfl rfl
set_option maxRecDepth 20000 in
theorem zq1262 : (Jvm.Cond.fieldLink "UnsoldPriceModel" (167 : Nat) "UnsoldPriceModel" "deep" "I") ∈ zTB := zt4 226 rfl rfl
set_option maxRecDepth 20000 in
theorem zq1263 : (Jvm.Cond.fieldLink "UnsoldPriceModel" (237 : Nat) "UnsoldPriceModel" "label" "I") ∈ zTB := zt4 227 rfl rfl
set_option maxRecDepth 20000 in
theorem zq1264 : (Jvm.Cond.fieldLink "UnsoldPriceModel" (240 : Nat) "UnsoldPriceModel" "found" "I") ∈ zTB := zt4 228 rfl rfl
set_option maxRecDepth 20000 in
theorem zq1265 : (Jvm.Cond.fieldLink "UnsoldPriceModel" (28 : Nat) "UnsoldPriceModel" "labels" "Ljava/lang/String;") ∈ zTB := zt4 229 rfl rfl
set_option maxRecDepth 20000 in
theorem zq1266 : (Jvm.Cond.fieldLink "UnsoldPriceModel" (34 : Nat) "UnsoldPriceModel" "allowed" "Ljava/lang/String;") ∈ zTB := zt4 230 rfl rfl
set_option maxRecDepth 20000 in
theorem zq1267 : (Jvm.Cond.fieldLink "UnsoldPriceModel" (233 : Nat) "UnsoldPriceModel" "hasFound" "Z") ∈ zTB := zt4 231 rfl rfl
set_option maxRecDepth 20000 in
theorem zq1268 : (Jvm.Cond.fieldLink "UnsoldPriceModel" (37 : Nat) "UnsoldPriceModel" "own" "[I") ∈ zTB := zt4 232 rfl rfl
set_option maxRecDepth 20000 in
theorem zq1269 : (Jvm.Cond.fieldLink "UnsoldPriceModel" (40 : Nat) "UnsoldPriceModel" "sorts" "[I") ∈ zTB := zt4 233 rfl rfl
set_option maxRecDepth 20000 in
theorem zq1270 : (Jvm.Cond.fieldLink "UnsoldPriceModel" (43 : Nat) "UnsoldPriceModel" "law" "[I") ∈ zTB := zt4 234 rfl rfl
set_option maxRecDepth 20000 in
theorem zq1271 : (Jvm.Cond.fieldLink "UnsoldPriceModel" (46 : Nat) "UnsoldPriceModel" "ownRead" "[I") ∈ zTB := zt4 235 rfl rfl
set_option maxRecDepth 20000 in
theorem zq1272 : (Jvm.Cond.fieldLink "UnsoldPriceModel" (49 : Nat) "UnsoldPriceModel" "sortsRead" "[I") ∈ zTB := zt4 236 rfl rfl
set_option maxRecDepth 20000 in
theorem zq1273 : (Jvm.Cond.fieldLink "UnsoldPriceModel" (52 : Nat) "UnsoldPriceModel" "lawRead" "[I") ∈ zTB := zt4 237 rfl rfl
set_option maxRecDepth 20000 in
theorem zq1274 : (Jvm.Cond.fieldLink "UnsoldPriceModel" (305 : Nat) "UnsoldPriceModel" "sellers" "I") ∈ zTB := zt4 238 rfl rfl
set_option maxRecDepth 20000 in
theorem zq1275 : (Jvm.Cond.fieldLink "UnsoldPriceModel" (308 : Nat) "UnsoldPriceModel" "sortMany" "I") ∈ zTB := zt4 239 rfl rfl
set_option maxRecDepth 20000 in
theorem zq1276 : (Jvm.Cond.fieldLink "UnsoldPriceModel" (257 : Nat) "UnsoldPriceModel" "sellersRead" "I") ∈ zTB := zt5 0 rfl rfl
set_option maxRecDepth 20000 in
theorem zq1277 : (Jvm.Cond.fieldLink "UnsoldPriceModel" (260 : Nat) "UnsoldPriceModel" "sortsReadMany" "I") ∈ zTB := zt5 1 rfl rfl
set_option maxRecDepth 20000 in
theorem zq1278 : (Jvm.Cond.fieldLink "UnsoldPriceModel" (263 : Nat) "UnsoldPriceModel" "hasLaw" "Z") ∈ zTB := zt5 2 rfl rfl
set_option maxRecDepth 20000 in
theorem zq1279 : (Jvm.Cond.fieldLink "UnsoldPriceModel" (55 : Nat) "UnsoldPriceModel" "now" "[I") ∈ zTB := zt5 3 rfl rfl
set_option maxRecDepth 20000 in
theorem zq1280 : (Jvm.Cond.fieldLink "UnsoldPriceModel" (58 : Nat) "UnsoldPriceModel" "kept" "[I") ∈ zTB := zt5 4 rfl rfl
set_option maxRecDepth 20000 in
theorem zq1281 : (Jvm.Cond.fieldLink "UnsoldPriceModel" (61 : Nat) "UnsoldPriceModel" "ruleOf" "[I") ∈ zTB := zt5 5 rfl rfl
set_option maxRecDepth 20000 in
theorem zq1282 : (Jvm.Cond.fieldLink "UnsoldPriceModel" (311 : Nat) "UnsoldPriceModel" "holding" "I") ∈ zTB := zt5 6 rfl rfl
set_option maxRecDepth 20000 in
theorem zq1283 : (Jvm.Cond.fieldLink "UnsoldPriceModel" (335 : Nat) "UnsoldPriceModel" "risk" "I") ∈ zTB := zt5 7 rfl rfl
set_option maxRecDepth 20000 in
theorem zq1284 : (Jvm.Cond.fieldLink "UnsoldPriceModel" (338 : Nat) "UnsoldPriceModel" "x" "J") ∈ zTB := zt5 8 rfl rfl
set_option maxRecDepth 20000 in
theorem zq1285 : (Jvm.Cond.fieldLink "UnsoldPriceModel" (64 : Nat) "UnsoldPriceModel" "tells" "[I") ∈ zTB := zt5 9 rfl rfl
set_option maxRecDepth 20000 in
theorem zq1286 : (Jvm.Cond.fieldLink "UnsoldPriceModel" (67 : Nat) "UnsoldPriceModel" "asks" "[I") ∈ zTB := zt5 10 rfl rfl
set_option maxRecDepth 20000 in
theorem zq1287 : (Jvm.Cond.fieldLink "UnsoldPriceModel" (70 : Nat) "UnsoldPriceModel" "took" "[I") ∈ zTB := zt5 11 rfl rfl
set_option maxRecDepth 20000 in
theorem zq1288 : (Jvm.Cond.fieldLink "UnsoldPriceModel" (73 : Nat) "UnsoldPriceModel" "morning" "[I") ∈ zTB := zt5 12 rfl rfl
set_option maxRecDepth 20000 in
theorem zq1289 : (Jvm.Cond.fieldLink "UnsoldPriceModel" (76 : Nat) "UnsoldPriceModel" "comes" "[I") ∈ zTB := zt5 13 rfl rfl
set_option maxRecDepth 20000 in
theorem zq1290 : (Jvm.Cond.fieldLink "UnsoldPriceModel" (79 : Nat) "UnsoldPriceModel" "unsold" "[I") ∈ zTB := zt5 14 rfl rfl
set_option maxRecDepth 20000 in
theorem zq1291 : (Jvm.Cond.fieldLink "UnsoldPriceModel" (342 : Nat) "UnsoldPriceModel" "holds" "I") ∈ zTB := zt5 15 rfl rfl
set_option maxRecDepth 20000 in
theorem zq1292 : (Jvm.Cond.fieldLink "UnsoldPriceModel" (370 : Nat) "UnsoldPriceModel" "leads" "I") ∈ zTB := zt5 16 rfl rfl
set_option maxRecDepth 20000 in
theorem zq1293 : (Jvm.Cond.fieldLink "UnsoldPriceModel" (349 : Nat) "UnsoldPriceModel" "strangerGoods" "I") ∈ zTB := zt5 17 rfl rfl
set_option maxRecDepth 20000 in
theorem zq1294 : (Jvm.Cond.fieldLink "UnsoldPriceModel" (376 : Nat) "UnsoldPriceModel" "strangerAsk" "I") ∈ zTB := zt5 18 rfl rfl
set_option maxRecDepth 20000 in
theorem zq1295 : (Jvm.Cond.fieldLink "UnsoldPriceModel" (352 : Nat) "UnsoldPriceModel" "strangerSold" "I") ∈ zTB := zt5 19 rfl rfl
set_option maxRecDepth 20000 in
theorem zq1296 : (Jvm.Cond.fieldLink "UnsoldPriceModel" (367 : Nat) "UnsoldPriceModel" "isJump" "Z") ∈ zTB := zt5 20 rfl rfl
set_option maxRecDepth 20000 in
theorem zq1297 : (Jvm.Cond.fieldLink "UnsoldPriceModel" (82 : Nat) "UnsoldPriceModel" "buyMany" "[I") ∈ zTB := zt5 21 rfl rfl
set_option maxRecDepth 20000 in
theorem zq1298 : (Jvm.Cond.fieldLink "UnsoldPriceModel" (85 : Nat) "UnsoldPriceModel" "goMany" "[I") ∈ zTB := zt5 22 rfl rfl
set_option maxRecDepth 20000 in
theorem zq1299 : (Jvm.Cond.fieldLink "UnsoldPriceModel" (88 : Nat) "UnsoldPriceModel" "boards" "[I") ∈ zTB := zt5 23 rfl rfl
set_option maxRecDepth 20000 in
theorem zq1300 : (Jvm.Cond.fieldLink "UnsoldPriceModel" (91 : Nat) "UnsoldPriceModel" "jumps" "[Z") ∈ zTB := zt5 24 rfl rfl
set_option maxRecDepth 20000 in
theorem zq1301 : (Jvm.Cond.fieldLink "UnsoldPriceModel" (95 : Nat) "UnsoldPriceModel" "states" "[I") ∈ zTB := zt5 25 rfl rfl
set_option maxRecDepth 20000 in
theorem zq1302 : (Jvm.Cond.fieldLink "UnsoldPriceModel" (422 : Nat) "UnsoldPriceModel" "bestRow" "I") ∈ zTB := zt5 26 rfl rfl
set_option maxRecDepth 20000 in
theorem zq1303 : (Jvm.Cond.fieldLink "UnsoldPriceModel" (425 : Nat) "UnsoldPriceModel" "bestGain" "I") ∈ zTB := zt5 27 rfl rfl
set_option maxRecDepth 20000 in
theorem zq1304 : (Jvm.Cond.fieldLink "UnsoldPriceModel" (98 : Nat) "UnsoldPriceModel" "wasOne" "[I") ∈ zTB := zt5 28 rfl rfl
set_option maxRecDepth 20000 in
theorem zq1305 : (Jvm.Cond.fieldLink "UnsoldPriceModel" (101 : Nat) "UnsoldPriceModel" "wasTwo" "[I") ∈ zTB := zt5 29 rfl rfl
set_option maxRecDepth 20000 in
theorem zq1306 : (Jvm.Cond.fieldLink "UnsoldPriceModel" (104 : Nat) "UnsoldPriceModel" "wasThree" "[I") ∈ zTB := zt5 30 rfl rfl
set_option maxRecDepth 20000 in
theorem zq1307 : (Jvm.Cond.fieldLink "UnsoldPriceModel" (439 : Nat) "UnsoldPriceModel" "restMany" "I") ∈ zTB := zt5 31 rfl rfl
set_option maxRecDepth 20000 in
theorem zq1308 : (Jvm.Cond.fieldLink "UnsoldPriceModel" (442 : Nat) "UnsoldPriceModel" "restWanted" "I") ∈ zTB := zt5 32 rfl rfl
set_option maxRecDepth 20000 in
theorem zq1309 : (Jvm.Cond.fieldLink "UnsoldPriceModel" (445 : Nat) "UnsoldPriceModel" "restFound" "I") ∈ zTB := zt5 33 rfl rfl
set_option maxRecDepth 20000 in
theorem zq1310 : (Jvm.Cond.fieldLink "UnsoldPriceModel" (107 : Nat) "UnsoldPriceModel" "seenDay" "[I") ∈ zTB := zt5 34 rfl rfl
set_option maxRecDepth 20000 in
theorem zq1311 : (Jvm.Cond.fieldLink "UnsoldPriceModel" (110 : Nat) "UnsoldPriceModel" "seenBoard" "[I") ∈ zTB := zt5 35 rfl rfl
set_option maxRecDepth 20000 in
theorem zq1312 : (Jvm.Cond.fieldLink "UnsoldPriceModel" (314 : Nat) "UnsoldPriceModel" "seen" "I") ∈ zTB := zt5 36 rfl rfl
set_option maxRecDepth 20000 in
theorem zq1313 : (Jvm.Cond.fieldLink "UnsoldPriceModel" (113 : Nat) "UnsoldPriceModel" "askWho" "[I") ∈ zTB := zt5 37 rfl rfl
set_option maxRecDepth 20000 in
theorem zq1314 : (Jvm.Cond.fieldLink "UnsoldPriceModel" (116 : Nat) "UnsoldPriceModel" "askDay" "[I") ∈ zTB := zt5 38 rfl rfl
set_option maxRecDepth 20000 in
theorem zq1315 : (Jvm.Cond.fieldLink "UnsoldPriceModel" (119 : Nat) "UnsoldPriceModel" "askFor" "[I") ∈ zTB := zt5 39 rfl rfl
set_option maxRecDepth 20000 in
theorem zq1316 : (Jvm.Cond.fieldLink "UnsoldPriceModel" (317 : Nat) "UnsoldPriceModel" "askings" "I") ∈ zTB := zt5 40 rfl rfl
set_option maxRecDepth 20000 in
theorem zq1317 : (Jvm.Cond.fieldLink "UnsoldPriceModel" (472 : Nat) "UnsoldPriceModel" "oddsParts" "I") ∈ zTB := zt5 41 rfl rfl
set_option maxRecDepth 20000 in
theorem zq1318 : (Jvm.Cond.fieldLink "UnsoldPriceModel" (122 : Nat) "UnsoldPriceModel" "rows" "[I") ∈ zTB := zt5 42 rfl rfl
set_option maxRecDepth 20000 in
theorem zq1319 : (Jvm.Cond.fieldLink "UnsoldPriceModel" (125 : Nat) "UnsoldPriceModel" "image" "[I") ∈ zTB := zt5 43 rfl rfl
set_option maxRecDepth 20000 in
theorem zq1320 : (Jvm.Cond.fieldLink "UnsoldPriceModel" (128 : Nat) "UnsoldPriceModel" "imageRule" "[I") ∈ zTB := zt5 44 rfl rfl
set_option maxRecDepth 20000 in
theorem zq1321 : (Jvm.Cond.fieldLink "UnsoldPriceModel" (481 : Nat) "UnsoldPriceModel" "imageHolding" "I") ∈ zTB := zt5 45 rfl rfl
set_option maxRecDepth 20000 in
theorem zq1322 : (Jvm.Cond.fieldLink "UnsoldPriceModel" (484 : Nat) "UnsoldPriceModel" "imageX" "J") ∈ zTB := zt5 46 rfl rfl
set_option maxRecDepth 20000 in
theorem zq1323 : (Jvm.Cond.fieldLink "UnsoldPriceModel" (320 : Nat) "UnsoldPriceModel" "hasImage" "Z") ∈ zTB := zt5 47 rfl rfl
set_option maxRecDepth 20000 in
theorem zq1474 : (Jvm.Cond.instanceMethod ({ cls := "UnsoldPriceModel", name := "thrown", desc := "()I" } : Jvm.MethodName)) ∈ zTB := zt5 198 rfl rfl
set_option maxRecDepth 20000 in
theorem zq1475 : (Jvm.Cond.selects "UnsoldPriceModel" ({ cls := "UnsoldPriceModel", name := "thrown", desc := "()I" } : Jvm.MethodName) ({ cls := "UnsoldPriceModel", name := "thrown", desc := "()I" } : Jvm.MethodName)) ∈ zTB := zt5 199 rfl rfl
set_option maxRecDepth 20000 in
theorem zq1476 : (Jvm.Cond.code ({ cls := "UnsoldPriceModel", name := "thrown", desc := "()I" } : Jvm.MethodName) prog_14_method_2_code (1 : Nat) (Option.some Jvm.ClassFile.FieldType.int)) ∈ zTB := zt5 200 rfl rfl
set_option maxRecDepth 20000 in
theorem zq1478 : (Jvm.Cond.instanceMethod ({ cls := "UnsoldPriceModel", name := "feed", desc := "(IIIII)I" } : Jvm.MethodName)) ∈ zTB := zt5 202 rfl rfl
set_option maxRecDepth 20000 in
theorem zq1479 : (Jvm.Cond.selects "UnsoldPriceModel" ({ cls := "UnsoldPriceModel", name := "feed", desc := "(IIIII)I" } : Jvm.MethodName) ({ cls := "UnsoldPriceModel", name := "feed", desc := "(IIIII)I" } : Jvm.MethodName)) ∈ zTB := zt5 203 rfl rfl
set_option maxRecDepth 20000 in
theorem zq1480 : (Jvm.Cond.code ({ cls := "UnsoldPriceModel", name := "feed", desc := "(IIIII)I" } : Jvm.MethodName) prog_14_method_8_code (6 : Nat) (Option.some Jvm.ClassFile.FieldType.int)) ∈ zTB := zt5 204 rfl rfl
set_option maxRecDepth 20000 in
theorem zq1481 : (Jvm.Cond.methodLink "UnsoldPriceModel" (147 : Nat) ({ cls := "UnsoldPriceModel", name := "bytesIn", desc := "(I)I" } : Jvm.MethodName)) ∈ zTB := zt5 205 rfl rfl
set_option maxRecDepth 20000 in
theorem zq1482 : (Jvm.Cond.static ({ cls := "UnsoldPriceModel", name := "bytesIn", desc := "(I)I" } : Jvm.MethodName)) ∈ zTB := zt5 206 rfl rfl
set_option maxRecDepth 20000 in
theorem zq1483 : (Jvm.Cond.code ({ cls := "UnsoldPriceModel", name := "bytesIn", desc := "(I)I" } : Jvm.MethodName) prog_14_method_6_code (3 : Nat) (Option.some Jvm.ClassFile.FieldType.int)) ∈ zTB := zt5 207 rfl rfl
set_option maxRecDepth 20000 in
theorem zq1484 : (Jvm.Cond.methodLink "UnsoldPriceModel" (151 : Nat) ({ cls := "UnsoldPriceModel", name := "put", desc := "(I)V" } : Jvm.MethodName)) ∈ zTB := zt5 208 rfl rfl
set_option maxRecDepth 20000 in
theorem zq1486 : (Jvm.Cond.instanceMethod ({ cls := "UnsoldPriceModel", name := "put", desc := "(I)V" } : Jvm.MethodName)) ∈ zTB := zt5 210 rfl rfl
set_option maxRecDepth 20000 in
theorem zq1487 : (Jvm.Cond.code ({ cls := "UnsoldPriceModel", name := "put", desc := "(I)V" } : Jvm.MethodName) prog_14_method_7_code (3 : Nat) (Option.none : Option Jvm.ClassFile.FieldType)) ∈ zTB := zt5 211 rfl rfl
set_option maxRecDepth 20000 in
theorem zq1489 : (Jvm.Cond.instanceMethod ({ cls := "UnsoldPriceModel", name := "end", desc := "(I)Z" } : Jvm.MethodName)) ∈ zTB := zt5 213 rfl rfl
set_option maxRecDepth 20000 in
theorem zq1490 : (Jvm.Cond.selects "UnsoldPriceModel" ({ cls := "UnsoldPriceModel", name := "end", desc := "(I)Z" } : Jvm.MethodName) ({ cls := "UnsoldPriceModel", name := "end", desc := "(I)Z" } : Jvm.MethodName)) ∈ zTB := zt5 214 rfl rfl
set_option maxRecDepth 20000 in
theorem zq1491 : (Jvm.Cond.code ({ cls := "UnsoldPriceModel", name := "end", desc := "(I)Z" } : Jvm.MethodName) prog_14_method_9_code (2 : Nat) (Option.some Jvm.ClassFile.FieldType.boolean)) ∈ zTB := zt5 215 rfl rfl
set_option maxRecDepth 20000 in
theorem zq1493 : (Jvm.Cond.instanceMethod ({ cls := "UnsoldPriceModel", name := "fault", desc := "(I)I" } : Jvm.MethodName)) ∈ zTB := zt5 217 rfl rfl
set_option maxRecDepth 20000 in
theorem zq1494 : (Jvm.Cond.selects "UnsoldPriceModel" ({ cls := "UnsoldPriceModel", name := "fault", desc := "(I)I" } : Jvm.MethodName) ({ cls := "UnsoldPriceModel", name := "fault", desc := "(I)I" } : Jvm.MethodName)) ∈ zTB := zt5 218 rfl rfl
set_option maxRecDepth 20000 in
theorem zq1495 : (Jvm.Cond.code ({ cls := "UnsoldPriceModel", name := "fault", desc := "(I)I" } : Jvm.MethodName) prog_14_method_34_code (2 : Nat) (Option.some Jvm.ClassFile.FieldType.int)) ∈ zTB := zt5 219 rfl rfl
set_option maxRecDepth 20000 in
theorem zq1496 : (Jvm.Cond.methodLink "UnsoldPriceModel" (253 : Nat) ({ cls := "UnsoldPriceModel", name := "isIn", desc := "(JJJ)Z" } : Jvm.MethodName)) ∈ zTB := zt5 220 rfl rfl
set_option maxRecDepth 20000 in
theorem zq1497 : (Jvm.Cond.static ({ cls := "UnsoldPriceModel", name := "isIn", desc := "(JJJ)Z" } : Jvm.MethodName)) ∈ zTB := zt5 221 rfl rfl
set_option maxRecDepth 20000 in
theorem zq1498 : (Jvm.Cond.code ({ cls := "UnsoldPriceModel", name := "isIn", desc := "(JJJ)Z" } : Jvm.MethodName) prog_14_method_3_code (6 : Nat) (Option.some Jvm.ClassFile.FieldType.boolean)) ∈ zTB := zt5 222 rfl rfl
set_option maxRecDepth 20000 in
theorem zq1499 : (Jvm.Cond.methodLink "UnsoldPriceModel" (294 : Nat) ({ cls := "UnsoldPriceModel", name := "readMarket", desc := "()V" } : Jvm.MethodName)) ∈ zTB := zt5 223 rfl rfl
set_option maxRecDepth 20000 in
theorem zq1501 : (Jvm.Cond.instanceMethod ({ cls := "UnsoldPriceModel", name := "readMarket", desc := "()V" } : Jvm.MethodName)) ∈ zTB := zt5 225 rfl rfl
set_option maxRecDepth 20000 in
theorem zq1502 : (Jvm.Cond.code ({ cls := "UnsoldPriceModel", name := "readMarket", desc := "()V" } : Jvm.MethodName) prog_14_method_33_code (2 : Nat) (Option.none : Option Jvm.ClassFile.FieldType)) ∈ zTB := zt5 226 rfl rfl
set_option maxRecDepth 20000 in
theorem zq1503 : (Jvm.Cond.methodLink "UnsoldPriceModel" (243 : Nat) ({ cls := "UnsoldPriceModel", name := "opens", desc := "([BII)V" } : Jvm.MethodName)) ∈ zTB := zt5 227 rfl rfl
set_option maxRecDepth 20000 in
theorem zq1505 : (Jvm.Cond.instanceMethod ({ cls := "UnsoldPriceModel", name := "opens", desc := "([BII)V" } : Jvm.MethodName)) ∈ zTB := zt5 229 rfl rfl
set_option maxRecDepth 20000 in
theorem zq1506 : (Jvm.Cond.code ({ cls := "UnsoldPriceModel", name := "opens", desc := "([BII)V" } : Jvm.MethodName) prog_14_method_25_code (4 : Nat) (Option.none : Option Jvm.ClassFile.FieldType)) ∈ zTB := zt5 230 rfl rfl
set_option maxRecDepth 20000 in
theorem zq1507 : (Jvm.Cond.methodLink "UnsoldPriceModel" (272 : Nat) ({ cls := "UnsoldPriceModel", name := "usual", desc := "(II)I" } : Jvm.MethodName)) ∈ zTB := zt5 231 rfl rfl
set_option maxRecDepth 20000 in
theorem zq1508 : (Jvm.Cond.static ({ cls := "UnsoldPriceModel", name := "usual", desc := "(II)I" } : Jvm.MethodName)) ∈ zTB := zt5 232 rfl rfl
set_option maxRecDepth 20000 in
theorem zq1509 : (Jvm.Cond.code ({ cls := "UnsoldPriceModel", name := "usual", desc := "(II)I" } : Jvm.MethodName) prog_14_method_30_code (2 : Nat) (Option.some Jvm.ClassFile.FieldType.int)) ∈ zTB := zt5 233 rfl rfl
set_option maxRecDepth 20000 in
theorem zq1510 : (Jvm.Cond.methodLink "UnsoldPriceModel" (291 : Nat) ({ cls := "UnsoldPriceModel", name := "readClause", desc := "()V" } : Jvm.MethodName)) ∈ zTB := zt5 234 rfl rfl
set_option maxRecDepth 20000 in
theorem zq1512 : (Jvm.Cond.instanceMethod ({ cls := "UnsoldPriceModel", name := "readClause", desc := "()V" } : Jvm.MethodName)) ∈ zTB := zt5 236 rfl rfl
set_option maxRecDepth 20000 in
theorem zq1513 : (Jvm.Cond.code ({ cls := "UnsoldPriceModel", name := "readClause", desc := "()V" } : Jvm.MethodName) prog_14_method_32_code (8 : Nat) (Option.none : Option Jvm.ClassFile.FieldType)) ∈ zTB := zt5 237 rfl rfl
set_option maxRecDepth 20000 in
theorem zq1514 : (Jvm.Cond.methodLink "UnsoldPriceModel" (174 : Nat) ({ cls := "UnsoldPriceModel", name := "look", desc := "()I" } : Jvm.MethodName)) ∈ zTB := zt5 238 rfl rfl
set_option maxRecDepth 20000 in
theorem zq1516 : (Jvm.Cond.instanceMethod ({ cls := "UnsoldPriceModel", name := "look", desc := "()I" } : Jvm.MethodName)) ∈ zTB := zt6 0 rfl rfl
set_option maxRecDepth 20000 in
theorem zq1517 : (Jvm.Cond.code ({ cls := "UnsoldPriceModel", name := "look", desc := "()I" } : Jvm.MethodName) prog_14_method_10_code (1 : Nat) (Option.some Jvm.ClassFile.FieldType.int)) ∈ zTB := zt6 1 rfl rfl
set_option maxRecDepth 20000 in
theorem zq1518 : (Jvm.Cond.methodLink "UnsoldPriceModel" (170 : Nat) ({ cls := "UnsoldPriceModel", name := "fails", desc := "()Z" } : Jvm.MethodName)) ∈ zTB := zt6 2 rfl rfl
set_option maxRecDepth 20000 in
theorem zq1520 : (Jvm.Cond.instanceMethod ({ cls := "UnsoldPriceModel", name := "fails", desc := "()Z" } : Jvm.MethodName)) ∈ zTB := zt6 4 rfl rfl
set_option maxRecDepth 20000 in
theorem zq1521 : (Jvm.Cond.code ({ cls := "UnsoldPriceModel", name := "fails", desc := "()Z" } : Jvm.MethodName) prog_14_method_11_code (1 : Nat) (Option.some Jvm.ClassFile.FieldType.boolean)) ∈ zTB := zt6 5 rfl rfl
set_option maxRecDepth 20000 in
theorem zq1525 : (Jvm.Cond.methodLink "UnsoldPriceModel" (135 : Nat) ({ cls := "java/lang/String", name := "length", desc := "()I" } : Jvm.MethodName)) ∈ zTB := zt6 9 rfl rfl
set_option maxRecDepth 20000 in
theorem zq1526 : (Jvm.Cond.methodLink "UnsoldPriceModel" (276 : Nat) ({ cls := "UnsoldPriceModel", name := "placeOf", desc := "(Ljava/lang/String;I)I" } : Jvm.MethodName)) ∈ zTB := zt6 10 rfl rfl
set_option maxRecDepth 20000 in
theorem zq1527 : (Jvm.Cond.static ({ cls := "UnsoldPriceModel", name := "placeOf", desc := "(Ljava/lang/String;I)I" } : Jvm.MethodName)) ∈ zTB := zt6 11 rfl rfl
set_option maxRecDepth 20000 in
theorem zq1528 : (Jvm.Cond.code ({ cls := "UnsoldPriceModel", name := "placeOf", desc := "(Ljava/lang/String;I)I" } : Jvm.MethodName) prog_14_method_28_code (3 : Nat) (Option.some Jvm.ClassFile.FieldType.int)) ∈ zTB := zt6 12 rfl rfl
set_option maxRecDepth 20000 in
theorem zq1529 : (Jvm.Cond.methodLink "UnsoldPriceModel" (141 : Nat) ({ cls := "java/lang/String", name := "charAt", desc := "(I)C" } : Jvm.MethodName)) ∈ zTB := zt6 13 rfl rfl
set_option maxRecDepth 20000 in
theorem zq1530 : (Jvm.Cond.methodLink "UnsoldPriceModel" (280 : Nat) ({ cls := "UnsoldPriceModel", name := "has", desc := "(II)Z" } : Jvm.MethodName)) ∈ zTB := zt6 14 rfl rfl
set_option maxRecDepth 20000 in
theorem zq1531 : (Jvm.Cond.static ({ cls := "UnsoldPriceModel", name := "has", desc := "(II)Z" } : Jvm.MethodName)) ∈ zTB := zt6 15 rfl rfl
set_option maxRecDepth 20000 in
theorem zq1532 : (Jvm.Cond.code ({ cls := "UnsoldPriceModel", name := "has", desc := "(II)Z" } : Jvm.MethodName) prog_14_method_4_code (2 : Nat) (Option.some Jvm.ClassFile.FieldType.boolean)) ∈ zTB := zt6 16 rfl rfl
set_option maxRecDepth 20000 in
theorem zq1533 : (Jvm.Cond.methodLink "UnsoldPriceModel" (284 : Nat) ({ cls := "UnsoldPriceModel", name := "mostOf", desc := "(II)I" } : Jvm.MethodName)) ∈ zTB := zt6 17 rfl rfl
set_option maxRecDepth 20000 in
theorem zq1534 : (Jvm.Cond.static ({ cls := "UnsoldPriceModel", name := "mostOf", desc := "(II)I" } : Jvm.MethodName)) ∈ zTB := zt6 18 rfl rfl
set_option maxRecDepth 20000 in
theorem zq1535 : (Jvm.Cond.code ({ cls := "UnsoldPriceModel", name := "mostOf", desc := "(II)I" } : Jvm.MethodName) prog_14_method_31_code (2 : Nat) (Option.some Jvm.ClassFile.FieldType.int)) ∈ zTB := zt6 19 rfl rfl
set_option maxRecDepth 20000 in
theorem zq1536 : (Jvm.Cond.methodLink "UnsoldPriceModel" (287 : Nat) ({ cls := "UnsoldPriceModel", name := "readItem", desc := "([IIII)V" } : Jvm.MethodName)) ∈ zTB := zt6 20 rfl rfl
set_option maxRecDepth 20000 in
theorem zq1538 : (Jvm.Cond.instanceMethod ({ cls := "UnsoldPriceModel", name := "readItem", desc := "([IIII)V" } : Jvm.MethodName)) ∈ zTB := zt6 22 rfl rfl
set_option maxRecDepth 20000 in
theorem zq1539 : (Jvm.Cond.code ({ cls := "UnsoldPriceModel", name := "readItem", desc := "([IIII)V" } : Jvm.MethodName) prog_14_method_29_code (7 : Nat) (Option.none : Option Jvm.ClassFile.FieldType)) ∈ zTB := zt6 23 rfl rfl
set_option maxRecDepth 20000 in
theorem zq1540 : (Jvm.Cond.methodLink "UnsoldPriceModel" (204 : Nat) ({ cls := "UnsoldPriceModel", name := "isDigit", desc := "()Z" } : Jvm.MethodName)) ∈ zTB := zt6 24 rfl rfl
set_option maxRecDepth 20000 in
theorem zq1542 : (Jvm.Cond.instanceMethod ({ cls := "UnsoldPriceModel", name := "isDigit", desc := "()Z" } : Jvm.MethodName)) ∈ zTB := zt6 26 rfl rfl
set_option maxRecDepth 20000 in
theorem zq1543 : (Jvm.Cond.code ({ cls := "UnsoldPriceModel", name := "isDigit", desc := "()Z" } : Jvm.MethodName) prog_14_method_14_code (1 : Nat) (Option.some Jvm.ClassFile.FieldType.boolean)) ∈ zTB := zt6 27 rfl rfl
set_option maxRecDepth 20000 in
theorem zq1544 : (Jvm.Cond.methodLink "UnsoldPriceModel" (250 : Nat) ({ cls := "UnsoldPriceModel", name := "here", desc := "()I" } : Jvm.MethodName)) ∈ zTB := zt6 28 rfl rfl
set_option maxRecDepth 20000 in
theorem zq1546 : (Jvm.Cond.instanceMethod ({ cls := "UnsoldPriceModel", name := "here", desc := "()I" } : Jvm.MethodName)) ∈ zTB := zt6 30 rfl rfl
set_option maxRecDepth 20000 in
theorem zq1547 : (Jvm.Cond.code ({ cls := "UnsoldPriceModel", name := "here", desc := "()I" } : Jvm.MethodName) prog_14_method_27_code (1 : Nat) (Option.some Jvm.ClassFile.FieldType.int)) ∈ zTB := zt6 31 rfl rfl
set_option maxRecDepth 20000 in
theorem zq1548 : (Jvm.Cond.methodLink "UnsoldPriceModel" (297 : Nat) ({ cls := "UnsoldPriceModel", name := "goThrough", desc := "([BII)V" } : Jvm.MethodName)) ∈ zTB := zt6 32 rfl rfl
set_option maxRecDepth 20000 in
theorem zq1550 : (Jvm.Cond.instanceMethod ({ cls := "UnsoldPriceModel", name := "goThrough", desc := "([BII)V" } : Jvm.MethodName)) ∈ zTB := zt6 34 rfl rfl
set_option maxRecDepth 20000 in
theorem zq1551 : (Jvm.Cond.code ({ cls := "UnsoldPriceModel", name := "goThrough", desc := "([BII)V" } : Jvm.MethodName) prog_14_method_26_code (4 : Nat) (Option.none : Option Jvm.ClassFile.FieldType)) ∈ zTB := zt6 35 rfl rfl
set_option maxRecDepth 20000 in
theorem zq1552 : (Jvm.Cond.methodLink "UnsoldPriceModel" (247 : Nat) ({ cls := "UnsoldPriceModel", name := "clause", desc := "()V" } : Jvm.MethodName)) ∈ zTB := zt6 36 rfl rfl
set_option maxRecDepth 20000 in
theorem zq1554 : (Jvm.Cond.instanceMethod ({ cls := "UnsoldPriceModel", name := "clause", desc := "()V" } : Jvm.MethodName)) ∈ zTB := zt6 38 rfl rfl
set_option maxRecDepth 20000 in
theorem zq1555 : (Jvm.Cond.code ({ cls := "UnsoldPriceModel", name := "clause", desc := "()V" } : Jvm.MethodName) prog_14_method_24_code (5 : Nat) (Option.none : Option Jvm.ClassFile.FieldType)) ∈ zTB := zt6 39 rfl rfl
set_option maxRecDepth 20000 in
theorem zq1556 : (Jvm.Cond.methodLink "UnsoldPriceModel" (190 : Nat) ({ cls := "UnsoldPriceModel", name := "isAmong", desc := "(Ljava/lang/String;I)Z" } : Jvm.MethodName)) ∈ zTB := zt6 40 rfl rfl
set_option maxRecDepth 20000 in
theorem zq1557 : (Jvm.Cond.static ({ cls := "UnsoldPriceModel", name := "isAmong", desc := "(Ljava/lang/String;I)Z" } : Jvm.MethodName)) ∈ zTB := zt6 41 rfl rfl
set_option maxRecDepth 20000 in
theorem zq1558 : (Jvm.Cond.code ({ cls := "UnsoldPriceModel", name := "isAmong", desc := "(Ljava/lang/String;I)Z" } : Jvm.MethodName) prog_14_method_5_code (3 : Nat) (Option.some Jvm.ClassFile.FieldType.boolean)) ∈ zTB := zt6 42 rfl rfl
set_option maxRecDepth 20000 in
theorem zq1559 : (Jvm.Cond.methodLink "UnsoldPriceModel" (200 : Nat) ({ cls := "UnsoldPriceModel", name := "takes", desc := "(I)Z" } : Jvm.MethodName)) ∈ zTB := zt6 43 rfl rfl
set_option maxRecDepth 20000 in
theorem zq1561 : (Jvm.Cond.instanceMethod ({ cls := "UnsoldPriceModel", name := "takes", desc := "(I)Z" } : Jvm.MethodName)) ∈ zTB := zt6 45 rfl rfl
set_option maxRecDepth 20000 in
theorem zq1562 : (Jvm.Cond.code ({ cls := "UnsoldPriceModel", name := "takes", desc := "(I)Z" } : Jvm.MethodName) prog_14_method_13_code (2 : Nat) (Option.some Jvm.ClassFile.FieldType.boolean)) ∈ zTB := zt6 46 rfl rfl
set_option maxRecDepth 20000 in
theorem zq1563 : (Jvm.Cond.methodLink "UnsoldPriceModel" (223 : Nat) ({ cls := "UnsoldPriceModel", name := "condition", desc := "(ZI)Z" } : Jvm.MethodName)) ∈ zTB := zt6 47 rfl rfl
set_option maxRecDepth 20000 in
theorem zq1565 : (Jvm.Cond.instanceMethod ({ cls := "UnsoldPriceModel", name := "condition", desc := "(ZI)Z" } : Jvm.MethodName)) ∈ zTB := zt6 49 rfl rfl
set_option maxRecDepth 20000 in
theorem zq1566 : (Jvm.Cond.code ({ cls := "UnsoldPriceModel", name := "condition", desc := "(ZI)Z" } : Jvm.MethodName) prog_14_method_23_code (5 : Nat) (Option.some Jvm.ClassFile.FieldType.boolean)) ∈ zTB := zt6 50 rfl rfl
set_option maxRecDepth 20000 in
theorem zq1567 : (Jvm.Cond.methodLink "UnsoldPriceModel" (230 : Nat) ({ cls := "UnsoldPriceModel", name := "part", desc := "(ZI)Z" } : Jvm.MethodName)) ∈ zTB := zt6 51 rfl rfl
set_option maxRecDepth 20000 in
theorem zq1569 : (Jvm.Cond.instanceMethod ({ cls := "UnsoldPriceModel", name := "part", desc := "(ZI)Z" } : Jvm.MethodName)) ∈ zTB := zt6 53 rfl rfl
set_option maxRecDepth 20000 in
theorem zq1570 : (Jvm.Cond.code ({ cls := "UnsoldPriceModel", name := "part", desc := "(ZI)Z" } : Jvm.MethodName) prog_14_method_22_code (5 : Nat) (Option.some Jvm.ClassFile.FieldType.boolean)) ∈ zTB := zt6 54 rfl rfl
set_option maxRecDepth 20000 in
theorem zq1571 : (Jvm.Cond.methodLink "UnsoldPriceModel" (227 : Nat) ({ cls := "UnsoldPriceModel", name := "compares", desc := "(ZI)Z" } : Jvm.MethodName)) ∈ zTB := zt6 55 rfl rfl
set_option maxRecDepth 20000 in
theorem zq1573 : (Jvm.Cond.instanceMethod ({ cls := "UnsoldPriceModel", name := "compares", desc := "(ZI)Z" } : Jvm.MethodName)) ∈ zTB := zt6 57 rfl rfl
set_option maxRecDepth 20000 in
theorem zq1574 : (Jvm.Cond.code ({ cls := "UnsoldPriceModel", name := "compares", desc := "(ZI)Z" } : Jvm.MethodName) prog_14_method_20_code (6 : Nat) (Option.some Jvm.ClassFile.FieldType.boolean)) ∈ zTB := zt6 58 rfl rfl
set_option maxRecDepth 20000 in
theorem zq1575 : (Jvm.Cond.methodLink "UnsoldPriceModel" (197 : Nat) ({ cls := "UnsoldPriceModel", name := "sum", desc := "()I" } : Jvm.MethodName)) ∈ zTB := zt6 59 rfl rfl
set_option maxRecDepth 20000 in
theorem zq1577 : (Jvm.Cond.instanceMethod ({ cls := "UnsoldPriceModel", name := "sum", desc := "()I" } : Jvm.MethodName)) ∈ zTB := zt6 61 rfl rfl
set_option maxRecDepth 20000 in
theorem zq1578 : (Jvm.Cond.code ({ cls := "UnsoldPriceModel", name := "sum", desc := "()I" } : Jvm.MethodName) prog_14_method_18_code (5 : Nat) (Option.some Jvm.ClassFile.FieldType.int)) ∈ zTB := zt6 62 rfl rfl
set_option maxRecDepth 20000 in
theorem zq1579 : (Jvm.Cond.methodLink "UnsoldPriceModel" (214 : Nat) ({ cls := "UnsoldPriceModel", name := "term", desc := "()I" } : Jvm.MethodName)) ∈ zTB := zt6 63 rfl rfl
set_option maxRecDepth 20000 in
theorem zq1581 : (Jvm.Cond.instanceMethod ({ cls := "UnsoldPriceModel", name := "term", desc := "()I" } : Jvm.MethodName)) ∈ zTB := zt6 65 rfl rfl
set_option maxRecDepth 20000 in
theorem zq1582 : (Jvm.Cond.code ({ cls := "UnsoldPriceModel", name := "term", desc := "()I" } : Jvm.MethodName) prog_14_method_17_code (5 : Nat) (Option.some Jvm.ClassFile.FieldType.int)) ∈ zTB := zt6 66 rfl rfl
set_option maxRecDepth 20000 in
theorem zq1583 : (Jvm.Cond.methodLink "UnsoldPriceModel" (207 : Nat) ({ cls := "UnsoldPriceModel", name := "atom", desc := "()I" } : Jvm.MethodName)) ∈ zTB := zt6 67 rfl rfl
set_option maxRecDepth 20000 in
theorem zq1585 : (Jvm.Cond.instanceMethod ({ cls := "UnsoldPriceModel", name := "atom", desc := "()I" } : Jvm.MethodName)) ∈ zTB := zt6 69 rfl rfl
set_option maxRecDepth 20000 in
theorem zq1586 : (Jvm.Cond.code ({ cls := "UnsoldPriceModel", name := "atom", desc := "()I" } : Jvm.MethodName) prog_14_method_16_code (4 : Nat) (Option.some Jvm.ClassFile.FieldType.int)) ∈ zTB := zt6 70 rfl rfl
set_option maxRecDepth 20000 in
theorem zq1587 : (Jvm.Cond.methodLink "UnsoldPriceModel" (194 : Nat) ({ cls := "UnsoldPriceModel", name := "goesIn", desc := "()Z" } : Jvm.MethodName)) ∈ zTB := zt6 71 rfl rfl
set_option maxRecDepth 20000 in
theorem zq1589 : (Jvm.Cond.instanceMethod ({ cls := "UnsoldPriceModel", name := "goesIn", desc := "()Z" } : Jvm.MethodName)) ∈ zTB := zt6 73 rfl rfl
set_option maxRecDepth 20000 in
theorem zq1590 : (Jvm.Cond.code ({ cls := "UnsoldPriceModel", name := "goesIn", desc := "()Z" } : Jvm.MethodName) prog_14_method_12_code (1 : Nat) (Option.some Jvm.ClassFile.FieldType.boolean)) ∈ zTB := zt6 74 rfl rfl
set_option maxRecDepth 20000 in
theorem zq1591 : (Jvm.Cond.methodLink "UnsoldPriceModel" (210 : Nat) ({ cls := "UnsoldPriceModel", name := "within", desc := "(J)I" } : Jvm.MethodName)) ∈ zTB := zt6 75 rfl rfl
set_option maxRecDepth 20000 in
theorem zq1592 : (Jvm.Cond.static ({ cls := "UnsoldPriceModel", name := "within", desc := "(J)I" } : Jvm.MethodName)) ∈ zTB := zt6 76 rfl rfl
set_option maxRecDepth 20000 in
theorem zq1593 : (Jvm.Cond.code ({ cls := "UnsoldPriceModel", name := "within", desc := "(J)I" } : Jvm.MethodName) prog_14_method_15_code (2 : Nat) (Option.some Jvm.ClassFile.FieldType.int)) ∈ zTB := zt6 77 rfl rfl
set_option maxRecDepth 20000 in
theorem zq1594 : (Jvm.Cond.constantLong "UnsoldPriceModel" (177 : Nat) (-1000000 : Int64)) ∈ zTB := zt6 78 rfl rfl
set_option maxRecDepth 20000 in
theorem zq1595 : (Jvm.Cond.constantLong "UnsoldPriceModel" (179 : Nat) (1000000 : Int64)) ∈ zTB := zt6 79 rfl rfl
set_option maxRecDepth 20000 in
theorem zq1596 : (Jvm.Cond.methodLink "UnsoldPriceModel" (181 : Nat) ({ cls := "java/lang/Math", name := "min", desc := "(JJ)J" } : Jvm.MethodName)) ∈ zTB := zt6 80 rfl rfl
set_option maxRecDepth 20000 in
theorem zq1597 : (Jvm.Cond.methodLink "UnsoldPriceModel" (187 : Nat) ({ cls := "java/lang/Math", name := "max", desc := "(JJ)J" } : Jvm.MethodName)) ∈ zTB := zt6 81 rfl rfl
set_option maxRecDepth 20000 in
theorem zq1598 : (Jvm.Cond.methodLink "UnsoldPriceModel" (217 : Nat) ({ cls := "UnsoldPriceModel", name := "isSign", desc := "(I)Z" } : Jvm.MethodName)) ∈ zTB := zt6 82 rfl rfl
set_option maxRecDepth 20000 in
theorem zq1599 : (Jvm.Cond.static ({ cls := "UnsoldPriceModel", name := "isSign", desc := "(I)Z" } : Jvm.MethodName)) ∈ zTB := zt6 83 rfl rfl
set_option maxRecDepth 20000 in
theorem zq1600 : (Jvm.Cond.code ({ cls := "UnsoldPriceModel", name := "isSign", desc := "(I)Z" } : Jvm.MethodName) prog_14_method_19_code (1 : Nat) (Option.some Jvm.ClassFile.FieldType.boolean)) ∈ zTB := zt6 84 rfl rfl
set_option maxRecDepth 20000 in
theorem zq1601 : (Jvm.Cond.methodLink "UnsoldPriceModel" (220 : Nat) ({ cls := "UnsoldPriceModel", name := "unit", desc := "()Z" } : Jvm.MethodName)) ∈ zTB := zt6 85 rfl rfl
set_option maxRecDepth 20000 in
theorem zq1603 : (Jvm.Cond.instanceMethod ({ cls := "UnsoldPriceModel", name := "unit", desc := "()Z" } : Jvm.MethodName)) ∈ zTB := zt6 87 rfl rfl
set_option maxRecDepth 20000 in
theorem zq1604 : (Jvm.Cond.code ({ cls := "UnsoldPriceModel", name := "unit", desc := "()Z" } : Jvm.MethodName) prog_14_method_21_code (3 : Nat) (Option.some Jvm.ClassFile.FieldType.boolean)) ∈ zTB := zt6 88 rfl rfl
set_option maxRecDepth 20000 in
theorem zq1606 : (Jvm.Cond.instanceMethod ({ cls := "UnsoldPriceModel", name := "text", desc := "(I)I" } : Jvm.MethodName)) ∈ zTB := zt6 90 rfl rfl
set_option maxRecDepth 20000 in
theorem zq1607 : (Jvm.Cond.selects "UnsoldPriceModel" ({ cls := "UnsoldPriceModel", name := "text", desc := "(I)I" } : Jvm.MethodName) ({ cls := "UnsoldPriceModel", name := "text", desc := "(I)I" } : Jvm.MethodName)) ∈ zTB := zt6 91 rfl rfl
set_option maxRecDepth 20000 in
theorem zq1608 : (Jvm.Cond.code ({ cls := "UnsoldPriceModel", name := "text", desc := "(I)I" } : Jvm.MethodName) prog_14_method_35_code (4 : Nat) (Option.some Jvm.ClassFile.FieldType.int)) ∈ zTB := zt6 92 rfl rfl
set_option maxRecDepth 20000 in
theorem zq1609 : (Jvm.Cond.methodLink "UnsoldPriceModel" (303 : Nat) ({ cls := "UnsoldPriceModel", name := "fault", desc := "(I)I" } : Jvm.MethodName)) ∈ zTB := zt6 93 rfl rfl
set_option maxRecDepth 20000 in
theorem zq1611 : (Jvm.Cond.instanceMethod ({ cls := "UnsoldPriceModel", name := "seller", desc := "(II)I" } : Jvm.MethodName)) ∈ zTB := zt6 95 rfl rfl
set_option maxRecDepth 20000 in
theorem zq1612 : (Jvm.Cond.selects "UnsoldPriceModel" ({ cls := "UnsoldPriceModel", name := "seller", desc := "(II)I" } : Jvm.MethodName) ({ cls := "UnsoldPriceModel", name := "seller", desc := "(II)I" } : Jvm.MethodName)) ∈ zTB := zt6 96 rfl rfl
set_option maxRecDepth 20000 in
theorem zq1613 : (Jvm.Cond.code ({ cls := "UnsoldPriceModel", name := "seller", desc := "(II)I" } : Jvm.MethodName) prog_14_method_37_code (3 : Nat) (Option.some Jvm.ClassFile.FieldType.int)) ∈ zTB := zt6 97 rfl rfl
set_option maxRecDepth 20000 in
theorem zq1614 : (Jvm.Cond.methodLink "UnsoldPriceModel" (323 : Nat) ({ cls := "UnsoldPriceModel", name := "isSeller", desc := "(I)Z" } : Jvm.MethodName)) ∈ zTB := zt6 98 rfl rfl
set_option maxRecDepth 20000 in
theorem zq1616 : (Jvm.Cond.instanceMethod ({ cls := "UnsoldPriceModel", name := "isSeller", desc := "(I)Z" } : Jvm.MethodName)) ∈ zTB := zt6 100 rfl rfl
set_option maxRecDepth 20000 in
theorem zq1617 : (Jvm.Cond.code ({ cls := "UnsoldPriceModel", name := "isSeller", desc := "(I)Z" } : Jvm.MethodName) prog_14_method_36_code (2 : Nat) (Option.some Jvm.ClassFile.FieldType.boolean)) ∈ zTB := zt6 101 rfl rfl
set_option maxRecDepth 20000 in
theorem zq1618 : (Jvm.Cond.constantLong "UnsoldPriceModel" (326 : Nat) (9 : Int64)) ∈ zTB := zt6 102 rfl rfl
set_option maxRecDepth 20000 in
theorem zq1620 : (Jvm.Cond.instanceMethod ({ cls := "UnsoldPriceModel", name := "buyers", desc := "(II)I" } : Jvm.MethodName)) ∈ zTB := zt6 104 rfl rfl
set_option maxRecDepth 20000 in
theorem zq1621 : (Jvm.Cond.selects "UnsoldPriceModel" ({ cls := "UnsoldPriceModel", name := "buyers", desc := "(II)I" } : Jvm.MethodName) ({ cls := "UnsoldPriceModel", name := "buyers", desc := "(II)I" } : Jvm.MethodName)) ∈ zTB := zt6 105 rfl rfl
set_option maxRecDepth 20000 in
theorem zq1622 : (Jvm.Cond.code ({ cls := "UnsoldPriceModel", name := "buyers", desc := "(II)I" } : Jvm.MethodName) prog_14_method_39_code (3 : Nat) (Option.some Jvm.ClassFile.FieldType.int)) ∈ zTB := zt6 106 rfl rfl
set_option maxRecDepth 20000 in
theorem zq1623 : (Jvm.Cond.constantLong "UnsoldPriceModel" (328 : Nat) (3 : Int64)) ∈ zTB := zt6 107 rfl rfl
set_option maxRecDepth 20000 in
theorem zq1624 : (Jvm.Cond.methodLink "UnsoldPriceModel" (330 : Nat) ({ cls := "UnsoldPriceModel", name := "waitingOf", desc := "(I)I" } : Jvm.MethodName)) ∈ zTB := zt6 108 rfl rfl
set_option maxRecDepth 20000 in
theorem zq1626 : (Jvm.Cond.instanceMethod ({ cls := "UnsoldPriceModel", name := "waitingOf", desc := "(I)I" } : Jvm.MethodName)) ∈ zTB := zt6 110 rfl rfl
set_option maxRecDepth 20000 in
theorem zq1627 : (Jvm.Cond.code ({ cls := "UnsoldPriceModel", name := "waitingOf", desc := "(I)I" } : Jvm.MethodName) prog_14_method_38_code (4 : Nat) (Option.some Jvm.ClassFile.FieldType.int)) ∈ zTB := zt6 111 rfl rfl
set_option maxRecDepth 20000 in
theorem zq1629 : (Jvm.Cond.instanceMethod ({ cls := "UnsoldPriceModel", name := "rule", desc := "(II)Z" } : Jvm.MethodName)) ∈ zTB := zt6 113 rfl rfl
set_option maxRecDepth 20000 in
theorem zq1630 : (Jvm.Cond.selects "UnsoldPriceModel" ({ cls := "UnsoldPriceModel", name := "rule", desc := "(II)Z" } : Jvm.MethodName) ({ cls := "UnsoldPriceModel", name := "rule", desc := "(II)Z" } : Jvm.MethodName)) ∈ zTB := zt6 114 rfl rfl
set_option maxRecDepth 20000 in
theorem zq1631 : (Jvm.Cond.code ({ cls := "UnsoldPriceModel", name := "rule", desc := "(II)Z" } : Jvm.MethodName) prog_14_method_40_code (3 : Nat) (Option.some Jvm.ClassFile.FieldType.boolean)) ∈ zTB := zt6 115 rfl rfl
set_option maxRecDepth 20000 in
theorem zq1633 : (Jvm.Cond.instanceMethod ({ cls := "UnsoldPriceModel", name := "hold", desc := "(IZ)Z" } : Jvm.MethodName)) ∈ zTB := zt6 117 rfl rfl
set_option maxRecDepth 20000 in
theorem zq1634 : (Jvm.Cond.selects "UnsoldPriceModel" ({ cls := "UnsoldPriceModel", name := "hold", desc := "(IZ)Z" } : Jvm.MethodName) ({ cls := "UnsoldPriceModel", name := "hold", desc := "(IZ)Z" } : Jvm.MethodName)) ∈ zTB := zt6 118 rfl rfl
set_option maxRecDepth 20000 in
theorem zq1635 : (Jvm.Cond.code ({ cls := "UnsoldPriceModel", name := "hold", desc := "(IZ)Z" } : Jvm.MethodName) prog_14_method_41_code (3 : Nat) (Option.some Jvm.ClassFile.FieldType.boolean)) ∈ zTB := zt6 119 rfl rfl
set_option maxRecDepth 20000 in
theorem zq1637 : (Jvm.Cond.instanceMethod ({ cls := "UnsoldPriceModel", name := "risk", desc := "(I)Z" } : Jvm.MethodName)) ∈ zTB := zt6 121 rfl rfl
set_option maxRecDepth 20000 in
theorem zq1638 : (Jvm.Cond.selects "UnsoldPriceModel" ({ cls := "UnsoldPriceModel", name := "risk", desc := "(I)Z" } : Jvm.MethodName) ({ cls := "UnsoldPriceModel", name := "risk", desc := "(I)Z" } : Jvm.MethodName)) ∈ zTB := zt6 122 rfl rfl
set_option maxRecDepth 20000 in
theorem zq1639 : (Jvm.Cond.code ({ cls := "UnsoldPriceModel", name := "risk", desc := "(I)Z" } : Jvm.MethodName) prog_14_method_42_code (2 : Nat) (Option.some Jvm.ClassFile.FieldType.boolean)) ∈ zTB := zt6 123 rfl rfl
set_option maxRecDepth 20000 in
theorem zq1640 : (Jvm.Cond.constantLong "UnsoldPriceModel" (333 : Nat) (100 : Int64)) ∈ zTB := zt6 124 rfl rfl
set_option maxRecDepth 20000 in
theorem zq1642 : (Jvm.Cond.instanceMethod ({ cls := "UnsoldPriceModel", name := "seed", desc := "(J)Z" } : Jvm.MethodName)) ∈ zTB := zt6 126 rfl rfl
set_option maxRecDepth 20000 in
theorem zq1643 : (Jvm.Cond.selects "UnsoldPriceModel" ({ cls := "UnsoldPriceModel", name := "seed", desc := "(J)Z" } : Jvm.MethodName) ({ cls := "UnsoldPriceModel", name := "seed", desc := "(J)Z" } : Jvm.MethodName)) ∈ zTB := zt6 127 rfl rfl
set_option maxRecDepth 20000 in
theorem zq1644 : (Jvm.Cond.code ({ cls := "UnsoldPriceModel", name := "seed", desc := "(J)Z" } : Jvm.MethodName) prog_14_method_43_code (3 : Nat) (Option.some Jvm.ClassFile.FieldType.boolean)) ∈ zTB := zt6 128 rfl rfl
set_option maxRecDepth 20000 in
theorem zq1646 : (Jvm.Cond.instanceMethod ({ cls := "UnsoldPriceModel", name := "days", desc := "(I)I" } : Jvm.MethodName)) ∈ zTB := zt6 130 rfl rfl
set_option maxRecDepth 20000 in
theorem zq1647 : (Jvm.Cond.selects "UnsoldPriceModel" ({ cls := "UnsoldPriceModel", name := "days", desc := "(I)I" } : Jvm.MethodName) ({ cls := "UnsoldPriceModel", name := "days", desc := "(I)I" } : Jvm.MethodName)) ∈ zTB := zt6 131 rfl rfl
set_option maxRecDepth 20000 in
theorem zq1648 : (Jvm.Cond.code ({ cls := "UnsoldPriceModel", name := "days", desc := "(I)I" } : Jvm.MethodName) prog_14_method_55_code (4 : Nat) (Option.some Jvm.ClassFile.FieldType.int)) ∈ zTB := zt6 132 rfl rfl
set_option maxRecDepth 20000 in
theorem zq1649 : (Jvm.Cond.methodLink "UnsoldPriceModel" (390 : Nat) ({ cls := "UnsoldPriceModel", name := "isReady", desc := "(I)Z" } : Jvm.MethodName)) ∈ zTB := zt6 133 rfl rfl
set_option maxRecDepth 20000 in
theorem zq1651 : (Jvm.Cond.instanceMethod ({ cls := "UnsoldPriceModel", name := "isReady", desc := "(I)Z" } : Jvm.MethodName)) ∈ zTB := zt6 135 rfl rfl
set_option maxRecDepth 20000 in
theorem zq1652 : (Jvm.Cond.code ({ cls := "UnsoldPriceModel", name := "isReady", desc := "(I)Z" } : Jvm.MethodName) prog_14_method_54_code (2 : Nat) (Option.some Jvm.ClassFile.FieldType.boolean)) ∈ zTB := zt6 136 rfl rfl
set_option maxRecDepth 20000 in
theorem zq1653 : (Jvm.Cond.methodLink "UnsoldPriceModel" (387 : Nat) ({ cls := "UnsoldPriceModel", name := "areDays", desc := "(I)Z" } : Jvm.MethodName)) ∈ zTB := zt6 137 rfl rfl
set_option maxRecDepth 20000 in
theorem zq1654 : (Jvm.Cond.static ({ cls := "UnsoldPriceModel", name := "areDays", desc := "(I)Z" } : Jvm.MethodName)) ∈ zTB := zt6 138 rfl rfl
set_option maxRecDepth 20000 in
theorem zq1655 : (Jvm.Cond.code ({ cls := "UnsoldPriceModel", name := "areDays", desc := "(I)Z" } : Jvm.MethodName) prog_14_method_53_code (1 : Nat) (Option.some Jvm.ClassFile.FieldType.boolean)) ∈ zTB := zt6 139 rfl rfl
set_option maxRecDepth 20000 in
theorem zq1656 : (Jvm.Cond.constantLong "UnsoldPriceModel" (385 : Nat) (30 : Int64)) ∈ zTB := zt6 140 rfl rfl
set_option maxRecDepth 20000 in
theorem zq1657 : (Jvm.Cond.methodLink "UnsoldPriceModel" (393 : Nat) ({ cls := "UnsoldPriceModel", name := "plainly", desc := "()V" } : Jvm.MethodName)) ∈ zTB := zt6 141 rfl rfl
set_option maxRecDepth 20000 in
theorem zq1659 : (Jvm.Cond.instanceMethod ({ cls := "UnsoldPriceModel", name := "plainly", desc := "()V" } : Jvm.MethodName)) ∈ zTB := zt6 143 rfl rfl
set_option maxRecDepth 20000 in
theorem zq1660 : (Jvm.Cond.code ({ cls := "UnsoldPriceModel", name := "plainly", desc := "()V" } : Jvm.MethodName) prog_14_method_52_code (2 : Nat) (Option.none : Option Jvm.ClassFile.FieldType)) ∈ zTB := zt6 144 rfl rfl
set_option maxRecDepth 20000 in
theorem zq1661 : (Jvm.Cond.constantLong "UnsoldPriceModel" (396 : Nat) (6364136223846793005 : Int64)) ∈ zTB := zt6 145 rfl rfl
set_option maxRecDepth 20000 in
theorem zq1662 : (Jvm.Cond.constantLong "UnsoldPriceModel" (398 : Nat) (1442695040888963407 : Int64)) ∈ zTB := zt6 146 rfl rfl
set_option maxRecDepth 20000 in
theorem zq1663 : (Jvm.Cond.methodLink "UnsoldPriceModel" (400 : Nat) ({ cls := "UnsoldPriceModel", name := "goes", desc := "(Z)V" } : Jvm.MethodName)) ∈ zTB := zt6 147 rfl rfl
set_option maxRecDepth 20000 in
theorem zq1665 : (Jvm.Cond.instanceMethod ({ cls := "UnsoldPriceModel", name := "goes", desc := "(Z)V" } : Jvm.MethodName)) ∈ zTB := zt6 149 rfl rfl
set_option maxRecDepth 20000 in
theorem zq1666 : (Jvm.Cond.code ({ cls := "UnsoldPriceModel", name := "goes", desc := "(Z)V" } : Jvm.MethodName) prog_14_method_51_code (4 : Nat) (Option.none : Option Jvm.ClassFile.FieldType)) ∈ zTB := zt6 150 rfl rfl
set_option maxRecDepth 20000 in
theorem zq1667 : (Jvm.Cond.methodLink "UnsoldPriceModel" (345 : Nat) ({ cls := "java/lang/Math", name := "min", desc := "(II)I" } : Jvm.MethodName)) ∈ zTB := zt6 151 rfl rfl
set_option maxRecDepth 20000 in
theorem zq1668 : (Jvm.Cond.methodLink "UnsoldPriceModel" (373 : Nat) ({ cls := "UnsoldPriceModel", name := "askOf", desc := "(I)I" } : Jvm.MethodName)) ∈ zTB := zt6 152 rfl rfl
set_option maxRecDepth 20000 in
theorem zq1670 : (Jvm.Cond.instanceMethod ({ cls := "UnsoldPriceModel", name := "askOf", desc := "(I)I" } : Jvm.MethodName)) ∈ zTB := zt6 154 rfl rfl
set_option maxRecDepth 20000 in
theorem zq1671 : (Jvm.Cond.code ({ cls := "UnsoldPriceModel", name := "askOf", desc := "(I)I" } : Jvm.MethodName) prog_14_method_44_code (5 : Nat) (Option.some Jvm.ClassFile.FieldType.int)) ∈ zTB := zt6 155 rfl rfl
set_option maxRecDepth 20000 in
theorem zq1672 : (Jvm.Cond.methodLink "UnsoldPriceModel" (347 : Nat) ({ cls := "java/lang/Math", name := "max", desc := "(II)I" } : Jvm.MethodName)) ∈ zTB := zt6 156 rfl rfl
set_option maxRecDepth 20000 in
theorem zq1673 : (Jvm.Cond.methodLink "UnsoldPriceModel" (379 : Nat) ({ cls := "UnsoldPriceModel", name := "serveAll", desc := "()V" } : Jvm.MethodName)) ∈ zTB := zt6 157 rfl rfl
set_option maxRecDepth 20000 in
theorem zq1675 : (Jvm.Cond.instanceMethod ({ cls := "UnsoldPriceModel", name := "serveAll", desc := "()V" } : Jvm.MethodName)) ∈ zTB := zt6 159 rfl rfl
set_option maxRecDepth 20000 in
theorem zq1676 : (Jvm.Cond.code ({ cls := "UnsoldPriceModel", name := "serveAll", desc := "()V" } : Jvm.MethodName) prog_14_method_49_code (3 : Nat) (Option.none : Option Jvm.ClassFile.FieldType)) ∈ zTB := zt6 160 rfl rfl
set_option maxRecDepth 20000 in
theorem zq1677 : (Jvm.Cond.methodLink "UnsoldPriceModel" (364 : Nat) ({ cls := "UnsoldPriceModel", name := "serve", desc := "(I)V" } : Jvm.MethodName)) ∈ zTB := zt6 161 rfl rfl
set_option maxRecDepth 20000 in
theorem zq1679 : (Jvm.Cond.instanceMethod ({ cls := "UnsoldPriceModel", name := "serve", desc := "(I)V" } : Jvm.MethodName)) ∈ zTB := zt6 163 rfl rfl
set_option maxRecDepth 20000 in
theorem zq1680 : (Jvm.Cond.code ({ cls := "UnsoldPriceModel", name := "serve", desc := "(I)V" } : Jvm.MethodName) prog_14_method_48_code (6 : Nat) (Option.none : Option Jvm.ClassFile.FieldType)) ∈ zTB := zt6 164 rfl rfl
set_option maxRecDepth 20000 in
theorem zq1681 : (Jvm.Cond.methodLink "UnsoldPriceModel" (361 : Nat) ({ cls := "UnsoldPriceModel", name := "buys", desc := "(I)Z" } : Jvm.MethodName)) ∈ zTB := zt6 165 rfl rfl
set_option maxRecDepth 20000 in
theorem zq1683 : (Jvm.Cond.instanceMethod ({ cls := "UnsoldPriceModel", name := "buys", desc := "(I)Z" } : Jvm.MethodName)) ∈ zTB := zt6 167 rfl rfl
set_option maxRecDepth 20000 in
theorem zq1684 : (Jvm.Cond.code ({ cls := "UnsoldPriceModel", name := "buys", desc := "(I)Z" } : Jvm.MethodName) prog_14_method_47_code (3 : Nat) (Option.some Jvm.ClassFile.FieldType.boolean)) ∈ zTB := zt6 168 rfl rfl
set_option maxRecDepth 20000 in
theorem zq1685 : (Jvm.Cond.methodLink "UnsoldPriceModel" (358 : Nat) ({ cls := "UnsoldPriceModel", name := "cheapest", desc := "()I" } : Jvm.MethodName)) ∈ zTB := zt6 169 rfl rfl
set_option maxRecDepth 20000 in
theorem zq1687 : (Jvm.Cond.instanceMethod ({ cls := "UnsoldPriceModel", name := "cheapest", desc := "()I" } : Jvm.MethodName)) ∈ zTB := zt6 171 rfl rfl
set_option maxRecDepth 20000 in
theorem zq1688 : (Jvm.Cond.code ({ cls := "UnsoldPriceModel", name := "cheapest", desc := "()I" } : Jvm.MethodName) prog_14_method_46_code (3 : Nat) (Option.some Jvm.ClassFile.FieldType.int)) ∈ zTB := zt6 172 rfl rfl
set_option maxRecDepth 20000 in
theorem zq1689 : (Jvm.Cond.methodLink "UnsoldPriceModel" (355 : Nat) ({ cls := "UnsoldPriceModel", name := "isSelling", desc := "(I)Z" } : Jvm.MethodName)) ∈ zTB := zt6 173 rfl rfl
set_option maxRecDepth 20000 in
theorem zq1691 : (Jvm.Cond.instanceMethod ({ cls := "UnsoldPriceModel", name := "isSelling", desc := "(I)Z" } : Jvm.MethodName)) ∈ zTB := zt6 175 rfl rfl
set_option maxRecDepth 20000 in
theorem zq1692 : (Jvm.Cond.code ({ cls := "UnsoldPriceModel", name := "isSelling", desc := "(I)Z" } : Jvm.MethodName) prog_14_method_45_code (2 : Nat) (Option.some Jvm.ClassFile.FieldType.boolean)) ∈ zTB := zt6 176 rfl rfl
set_option maxRecDepth 20000 in
theorem zq1693 : (Jvm.Cond.methodLink "UnsoldPriceModel" (382 : Nat) ({ cls := "UnsoldPriceModel", name := "board", desc := "()V" } : Jvm.MethodName)) ∈ zTB := zt6 177 rfl rfl
set_option maxRecDepth 20000 in
theorem zq1695 : (Jvm.Cond.instanceMethod ({ cls := "UnsoldPriceModel", name := "board", desc := "()V" } : Jvm.MethodName)) ∈ zTB := zt6 179 rfl rfl
set_option maxRecDepth 20000 in
theorem zq1696 : (Jvm.Cond.code ({ cls := "UnsoldPriceModel", name := "board", desc := "()V" } : Jvm.MethodName) prog_14_method_50_code (5 : Nat) (Option.none : Option Jvm.ClassFile.FieldType)) ∈ zTB := zt6 180 rfl rfl
set_option maxRecDepth 20000 in
theorem zq1698 : (Jvm.Cond.instanceMethod ({ cls := "UnsoldPriceModel", name := "ahead", desc := "(I)I" } : Jvm.MethodName)) ∈ zTB := zt6 182 rfl rfl
set_option maxRecDepth 20000 in
theorem zq1699 : (Jvm.Cond.selects "UnsoldPriceModel" ({ cls := "UnsoldPriceModel", name := "ahead", desc := "(I)I" } : Jvm.MethodName) ({ cls := "UnsoldPriceModel", name := "ahead", desc := "(I)I" } : Jvm.MethodName)) ∈ zTB := zt6 183 rfl rfl
set_option maxRecDepth 20000 in
theorem zq1700 : (Jvm.Cond.code ({ cls := "UnsoldPriceModel", name := "ahead", desc := "(I)I" } : Jvm.MethodName) prog_14_method_60_code (2 : Nat) (Option.some Jvm.ClassFile.FieldType.int)) ∈ zTB := zt6 184 rfl rfl
set_option maxRecDepth 20000 in
theorem zq1701 : (Jvm.Cond.methodLink "UnsoldPriceModel" (404 : Nat) ({ cls := "UnsoldPriceModel", name := "keep", desc := "()V" } : Jvm.MethodName)) ∈ zTB := zt6 185 rfl rfl
set_option maxRecDepth 20000 in
theorem zq1703 : (Jvm.Cond.instanceMethod ({ cls := "UnsoldPriceModel", name := "keep", desc := "()V" } : Jvm.MethodName)) ∈ zTB := zt6 187 rfl rfl
set_option maxRecDepth 20000 in
theorem zq1704 : (Jvm.Cond.code ({ cls := "UnsoldPriceModel", name := "keep", desc := "()V" } : Jvm.MethodName) prog_14_method_56_code (2 : Nat) (Option.none : Option Jvm.ClassFile.FieldType)) ∈ zTB := zt6 188 rfl rfl
set_option maxRecDepth 20000 in
theorem zq1705 : (Jvm.Cond.methodLink "UnsoldPriceModel" (407 : Nat) ({ cls := "UnsoldPriceModel", name := "tries", desc := "(I)V" } : Jvm.MethodName)) ∈ zTB := zt6 189 rfl rfl
set_option maxRecDepth 20000 in
theorem zq1707 : (Jvm.Cond.instanceMethod ({ cls := "UnsoldPriceModel", name := "tries", desc := "(I)V" } : Jvm.MethodName)) ∈ zTB := zt6 191 rfl rfl
set_option maxRecDepth 20000 in
theorem zq1708 : (Jvm.Cond.code ({ cls := "UnsoldPriceModel", name := "tries", desc := "(I)V" } : Jvm.MethodName) prog_14_method_58_code (3 : Nat) (Option.none : Option Jvm.ClassFile.FieldType)) ∈ zTB := zt6 192 rfl rfl
set_option maxRecDepth 20000 in
theorem zq1709 : (Jvm.Cond.methodLink "UnsoldPriceModel" (410 : Nat) ({ cls := "UnsoldPriceModel", name := "putBack", desc := "()V" } : Jvm.MethodName)) ∈ zTB := zt6 193 rfl rfl
set_option maxRecDepth 20000 in
theorem zq1711 : (Jvm.Cond.instanceMethod ({ cls := "UnsoldPriceModel", name := "putBack", desc := "()V" } : Jvm.MethodName)) ∈ zTB := zt6 195 rfl rfl
set_option maxRecDepth 20000 in
theorem zq1712 : (Jvm.Cond.code ({ cls := "UnsoldPriceModel", name := "putBack", desc := "()V" } : Jvm.MethodName) prog_14_method_57_code (2 : Nat) (Option.none : Option Jvm.ClassFile.FieldType)) ∈ zTB := zt6 196 rfl rfl
set_option maxRecDepth 20000 in
theorem zq1714 : (Jvm.Cond.instanceMethod ({ cls := "UnsoldPriceModel", name := "falls", desc := "(II)I" } : Jvm.MethodName)) ∈ zTB := zt6 198 rfl rfl
set_option maxRecDepth 20000 in
theorem zq1715 : (Jvm.Cond.selects "UnsoldPriceModel" ({ cls := "UnsoldPriceModel", name := "falls", desc := "(II)I" } : Jvm.MethodName) ({ cls := "UnsoldPriceModel", name := "falls", desc := "(II)I" } : Jvm.MethodName)) ∈ zTB := zt6 199 rfl rfl
set_option maxRecDepth 20000 in
theorem zq1716 : (Jvm.Cond.code ({ cls := "UnsoldPriceModel", name := "falls", desc := "(II)I" } : Jvm.MethodName) prog_14_method_61_code (6 : Nat) (Option.some Jvm.ClassFile.FieldType.int)) ∈ zTB := zt6 200 rfl rfl
set_option maxRecDepth 20000 in
theorem zq1717 : (Jvm.Cond.methodLink "UnsoldPriceModel" (413 : Nat) ({ cls := "UnsoldPriceModel", name := "jumpMany", desc := "(I)I" } : Jvm.MethodName)) ∈ zTB := zt6 201 rfl rfl
set_option maxRecDepth 20000 in
theorem zq1719 : (Jvm.Cond.instanceMethod ({ cls := "UnsoldPriceModel", name := "jumpMany", desc := "(I)I" } : Jvm.MethodName)) ∈ zTB := zt6 203 rfl rfl
set_option maxRecDepth 20000 in
theorem zq1720 : (Jvm.Cond.code ({ cls := "UnsoldPriceModel", name := "jumpMany", desc := "(I)I" } : Jvm.MethodName) prog_14_method_59_code (4 : Nat) (Option.some Jvm.ClassFile.FieldType.int)) ∈ zTB := zt6 204 rfl rfl
set_option maxRecDepth 20000 in
theorem zq1722 : (Jvm.Cond.instanceMethod ({ cls := "UnsoldPriceModel", name := "ring", desc := "(I)I" } : Jvm.MethodName)) ∈ zTB := zt6 206 rfl rfl
set_option maxRecDepth 20000 in
theorem zq1723 : (Jvm.Cond.selects "UnsoldPriceModel" ({ cls := "UnsoldPriceModel", name := "ring", desc := "(I)I" } : Jvm.MethodName) ({ cls := "UnsoldPriceModel", name := "ring", desc := "(I)I" } : Jvm.MethodName)) ∈ zTB := zt6 207 rfl rfl
set_option maxRecDepth 20000 in
theorem zq1724 : (Jvm.Cond.code ({ cls := "UnsoldPriceModel", name := "ring", desc := "(I)I" } : Jvm.MethodName) prog_14_method_64_code (6 : Nat) (Option.some Jvm.ClassFile.FieldType.int)) ∈ zTB := zt6 208 rfl rfl
set_option maxRecDepth 20000 in
theorem zq1725 : (Jvm.Cond.methodLink "UnsoldPriceModel" (416 : Nat) ({ cls := "UnsoldPriceModel", name := "keepState", desc := "(I)V" } : Jvm.MethodName)) ∈ zTB := zt6 209 rfl rfl
set_option maxRecDepth 20000 in
theorem zq1727 : (Jvm.Cond.instanceMethod ({ cls := "UnsoldPriceModel", name := "keepState", desc := "(I)V" } : Jvm.MethodName)) ∈ zTB := zt6 211 rfl rfl
set_option maxRecDepth 20000 in
theorem zq1728 : (Jvm.Cond.code ({ cls := "UnsoldPriceModel", name := "keepState", desc := "(I)V" } : Jvm.MethodName) prog_14_method_62_code (4 : Nat) (Option.none : Option Jvm.ClassFile.FieldType)) ∈ zTB := zt6 212 rfl rfl
set_option maxRecDepth 20000 in
theorem zq1729 : (Jvm.Cond.methodLink "UnsoldPriceModel" (419 : Nat) ({ cls := "UnsoldPriceModel", name := "areAlike", desc := "(II)Z" } : Jvm.MethodName)) ∈ zTB := zt6 213 rfl rfl
set_option maxRecDepth 20000 in
theorem zq1731 : (Jvm.Cond.instanceMethod ({ cls := "UnsoldPriceModel", name := "areAlike", desc := "(II)Z" } : Jvm.MethodName)) ∈ zTB := zt6 215 rfl rfl
set_option maxRecDepth 20000 in
theorem zq1732 : (Jvm.Cond.code ({ cls := "UnsoldPriceModel", name := "areAlike", desc := "(II)Z" } : Jvm.MethodName) prog_14_method_63_code (4 : Nat) (Option.some Jvm.ClassFile.FieldType.boolean)) ∈ zTB := zt6 216 rfl rfl
set_option maxRecDepth 20000 in
theorem zq1734 : (Jvm.Cond.instanceMethod ({ cls := "UnsoldPriceModel", name := "best", desc := "(III)I" } : Jvm.MethodName)) ∈ zTB := zt6 218 rfl rfl
set_option maxRecDepth 20000 in
theorem zq1735 : (Jvm.Cond.selects "UnsoldPriceModel" ({ cls := "UnsoldPriceModel", name := "best", desc := "(III)I" } : Jvm.MethodName) ({ cls := "UnsoldPriceModel", name := "best", desc := "(III)I" } : Jvm.MethodName)) ∈ zTB := zt6 219 rfl rfl
set_option maxRecDepth 20000 in
theorem zq1736 : (Jvm.Cond.code ({ cls := "UnsoldPriceModel", name := "best", desc := "(III)I" } : Jvm.MethodName) prog_14_method_66_code (4 : Nat) (Option.some Jvm.ClassFile.FieldType.int)) ∈ zTB := zt6 220 rfl rfl
set_option maxRecDepth 20000 in
theorem zq1737 : (Jvm.Cond.constant "UnsoldPriceModel" (432 : Nat) (-1000000 : Int32)) ∈ zTB := zt6 221 rfl rfl
set_option maxRecDepth 20000 in
theorem zq1738 : (Jvm.Cond.methodLink "UnsoldPriceModel" (428 : Nat) ({ cls := "UnsoldPriceModel", name := "goBest", desc := "(III)V" } : Jvm.MethodName)) ∈ zTB := zt6 222 rfl rfl
set_option maxRecDepth 20000 in
theorem zq1740 : (Jvm.Cond.instanceMethod ({ cls := "UnsoldPriceModel", name := "goBest", desc := "(III)V" } : Jvm.MethodName)) ∈ zTB := zt6 224 rfl rfl
set_option maxRecDepth 20000 in
theorem zq1741 : (Jvm.Cond.code ({ cls := "UnsoldPriceModel", name := "goBest", desc := "(III)V" } : Jvm.MethodName) prog_14_method_65_code (7 : Nat) (Option.none : Option Jvm.ClassFile.FieldType)) ∈ zTB := zt6 225 rfl rfl
set_option maxRecDepth 20000 in
theorem zq1743 : (Jvm.Cond.instanceMethod ({ cls := "UnsoldPriceModel", name := "rest", desc := "(I)I" } : Jvm.MethodName)) ∈ zTB := zt6 227 rfl rfl
set_option maxRecDepth 20000 in
theorem zq1744 : (Jvm.Cond.selects "UnsoldPriceModel" ({ cls := "UnsoldPriceModel", name := "rest", desc := "(I)I" } : Jvm.MethodName) ({ cls := "UnsoldPriceModel", name := "rest", desc := "(I)I" } : Jvm.MethodName)) ∈ zTB := zt6 228 rfl rfl
set_option maxRecDepth 20000 in
theorem zq1745 : (Jvm.Cond.code ({ cls := "UnsoldPriceModel", name := "rest", desc := "(I)I" } : Jvm.MethodName) prog_14_method_70_code (2 : Nat) (Option.some Jvm.ClassFile.FieldType.int)) ∈ zTB := zt6 229 rfl rfl
set_option maxRecDepth 20000 in
theorem zq1746 : (Jvm.Cond.methodLink "UnsoldPriceModel" (448 : Nat) ({ cls := "UnsoldPriceModel", name := "goRests", desc := "(II)V" } : Jvm.MethodName)) ∈ zTB := zt6 230 rfl rfl
set_option maxRecDepth 20000 in
theorem zq1748 : (Jvm.Cond.instanceMethod ({ cls := "UnsoldPriceModel", name := "goRests", desc := "(II)V" } : Jvm.MethodName)) ∈ zTB := zt6 232 rfl rfl
set_option maxRecDepth 20000 in
theorem zq1749 : (Jvm.Cond.code ({ cls := "UnsoldPriceModel", name := "goRests", desc := "(II)V" } : Jvm.MethodName) prog_14_method_69_code (4 : Nat) (Option.none : Option Jvm.ClassFile.FieldType)) ∈ zTB := zt6 233 rfl rfl
set_option maxRecDepth 20000 in
theorem zq1750 : (Jvm.Cond.methodLink "UnsoldPriceModel" (436 : Nat) ({ cls := "UnsoldPriceModel", name := "isRest", desc := "()Z" } : Jvm.MethodName)) ∈ zTB := zt6 234 rfl rfl
set_option maxRecDepth 20000 in
theorem zq1752 : (Jvm.Cond.instanceMethod ({ cls := "UnsoldPriceModel", name := "isRest", desc := "()Z" } : Jvm.MethodName)) ∈ zTB := zt6 236 rfl rfl
set_option maxRecDepth 20000 in
theorem zq1753 : (Jvm.Cond.code ({ cls := "UnsoldPriceModel", name := "isRest", desc := "()Z" } : Jvm.MethodName) prog_14_method_68_code (6 : Nat) (Option.some Jvm.ClassFile.FieldType.boolean)) ∈ zTB := zt6 237 rfl rfl
set_option maxRecDepth 20000 in
theorem zq1754 : (Jvm.Cond.methodLink "UnsoldPriceModel" (433 : Nat) ({ cls := "UnsoldPriceModel", name := "takenBy", desc := "(I)I" } : Jvm.MethodName)) ∈ zTB := zt6 238 rfl rfl
set_option maxRecDepth 20000 in
theorem zq1756 : (Jvm.Cond.instanceMethod ({ cls := "UnsoldPriceModel", name := "takenBy", desc := "(I)I" } : Jvm.MethodName)) ∈ zTB := zt7 0 rfl rfl
set_option maxRecDepth 20000 in
theorem zq1757 : (Jvm.Cond.code ({ cls := "UnsoldPriceModel", name := "takenBy", desc := "(I)I" } : Jvm.MethodName) prog_14_method_67_code (3 : Nat) (Option.some Jvm.ClassFile.FieldType.int)) ∈ zTB := zt7 1 rfl rfl
set_option maxRecDepth 20000 in
theorem zq1759 : (Jvm.Cond.instanceMethod ({ cls := "UnsoldPriceModel", name := "fool", desc := "(III)I" } : Jvm.MethodName)) ∈ zTB := zt7 3 rfl rfl
set_option maxRecDepth 20000 in
theorem zq1760 : (Jvm.Cond.selects "UnsoldPriceModel" ({ cls := "UnsoldPriceModel", name := "fool", desc := "(III)I" } : Jvm.MethodName) ({ cls := "UnsoldPriceModel", name := "fool", desc := "(III)I" } : Jvm.MethodName)) ∈ zTB := zt7 4 rfl rfl
set_option maxRecDepth 20000 in
theorem zq1761 : (Jvm.Cond.code ({ cls := "UnsoldPriceModel", name := "fool", desc := "(III)I" } : Jvm.MethodName) prog_14_method_72_code (6 : Nat) (Option.some Jvm.ClassFile.FieldType.int)) ∈ zTB := zt7 5 rfl rfl
set_option maxRecDepth 20000 in
theorem zq1762 : (Jvm.Cond.methodLink "UnsoldPriceModel" (452 : Nat) ({ cls := "UnsoldPriceModel", name := "gainsBy", desc := "(IIIZ)I" } : Jvm.MethodName)) ∈ zTB := zt7 6 rfl rfl
set_option maxRecDepth 20000 in
theorem zq1764 : (Jvm.Cond.instanceMethod ({ cls := "UnsoldPriceModel", name := "gainsBy", desc := "(IIIZ)I" } : Jvm.MethodName)) ∈ zTB := zt7 8 rfl rfl
set_option maxRecDepth 20000 in
theorem zq1765 : (Jvm.Cond.code ({ cls := "UnsoldPriceModel", name := "gainsBy", desc := "(IIIZ)I" } : Jvm.MethodName) prog_14_method_71_code (7 : Nat) (Option.some Jvm.ClassFile.FieldType.int)) ∈ zTB := zt7 9 rfl rfl
set_option maxRecDepth 20000 in
theorem zq1767 : (Jvm.Cond.instanceMethod ({ cls := "UnsoldPriceModel", name := "up", desc := "(II)I" } : Jvm.MethodName)) ∈ zTB := zt7 11 rfl rfl
set_option maxRecDepth 20000 in
theorem zq1768 : (Jvm.Cond.selects "UnsoldPriceModel" ({ cls := "UnsoldPriceModel", name := "up", desc := "(II)I" } : Jvm.MethodName) ({ cls := "UnsoldPriceModel", name := "up", desc := "(II)I" } : Jvm.MethodName)) ∈ zTB := zt7 12 rfl rfl
set_option maxRecDepth 20000 in
theorem zq1769 : (Jvm.Cond.code ({ cls := "UnsoldPriceModel", name := "up", desc := "(II)I" } : Jvm.MethodName) prog_14_method_73_code (5 : Nat) (Option.some Jvm.ClassFile.FieldType.int)) ∈ zTB := zt7 13 rfl rfl
set_option maxRecDepth 20000 in
theorem zq1770 : (Jvm.Cond.constantLong "UnsoldPriceModel" (456 : Nat) (20 : Int64)) ∈ zTB := zt7 14 rfl rfl
set_option maxRecDepth 20000 in
theorem zq1771 : (Jvm.Cond.methodLink "UnsoldPriceModel" (458 : Nat) ({ cls := "java/lang/Integer", name := "bitCount", desc := "(I)I" } : Jvm.MethodName)) ∈ zTB := zt7 15 rfl rfl
set_option maxRecDepth 20000 in
theorem zq1773 : (Jvm.Cond.instanceMethod ({ cls := "UnsoldPriceModel", name := "when", desc := "(II)I" } : Jvm.MethodName)) ∈ zTB := zt7 17 rfl rfl
set_option maxRecDepth 20000 in
theorem zq1774 : (Jvm.Cond.selects "UnsoldPriceModel" ({ cls := "UnsoldPriceModel", name := "when", desc := "(II)I" } : Jvm.MethodName) ({ cls := "UnsoldPriceModel", name := "when", desc := "(II)I" } : Jvm.MethodName)) ∈ zTB := zt7 18 rfl rfl
set_option maxRecDepth 20000 in
theorem zq1775 : (Jvm.Cond.code ({ cls := "UnsoldPriceModel", name := "when", desc := "(II)I" } : Jvm.MethodName) prog_14_method_74_code (7 : Nat) (Option.some Jvm.ClassFile.FieldType.int)) ∈ zTB := zt7 19 rfl rfl
set_option maxRecDepth 20000 in
theorem zq1777 : (Jvm.Cond.instanceMethod ({ cls := "UnsoldPriceModel", name := "stranger", desc := "(III)I" } : Jvm.MethodName)) ∈ zTB := zt7 21 rfl rfl
set_option maxRecDepth 20000 in
theorem zq1778 : (Jvm.Cond.selects "UnsoldPriceModel" ({ cls := "UnsoldPriceModel", name := "stranger", desc := "(III)I" } : Jvm.MethodName) ({ cls := "UnsoldPriceModel", name := "stranger", desc := "(III)I" } : Jvm.MethodName)) ∈ zTB := zt7 22 rfl rfl
set_option maxRecDepth 20000 in
theorem zq1779 : (Jvm.Cond.code ({ cls := "UnsoldPriceModel", name := "stranger", desc := "(III)I" } : Jvm.MethodName) prog_14_method_76_code (7 : Nat) (Option.some Jvm.ClassFile.FieldType.int)) ∈ zTB := zt7 23 rfl rfl
set_option maxRecDepth 20000 in
theorem zq1780 : (Jvm.Cond.constantLong "UnsoldPriceModel" (463 : Nat) (99 : Int64)) ∈ zTB := zt7 24 rfl rfl
set_option maxRecDepth 20000 in
theorem zq1781 : (Jvm.Cond.constantLong "UnsoldPriceModel" (465 : Nat) (2 : Int64)) ∈ zTB := zt7 25 rfl rfl
set_option maxRecDepth 20000 in
theorem zq1782 : (Jvm.Cond.methodLink "UnsoldPriceModel" (467 : Nat) ({ cls := "UnsoldPriceModel", name := "takenByAll", desc := "()I" } : Jvm.MethodName)) ∈ zTB := zt7 26 rfl rfl
set_option maxRecDepth 20000 in
theorem zq1784 : (Jvm.Cond.instanceMethod ({ cls := "UnsoldPriceModel", name := "takenByAll", desc := "()I" } : Jvm.MethodName)) ∈ zTB := zt7 28 rfl rfl
set_option maxRecDepth 20000 in
theorem zq1785 : (Jvm.Cond.code ({ cls := "UnsoldPriceModel", name := "takenByAll", desc := "()I" } : Jvm.MethodName) prog_14_method_75_code (3 : Nat) (Option.some Jvm.ClassFile.FieldType.int)) ∈ zTB := zt7 29 rfl rfl
set_option maxRecDepth 20000 in
theorem zq1787 : (Jvm.Cond.instanceMethod ({ cls := "UnsoldPriceModel", name := "see", desc := "(II)I" } : Jvm.MethodName)) ∈ zTB := zt7 31 rfl rfl
set_option maxRecDepth 20000 in
theorem zq1788 : (Jvm.Cond.selects "UnsoldPriceModel" ({ cls := "UnsoldPriceModel", name := "see", desc := "(II)I" } : Jvm.MethodName) ({ cls := "UnsoldPriceModel", name := "see", desc := "(II)I" } : Jvm.MethodName)) ∈ zTB := zt7 32 rfl rfl
set_option maxRecDepth 20000 in
theorem zq1789 : (Jvm.Cond.code ({ cls := "UnsoldPriceModel", name := "see", desc := "(II)I" } : Jvm.MethodName) prog_14_method_77_code (3 : Nat) (Option.some Jvm.ClassFile.FieldType.int)) ∈ zTB := zt7 33 rfl rfl
set_option maxRecDepth 20000 in
theorem zq1791 : (Jvm.Cond.instanceMethod ({ cls := "UnsoldPriceModel", name := "fits", desc := "(I)I" } : Jvm.MethodName)) ∈ zTB := zt7 35 rfl rfl
set_option maxRecDepth 20000 in
theorem zq1792 : (Jvm.Cond.selects "UnsoldPriceModel" ({ cls := "UnsoldPriceModel", name := "fits", desc := "(I)I" } : Jvm.MethodName) ({ cls := "UnsoldPriceModel", name := "fits", desc := "(I)I" } : Jvm.MethodName)) ∈ zTB := zt7 36 rfl rfl
set_option maxRecDepth 20000 in
theorem zq1793 : (Jvm.Cond.code ({ cls := "UnsoldPriceModel", name := "fits", desc := "(I)I" } : Jvm.MethodName) prog_14_method_78_code (7 : Nat) (Option.some Jvm.ClassFile.FieldType.int)) ∈ zTB := zt7 37 rfl rfl
set_option maxRecDepth 20000 in
theorem zq1795 : (Jvm.Cond.instanceMethod ({ cls := "UnsoldPriceModel", name := "other", desc := "(III)I" } : Jvm.MethodName)) ∈ zTB := zt7 39 rfl rfl
set_option maxRecDepth 20000 in
theorem zq1796 : (Jvm.Cond.selects "UnsoldPriceModel" ({ cls := "UnsoldPriceModel", name := "other", desc := "(III)I" } : Jvm.MethodName) ({ cls := "UnsoldPriceModel", name := "other", desc := "(III)I" } : Jvm.MethodName)) ∈ zTB := zt7 40 rfl rfl
set_option maxRecDepth 20000 in
theorem zq1797 : (Jvm.Cond.code ({ cls := "UnsoldPriceModel", name := "other", desc := "(III)I" } : Jvm.MethodName) prog_14_method_79_code (6 : Nat) (Option.some Jvm.ClassFile.FieldType.int)) ∈ zTB := zt7 41 rfl rfl
set_option maxRecDepth 20000 in
theorem zq1799 : (Jvm.Cond.instanceMethod ({ cls := "UnsoldPriceModel", name := "ask", desc := "(III)I" } : Jvm.MethodName)) ∈ zTB := zt7 43 rfl rfl
set_option maxRecDepth 20000 in
theorem zq1800 : (Jvm.Cond.selects "UnsoldPriceModel" ({ cls := "UnsoldPriceModel", name := "ask", desc := "(III)I" } : Jvm.MethodName) ({ cls := "UnsoldPriceModel", name := "ask", desc := "(III)I" } : Jvm.MethodName)) ∈ zTB := zt7 44 rfl rfl
set_option maxRecDepth 20000 in
theorem zq1801 : (Jvm.Cond.code ({ cls := "UnsoldPriceModel", name := "ask", desc := "(III)I" } : Jvm.MethodName) prog_14_method_80_code (4 : Nat) (Option.some Jvm.ClassFile.FieldType.int)) ∈ zTB := zt7 45 rfl rfl
set_option maxRecDepth 20000 in
theorem zq1802 : (Jvm.Cond.constantLong "UnsoldPriceModel" (470 : Nat) (29 : Int64)) ∈ zTB := zt7 46 rfl rfl
set_option maxRecDepth 20000 in
theorem zq1804 : (Jvm.Cond.instanceMethod ({ cls := "UnsoldPriceModel", name := "month", desc := "(II)I" } : Jvm.MethodName)) ∈ zTB := zt7 48 rfl rfl
set_option maxRecDepth 20000 in
theorem zq1805 : (Jvm.Cond.selects "UnsoldPriceModel" ({ cls := "UnsoldPriceModel", name := "month", desc := "(II)I" } : Jvm.MethodName) ({ cls := "UnsoldPriceModel", name := "month", desc := "(II)I" } : Jvm.MethodName)) ∈ zTB := zt7 49 rfl rfl
set_option maxRecDepth 20000 in
theorem zq1806 : (Jvm.Cond.code ({ cls := "UnsoldPriceModel", name := "month", desc := "(II)I" } : Jvm.MethodName) prog_14_method_81_code (8 : Nat) (Option.some Jvm.ClassFile.FieldType.int)) ∈ zTB := zt7 50 rfl rfl
set_option maxRecDepth 20000 in
theorem zq1808 : (Jvm.Cond.instanceMethod ({ cls := "UnsoldPriceModel", name := "inTurn", desc := "(II)I" } : Jvm.MethodName)) ∈ zTB := zt7 52 rfl rfl
set_option maxRecDepth 20000 in
theorem zq1809 : (Jvm.Cond.selects "UnsoldPriceModel" ({ cls := "UnsoldPriceModel", name := "inTurn", desc := "(II)I" } : Jvm.MethodName) ({ cls := "UnsoldPriceModel", name := "inTurn", desc := "(II)I" } : Jvm.MethodName)) ∈ zTB := zt7 53 rfl rfl
set_option maxRecDepth 20000 in
theorem zq1810 : (Jvm.Cond.code ({ cls := "UnsoldPriceModel", name := "inTurn", desc := "(II)I" } : Jvm.MethodName) prog_14_method_82_code (7 : Nat) (Option.some Jvm.ClassFile.FieldType.int)) ∈ zTB := zt7 54 rfl rfl
set_option maxRecDepth 20000 in
theorem zq1812 : (Jvm.Cond.instanceMethod ({ cls := "UnsoldPriceModel", name := "bribe", desc := "(II)I" } : Jvm.MethodName)) ∈ zTB := zt7 56 rfl rfl
set_option maxRecDepth 20000 in
theorem zq1813 : (Jvm.Cond.selects "UnsoldPriceModel" ({ cls := "UnsoldPriceModel", name := "bribe", desc := "(II)I" } : Jvm.MethodName) ({ cls := "UnsoldPriceModel", name := "bribe", desc := "(II)I" } : Jvm.MethodName)) ∈ zTB := zt7 57 rfl rfl
set_option maxRecDepth 20000 in
theorem zq1814 : (Jvm.Cond.code ({ cls := "UnsoldPriceModel", name := "bribe", desc := "(II)I" } : Jvm.MethodName) prog_14_method_83_code (7 : Nat) (Option.some Jvm.ClassFile.FieldType.int)) ∈ zTB := zt7 58 rfl rfl
set_option maxRecDepth 20000 in
theorem zq1816 : (Jvm.Cond.instanceMethod ({ cls := "UnsoldPriceModel", name := "spread", desc := "(II)I" } : Jvm.MethodName)) ∈ zTB := zt7 60 rfl rfl
set_option maxRecDepth 20000 in
theorem zq1817 : (Jvm.Cond.selects "UnsoldPriceModel" ({ cls := "UnsoldPriceModel", name := "spread", desc := "(II)I" } : Jvm.MethodName) ({ cls := "UnsoldPriceModel", name := "spread", desc := "(II)I" } : Jvm.MethodName)) ∈ zTB := zt7 61 rfl rfl
set_option maxRecDepth 20000 in
theorem zq1818 : (Jvm.Cond.code ({ cls := "UnsoldPriceModel", name := "spread", desc := "(II)I" } : Jvm.MethodName) prog_14_method_84_code (7 : Nat) (Option.some Jvm.ClassFile.FieldType.int)) ∈ zTB := zt7 62 rfl rfl
set_option maxRecDepth 20000 in
theorem zq1820 : (Jvm.Cond.instanceMethod ({ cls := "UnsoldPriceModel", name := "served", desc := "(III)I" } : Jvm.MethodName)) ∈ zTB := zt7 64 rfl rfl
set_option maxRecDepth 20000 in
theorem zq1821 : (Jvm.Cond.selects "UnsoldPriceModel" ({ cls := "UnsoldPriceModel", name := "served", desc := "(III)I" } : Jvm.MethodName) ({ cls := "UnsoldPriceModel", name := "served", desc := "(III)I" } : Jvm.MethodName)) ∈ zTB := zt7 65 rfl rfl
set_option maxRecDepth 20000 in
theorem zq1822 : (Jvm.Cond.code ({ cls := "UnsoldPriceModel", name := "served", desc := "(III)I" } : Jvm.MethodName) prog_14_method_85_code (4 : Nat) (Option.some Jvm.ClassFile.FieldType.int)) ∈ zTB := zt7 66 rfl rfl
set_option maxRecDepth 20000 in
theorem zq1824 : (Jvm.Cond.instanceMethod ({ cls := "UnsoldPriceModel", name := "odds", desc := "(II)I" } : Jvm.MethodName)) ∈ zTB := zt7 68 rfl rfl
set_option maxRecDepth 20000 in
theorem zq1825 : (Jvm.Cond.selects "UnsoldPriceModel" ({ cls := "UnsoldPriceModel", name := "odds", desc := "(II)I" } : Jvm.MethodName) ({ cls := "UnsoldPriceModel", name := "odds", desc := "(II)I" } : Jvm.MethodName)) ∈ zTB := zt7 69 rfl rfl
set_option maxRecDepth 20000 in
theorem zq1826 : (Jvm.Cond.code ({ cls := "UnsoldPriceModel", name := "odds", desc := "(II)I" } : Jvm.MethodName) prog_14_method_87_code (3 : Nat) (Option.some Jvm.ClassFile.FieldType.int)) ∈ zTB := zt7 70 rfl rfl
set_option maxRecDepth 20000 in
theorem zq1827 : (Jvm.Cond.constantLong "UnsoldPriceModel" (478 : Nat) (10 : Int64)) ∈ zTB := zt7 71 rfl rfl
set_option maxRecDepth 20000 in
theorem zq1828 : (Jvm.Cond.constant "UnsoldPriceModel" (480 : Nat) (1000000000 : Int32)) ∈ zTB := zt7 72 rfl rfl
set_option maxRecDepth 20000 in
theorem zq1829 : (Jvm.Cond.methodLink "UnsoldPriceModel" (475 : Nat) ({ cls := "UnsoldPriceModel", name := "goOdds", desc := "(III)V" } : Jvm.MethodName)) ∈ zTB := zt7 73 rfl rfl
set_option maxRecDepth 20000 in
theorem zq1831 : (Jvm.Cond.instanceMethod ({ cls := "UnsoldPriceModel", name := "goOdds", desc := "(III)V" } : Jvm.MethodName)) ∈ zTB := zt7 75 rfl rfl
set_option maxRecDepth 20000 in
theorem zq1832 : (Jvm.Cond.code ({ cls := "UnsoldPriceModel", name := "goOdds", desc := "(III)V" } : Jvm.MethodName) prog_14_method_86_code (7 : Nat) (Option.none : Option Jvm.ClassFile.FieldType)) ∈ zTB := zt7 76 rfl rfl
set_option maxRecDepth 20000 in
theorem zq1834 : (Jvm.Cond.instanceMethod ({ cls := "UnsoldPriceModel", name := "lone", desc := "(II)I" } : Jvm.MethodName)) ∈ zTB := zt7 78 rfl rfl
set_option maxRecDepth 20000 in
theorem zq1835 : (Jvm.Cond.selects "UnsoldPriceModel" ({ cls := "UnsoldPriceModel", name := "lone", desc := "(II)I" } : Jvm.MethodName) ({ cls := "UnsoldPriceModel", name := "lone", desc := "(II)I" } : Jvm.MethodName)) ∈ zTB := zt7 79 rfl rfl
set_option maxRecDepth 20000 in
theorem zq1836 : (Jvm.Cond.code ({ cls := "UnsoldPriceModel", name := "lone", desc := "(II)I" } : Jvm.MethodName) prog_14_method_88_code (7 : Nat) (Option.some Jvm.ClassFile.FieldType.int)) ∈ zTB := zt7 80 rfl rfl
set_option maxRecDepth 20000 in
theorem zq1838 : (Jvm.Cond.instanceMethod ({ cls := "UnsoldPriceModel", name := "glut", desc := "(II)I" } : Jvm.MethodName)) ∈ zTB := zt7 82 rfl rfl
set_option maxRecDepth 20000 in
theorem zq1839 : (Jvm.Cond.selects "UnsoldPriceModel" ({ cls := "UnsoldPriceModel", name := "glut", desc := "(II)I" } : Jvm.MethodName) ({ cls := "UnsoldPriceModel", name := "glut", desc := "(II)I" } : Jvm.MethodName)) ∈ zTB := zt7 83 rfl rfl
set_option maxRecDepth 20000 in
theorem zq1840 : (Jvm.Cond.code ({ cls := "UnsoldPriceModel", name := "glut", desc := "(II)I" } : Jvm.MethodName) prog_14_method_89_code (7 : Nat) (Option.some Jvm.ClassFile.FieldType.int)) ∈ zTB := zt7 84 rfl rfl
set_option maxRecDepth 20000 in
theorem zq1842 : (Jvm.Cond.instanceMethod ({ cls := "UnsoldPriceModel", name := "image", desc := "()I" } : Jvm.MethodName)) ∈ zTB := zt7 86 rfl rfl
set_option maxRecDepth 20000 in
theorem zq1843 : (Jvm.Cond.selects "UnsoldPriceModel" ({ cls := "UnsoldPriceModel", name := "image", desc := "()I" } : Jvm.MethodName) ({ cls := "UnsoldPriceModel", name := "image", desc := "()I" } : Jvm.MethodName)) ∈ zTB := zt7 87 rfl rfl
set_option maxRecDepth 20000 in
theorem zq1844 : (Jvm.Cond.code ({ cls := "UnsoldPriceModel", name := "image", desc := "()I" } : Jvm.MethodName) prog_14_method_90_code (2 : Nat) (Option.some Jvm.ClassFile.FieldType.int)) ∈ zTB := zt7 88 rfl rfl
set_option maxRecDepth 20000 in
theorem zq1846 : (Jvm.Cond.instanceMethod ({ cls := "UnsoldPriceModel", name := "back", desc := "()I" } : Jvm.MethodName)) ∈ zTB := zt7 90 rfl rfl
set_option maxRecDepth 20000 in
theorem zq1847 : (Jvm.Cond.selects "UnsoldPriceModel" ({ cls := "UnsoldPriceModel", name := "back", desc := "()I" } : Jvm.MethodName) ({ cls := "UnsoldPriceModel", name := "back", desc := "()I" } : Jvm.MethodName)) ∈ zTB := zt7 91 rfl rfl
set_option maxRecDepth 20000 in
theorem zq1848 : (Jvm.Cond.code ({ cls := "UnsoldPriceModel", name := "back", desc := "()I" } : Jvm.MethodName) prog_14_method_91_code (2 : Nat) (Option.some Jvm.ClassFile.FieldType.int)) ∈ zTB := zt7 92 rfl rfl
set_option maxRecDepth 20000 in
theorem zq1850 : (Jvm.Cond.instanceMethod ({ cls := "UnsoldPriceModel", name := "count", desc := "(I)I" } : Jvm.MethodName)) ∈ zTB := zt7 94 rfl rfl
set_option maxRecDepth 20000 in
theorem zq1851 : (Jvm.Cond.selects "UnsoldPriceModel" ({ cls := "UnsoldPriceModel", name := "count", desc := "(I)I" } : Jvm.MethodName) ({ cls := "UnsoldPriceModel", name := "count", desc := "(I)I" } : Jvm.MethodName)) ∈ zTB := zt7 95 rfl rfl
set_option maxRecDepth 20000 in
theorem zq1852 : (Jvm.Cond.code ({ cls := "UnsoldPriceModel", name := "count", desc := "(I)I" } : Jvm.MethodName) prog_14_method_92_code (2 : Nat) (Option.some Jvm.ClassFile.FieldType.int)) ∈ zTB := zt7 96 rfl rfl
set_option maxRecDepth 20000 in
theorem zq1855 : (Jvm.Cond.sameMethod "UnsoldPrice$Reader" "UnsoldPrice$Reader" "sign" "()I") ∈ zTB := zt7 99 rfl rfl
set_option maxRecDepth 20000 in
theorem zq1856 : (Jvm.Cond.selects "UnsoldPrice$MarketReader" ({ cls := "UnsoldPrice$Reader", name := "sign", desc := "()I" } : Jvm.MethodName) ({ cls := "UnsoldPrice$Reader", name := "sign", desc := "()I" } : Jvm.MethodName)) ∈ zTB := zt7 100 rfl rfl
set_option maxRecDepth 20000 in
theorem zq1857 : (Jvm.Cond.selects "UnsoldPrice$RuleReader" ({ cls := "UnsoldPrice$Reader", name := "sign", desc := "()I" } : Jvm.MethodName) ({ cls := "UnsoldPrice$Reader", name := "sign", desc := "()I" } : Jvm.MethodName)) ∈ zTB := zt7 101 rfl rfl
set_option maxRecDepth 20000 in
theorem zq1858 : (Jvm.Cond.sameMethod "UnsoldPrice$Reader" "UnsoldPrice$Reader" "wrong" "()Z") ∈ zTB := zt7 102 rfl rfl
set_option maxRecDepth 20000 in
theorem zq1859 : (Jvm.Cond.selects "UnsoldPrice$MarketReader" ({ cls := "UnsoldPrice$Reader", name := "wrong", desc := "()Z" } : Jvm.MethodName) ({ cls := "UnsoldPrice$Reader", name := "wrong", desc := "()Z" } : Jvm.MethodName)) ∈ zTB := zt7 103 rfl rfl
set_option maxRecDepth 20000 in
theorem zq1860 : (Jvm.Cond.selects "UnsoldPrice$RuleReader" ({ cls := "UnsoldPrice$Reader", name := "wrong", desc := "()Z" } : Jvm.MethodName) ({ cls := "UnsoldPrice$Reader", name := "wrong", desc := "()Z" } : Jvm.MethodName)) ∈ zTB := zt7 104 rfl rfl
set_option maxRecDepth 20000 in
theorem zq1877 : (Jvm.Cond.fieldLink "java/lang/String" (9 : Nat) "java/lang/String" "value" "[B") ∈ zTB := zt7 121 rfl rfl
set_option maxRecDepth 20000 in
theorem zq1878 : (Jvm.Cond.fieldLink "java/lang/String" (15 : Nat) "java/lang/String" "coder" "B") ∈ zTB := zt7 122 rfl rfl
theorem zBX11_bytesIn : zBS yX11_bytesIn cX11_bytesIn 3 (some .int) 1 := ⟨⟨zq592, zq77, by decide +kernel⟩, zq591⟩
theorem zBX9_add : zBV "UnsoldPrice$Tape" yX9_add cX9_add 4 none 1 := ⟨⟨zq596, zq78, by decide +kernel⟩, zq594, zq595⟩
theorem zBX11_feed : zBV "UnsoldPrice" yX11_feed cX11_feed 7 (some .int) 5 := ⟨⟨zq589, zq77, by decide +kernel⟩, zq587, zq588⟩
theorem zBX11_end : zBV "UnsoldPrice" yX11_end cX11_end 2 (some .boolean) 1 := ⟨⟨zq600, zq77, by decide +kernel⟩, zq598, zq599⟩
theorem zBX3_beginReading : zB yX3_beginReading cX3_beginReading 1 none 0 := ⟨zq614, zq83, by decide +kernel⟩
theorem zBX0_clear : zBV "UnsoldPrice$Market" yX0_clear cX0_clear 2 none 0 := ⟨⟨zq618, zq79, by decide +kernel⟩, zq616, zq617⟩
theorem zBX9_byteAt : zBV "UnsoldPrice$Tape" yX9_byteAt cX9_byteAt 2 (some .int) 1 := ⟨⟨zq634, zq78, by decide +kernel⟩, zq632, zq633⟩
theorem zBX3_sign : zB yX3_sign cX3_sign 2 (some .int) 0 := ⟨zq630, zq83, by decide +kernel⟩
theorem zBX1_kindOf : zBS yX1_kindOf cX1_kindOf 2 (some .int) 2 := ⟨⟨zq637, zq84, by decide +kernel⟩, zq636⟩
theorem zBX3_wrong : zB yX3_wrong cX3_wrong 1 (some .boolean) 0 := ⟨zq643, zq83, by decide +kernel⟩
theorem zBX1_itemOf : zBS yX1_itemOf cX1_itemOf 4 (some .int) 2 := ⟨⟨zq662, zq84, by decide +kernel⟩, zq661⟩
theorem zBX3_number : zB yX3_number cX3_number 6 (some .int) 1 := ⟨zq711, zq83, by decide +kernel⟩
theorem zBX1_items : zBV "UnsoldPrice$MarketReader" yX1_items cX1_items 5 (some .boolean) 1 := ⟨⟨zq647, zq84, by decide +kernel⟩, zq646, zq1⟩
theorem zBX0_addSeller : zBV "UnsoldPrice$Market" yX0_addSeller cX0_addSeller 4 (some .boolean) 3 := ⟨⟨zq719, zq79, by decide +kernel⟩, zq717, zq718⟩
theorem zBX0_addSort : zBV "UnsoldPrice$Market" yX0_addSort cX0_addSort 5 (some .boolean) 3 := ⟨⟨zq723, zq79, by decide +kernel⟩, zq721, zq722⟩
theorem zBX0_setLaw : zBV "UnsoldPrice$Market" yX0_setLaw cX0_setLaw 3 (some .boolean) 2 := ⟨⟨zq727, zq79, by decide +kernel⟩, zq725, zq726⟩
theorem zBX1_clause : zBV "UnsoldPrice$MarketReader" yX1_clause cX1_clause 3 (some .boolean) 1 := ⟨⟨zq624, zq84, by decide +kernel⟩, zq623, zq0⟩
theorem zBX3_take : zB yX3_take cX3_take 2 (some .boolean) 1 := ⟨zq733, zq83, by decide +kernel⟩
theorem zBX1_read : zBV "UnsoldPrice$MarketReader" yX1_read cX1_read 3 (some .int) 1 := ⟨⟨zq608, zq84, by decide +kernel⟩, zq606, zq607⟩
theorem zBX4_put : zBV "UnsoldPrice$Rule" yX4_put cX4_put 2 (some .boolean) 1 := ⟨⟨zq771, zq80, by decide +kernel⟩, zq769, zq770⟩
theorem zBX5_put : zBV "UnsoldPrice$RuleReader" yX5_put cX5_put 2 (some .boolean) 1 := ⟨⟨zq767, zq85, by decide +kernel⟩, zq766, zq5⟩
theorem zBX5_atom : zBV "UnsoldPrice$RuleReader" yX5_atom cX5_atom 4 (some .boolean) 1 := ⟨⟨zq760, zq85, by decide +kernel⟩, zq759, zq4⟩
theorem zBX5_sum : zBV "UnsoldPrice$RuleReader" yX5_sum cX5_sum 6 (some .boolean) 1 := ⟨⟨zq756, zq85, by decide +kernel⟩, zq755, zq3⟩
theorem zBX5_isComparison : zBS yX5_isComparison cX5_isComparison 1 (some .boolean) 1 := ⟨⟨zq780, zq85, by decide +kernel⟩, zq779⟩
theorem zBX5_condition : zBV "UnsoldPrice$RuleReader" yX5_condition cX5_condition 7 (some .boolean) 2 := ⟨⟨zq784, zq85, by decide +kernel⟩, zq783, zq6⟩
theorem zBX5_unit : zBV "UnsoldPrice$RuleReader" yX5_unit cX5_unit 5 (some .boolean) 2 := ⟨⟨zq788, zq85, by decide +kernel⟩, zq787, zq7⟩
theorem zBX4_setHole : zBV "UnsoldPrice$Rule" yX4_setHole cX4_setHole 2 (some .boolean) 1 := ⟨⟨zq792, zq80, by decide +kernel⟩, zq790, zq791⟩
theorem zBX5_clause : zBV "UnsoldPrice$RuleReader" yX5_clause cX5_clause 4 (some .boolean) 0 := ⟨⟨zq746, zq85, by decide +kernel⟩, zq745, zq2⟩
theorem zBX5_read : zBV "UnsoldPrice$RuleReader" yX5_read cX5_read 3 (some .int) 1 := ⟨⟨zq739, zq85, by decide +kernel⟩, zq737, zq738⟩
theorem zBX11_fault : zBV "UnsoldPrice" yX11_fault cX11_fault 2 (some .int) 1 := ⟨⟨zq604, zq77, by decide +kernel⟩, zq602, zq603⟩
theorem zBX8_clear : zBV "UnsoldPrice$State" yX8_clear cX8_clear 3 none 1 := ⟨⟨zq805, zq81, by decide +kernel⟩, zq803, zq804⟩
theorem zBX11_openMarket : zBV "UnsoldPrice" yX11_openMarket cX11_openMarket 1 (some .int) 0 := ⟨⟨zq801, zq77, by decide +kernel⟩, zq800, zq8⟩
theorem zBX11_addRule : zBV "UnsoldPrice" yX11_addRule cX11_addRule 2 (some .int) 0 := ⟨⟨zq809, zq77, by decide +kernel⟩, zq808, zq9⟩
theorem zBX11_text : zBV "UnsoldPrice" yX11_text cX11_text 2 (some .int) 1 := ⟨⟨zq797, zq77, by decide +kernel⟩, zq795, zq796⟩
theorem zBX11_isSeller : zBV "UnsoldPrice" yX11_isSeller cX11_isSeller 2 (some .boolean) 1 := ⟨⟨zq829, zq77, by decide +kernel⟩, zq828, zq11⟩
theorem zBX11_noWhat : zBS yX11_noWhat cX11_noWhat 2 (some .boolean) 2 := ⟨⟨zq973, zq77, by decide +kernel⟩, zq972⟩
theorem zBX8_isHolding : zBV "UnsoldPrice$State" yX8_isHolding cX8_isHolding 2 (some .boolean) 1 := ⟨⟨zq837, zq81, by decide +kernel⟩, zq835, zq836⟩
theorem zBX11_seller : zBV "UnsoldPrice" yX11_seller cX11_seller 3 (some .int) 2 := ⟨⟨zq1180, zq77, by decide +kernel⟩, zq1178, zq1179⟩
theorem zBX11_isSort : zBV "UnsoldPrice" yX11_isSort cX11_isSort 2 (some .boolean) 1 := ⟨⟨zq817, zq77, by decide +kernel⟩, zq816, zq10⟩
theorem zBX8_waiting : zBV "UnsoldPrice$State" yX8_waiting cX8_waiting 5 (some .int) 1 := ⟨⟨zq821, zq81, by decide +kernel⟩, zq819, zq820⟩
theorem zBX11_buyers : zBV "UnsoldPrice" yX11_buyers cX11_buyers 3 (some .int) 2 := ⟨⟨zq813, zq77, by decide +kernel⟩, zq811, zq812⟩
theorem zBX11_rule : zBV "UnsoldPrice" yX11_rule cX11_rule 3 (some .boolean) 2 := ⟨⟨zq825, zq77, by decide +kernel⟩, zq823, zq824⟩
theorem zBX8_setHolding : zBV "UnsoldPrice$State" yX8_setHolding cX8_setHolding 3 none 2 := ⟨⟨zq841, zq81, by decide +kernel⟩, zq839, zq840⟩
theorem zBX11_hold : zBV "UnsoldPrice" yX11_hold cX11_hold 3 (some .boolean) 2 := ⟨⟨zq833, zq77, by decide +kernel⟩, zq831, zq832⟩
theorem zBX11_risk : zBV "UnsoldPrice" yX11_risk cX11_risk 2 (some .boolean) 1 := ⟨⟨zq845, zq77, by decide +kernel⟩, zq843, zq844⟩
theorem zBX11_seed : zBV "UnsoldPrice" yX11_seed cX11_seed 3 (some .boolean) 1 := ⟨⟨zq849, zq77, by decide +kernel⟩, zq847, zq848⟩
theorem zBX11_noMarket : zBV "UnsoldPrice" yX11_noMarket cX11_noMarket 1 (some .boolean) 0 := ⟨⟨zq861, zq77, by decide +kernel⟩, zq860, zq13⟩
theorem zBX11_noDays : zBV "UnsoldPrice" yX11_noDays cX11_noDays 2 (some .boolean) 1 := ⟨⟨zq857, zq77, by decide +kernel⟩, zq856, zq12⟩
theorem zBX6_begin : zBV "UnsoldPrice$Runner" yX6_begin cX6_begin 2 none 0 := ⟨⟨zq865, zq82, by decide +kernel⟩, zq863, zq864⟩
theorem zBX8_draw : zBV "UnsoldPrice$State" yX8_draw cX8_draw 1 (some .int) 0 := ⟨⟨zq869, zq81, by decide +kernel⟩, zq867, zq868⟩
theorem zBX6_openDay : zBV "UnsoldPrice$Runner" yX6_openDay cX6_openDay 6 (some .int) 2 := ⟨⟨zq880, zq82, by decide +kernel⟩, zq878, zq879⟩
theorem zBX4_isBetweenTwo : zBS yX4_isBetweenTwo cX4_isBetweenTwo 1 (some .boolean) 1 := ⟨⟨zq893, zq80, by decide +kernel⟩, zq892⟩
theorem zBX4_joined : zBS yX4_joined cX4_joined 5 (some .int) 3 := ⟨⟨zq897, zq80, by decide +kernel⟩, zq896⟩
theorem zBX4_worth : zBV "UnsoldPrice$Rule" yX4_worth cX4_worth 6 (some .int) 1 := ⟨⟨zq890, zq80, by decide +kernel⟩, zq888, zq889⟩
theorem zBX6_setAskings : zBV "UnsoldPrice$Runner" yX6_setAskings cX6_setAskings 6 none 2 := ⟨⟨zq885, zq82, by decide +kernel⟩, zq884, zq14⟩
theorem zBX6_lineUp : zBV "UnsoldPrice$Runner" yX6_lineUp cX6_lineUp 4 none 1 := ⟨⟨zq910, zq82, by decide +kernel⟩, zq908, zq909⟩
theorem zBX6_sellTo : zBV "UnsoldPrice$Runner" yX6_sellTo cX6_sellTo 10 (some .int) 3 := ⟨⟨zq918, zq82, by decide +kernel⟩, zq917, zq15⟩
theorem zBX6_sell : zBV "UnsoldPrice$Runner" yX6_sell cX6_sell 6 none 1 := ⟨⟨zq914, zq82, by decide +kernel⟩, zq912, zq913⟩
theorem zBX6_leadBoard : zBV "UnsoldPrice$Runner" yX6_leadBoard cX6_leadBoard 5 none 1 := ⟨⟨zq922, zq82, by decide +kernel⟩, zq921, zq16⟩
theorem zBX6_closeDay : zBV "UnsoldPrice$Runner" yX6_closeDay cX6_closeDay 6 none 1 := ⟨⟨zq926, zq82, by decide +kernel⟩, zq925, zq17⟩
theorem zBX6_runDay : zBV "UnsoldPrice$Runner" yX6_runDay cX6_runDay 4 none 2 := ⟨⟨zq876, zq82, by decide +kernel⟩, zq874, zq875⟩
theorem zBX11_days : zBV "UnsoldPrice" yX11_days cX11_days 4 (some .int) 1 := ⟨⟨zq853, zq77, by decide +kernel⟩, zq851, zq852⟩
theorem zBX8_copyFrom : zBV "UnsoldPrice$State" yX8_copyFrom cX8_copyFrom 2 none 1 := ⟨⟨zq938, zq81, by decide +kernel⟩, zq936, zq937⟩
theorem zBX10_begin : zBV "UnsoldPrice$Walk" yX10_begin cX10_begin 1 none 0 := ⟨⟨zq934, zq86, by decide +kernel⟩, zq932, zq933⟩
theorem zBX10_noteBoard : zBV "UnsoldPrice$Walk" yX10_noteBoard cX10_noteBoard 2 none 0 := ⟨⟨zq955, zq86, by decide +kernel⟩, zq954, zq18⟩
theorem zBX10_noteCheapest : zBV "UnsoldPrice$Walk" yX10_noteCheapest cX10_noteCheapest 2 none 0 := ⟨⟨zq961, zq86, by decide +kernel⟩, zq960, zq19⟩
theorem zBX10_noteGlut : zBV "UnsoldPrice$Walk" yX10_noteGlut cX10_noteGlut 2 none 0 := ⟨⟨zq966, zq86, by decide +kernel⟩, zq965, zq20⟩
theorem zBX10_step : zBV "UnsoldPrice$Walk" yX10_step cX10_step 1 none 0 := ⟨⟨zq950, zq86, by decide +kernel⟩, zq948, zq949⟩
theorem zBX10_pass : zBV "UnsoldPrice$Walk" yX10_pass cX10_pass 3 none 1 := ⟨⟨zq946, zq86, by decide +kernel⟩, zq944, zq945⟩
theorem zBX11_ahead : zBV "UnsoldPrice" yX11_ahead cX11_ahead 2 (some .int) 1 := ⟨⟨zq930, zq77, by decide +kernel⟩, zq928, zq929⟩
theorem zBX11_falls : zBV "UnsoldPrice" yX11_falls cX11_falls 3 (some .int) 2 := ⟨⟨zq970, zq77, by decide +kernel⟩, zq968, zq969⟩
theorem zBX7_begin : zBV "UnsoldPrice$Search" yX7_begin cX7_begin 2 (some (.object "UnsoldPrice$State")) 0 := ⟨⟨zq985, zq87, by decide +kernel⟩, zq984, zq21⟩
theorem zBX7_next : zBV "UnsoldPrice$Search" yX7_next cX7_next 5 (some (.object "UnsoldPrice$State")) 2 := ⟨⟨zq991, zq87, by decide +kernel⟩, zq990, zq22⟩
theorem zBX8_isLike : zBV "UnsoldPrice$State" yX8_isLike cX8_isLike 4 (some .boolean) 1 := ⟨⟨zq996, zq81, by decide +kernel⟩, zq994, zq995⟩
theorem zBX7_findRing : zBV "UnsoldPrice$Search" yX7_findRing cX7_findRing 4 (some .boolean) 0 := ⟨⟨zq981, zq87, by decide +kernel⟩, zq979, zq980⟩
theorem zBX11_ring : zBV "UnsoldPrice" yX11_ring cX11_ring 2 (some .int) 1 := ⟨⟨zq977, zq77, by decide +kernel⟩, zq975, zq976⟩
theorem zBX7_tryAskings : zBV "UnsoldPrice$Search" yX7_tryAskings cX7_tryAskings 5 none 2 := ⟨⟨zq1010, zq87, by decide +kernel⟩, zq1009, zq23⟩
theorem zBX7_findBest : zBV "UnsoldPrice$Search" yX7_findBest cX7_findBest 4 none 2 := ⟨⟨zq1005, zq87, by decide +kernel⟩, zq1003, zq1004⟩
theorem zBX11_best : zBV "UnsoldPrice" yX11_best cX11_best 4 (some .int) 3 := ⟨⟨zq1000, zq77, by decide +kernel⟩, zq998, zq999⟩
theorem zBX7_fillTakes : zBV "UnsoldPrice$Search" yX7_fillTakes cX7_fillTakes 8 none 2 := ⟨⟨zq1023, zq87, by decide +kernel⟩, zq1022, zq24⟩
theorem zBX7_isAtRest : zBV "UnsoldPrice$Search" yX7_isAtRest cX7_isAtRest 9 (some .boolean) 2 := ⟨⟨zq1030, zq87, by decide +kernel⟩, zq1029, zq25⟩
theorem zBX7_inHundreds : zBV "UnsoldPrice$Search" yX7_inHundreds cX7_inHundreds 7 (some .int) 2 := ⟨⟨zq1035, zq87, by decide +kernel⟩, zq1034, zq26⟩
theorem zBX7_findRests : zBV "UnsoldPrice$Search" yX7_findRests cX7_findRests 6 (some .int) 1 := ⟨⟨zq1018, zq87, by decide +kernel⟩, zq1016, zq1017⟩
theorem zBX11_rest : zBV "UnsoldPrice" yX11_rest cX11_rest 3 (some .int) 1 := ⟨⟨zq1014, zq77, by decide +kernel⟩, zq1012, zq1013⟩
theorem zBX10_beginHolding : zBV "UnsoldPrice$Walk" yX10_beginHolding cX10_beginHolding 3 none 2 := ⟨⟨zq1043, zq86, by decide +kernel⟩, zq1041, zq1042⟩
theorem zBX10_gainOf : zBV "UnsoldPrice$Walk" yX10_gainOf cX10_gainOf 2 (some .int) 1 := ⟨⟨zq1049, zq86, by decide +kernel⟩, zq1047, zq1048⟩
theorem zBX10_gainOfAll : zBV "UnsoldPrice$Walk" yX10_gainOfAll cX10_gainOfAll 3 (some .int) 0 := ⟨⟨zq1053, zq86, by decide +kernel⟩, zq1051, zq1052⟩
theorem zBX11_fool : zBV "UnsoldPrice" yX11_fool cX11_fool 8 (some .int) 3 := ⟨⟨zq1039, zq77, by decide +kernel⟩, zq1037, zq1038⟩
theorem zBX11_noPrice : zBS yX11_noPrice cX11_noPrice 1 (some .boolean) 1 := ⟨⟨zq1061, zq77, by decide +kernel⟩, zq1060⟩
theorem zBJ6_bitCount_0f7a4 : zBS yJ6_bitCount_0f7a4 cJ6_bitCount_0f7a4 1 (some .int) 1 := ⟨⟨zq1064, zq100, by decide +kernel⟩, zq1063⟩
theorem zBX11_up : zBV "UnsoldPrice" yX11_up cX11_up 6 (some .int) 2 := ⟨⟨zq1058, zq77, by decide +kernel⟩, zq1056, zq1057⟩
theorem zBX11_when : zBV "UnsoldPrice" yX11_when cX11_when 3 (some .int) 2 := ⟨⟨zq1071, zq77, by decide +kernel⟩, zq1069, zq1070⟩
theorem zBX10_addStranger : zBV "UnsoldPrice$Walk" yX10_addStranger cX10_addStranger 4 none 2 := ⟨⟨zq1079, zq86, by decide +kernel⟩, zq1077, zq1078⟩
theorem zBX11_stranger : zBV "UnsoldPrice" yX11_stranger cX11_stranger 6 (some .int) 3 := ⟨⟨zq1075, zq77, by decide +kernel⟩, zq1073, zq1074⟩
theorem zBX2_add : zBV "UnsoldPrice$Notes" yX2_add cX2_add 4 (some .boolean) 3 := ⟨⟨zq1087, zq88, by decide +kernel⟩, zq1085, zq1086⟩
theorem zBX11_see : zBV "UnsoldPrice" yX11_see cX11_see 3 (some .int) 2 := ⟨⟨zq1083, zq77, by decide +kernel⟩, zq1081, zq1082⟩
theorem zBX11_isSeenBy : zBV "UnsoldPrice" yX11_isSeenBy cX11_isSeenBy 5 (some .boolean) 1 := ⟨⟨zq1095, zq77, by decide +kernel⟩, zq1094, zq27⟩
theorem zBX11_fits : zBV "UnsoldPrice" yX11_fits cX11_fits 5 (some .int) 1 := ⟨⟨zq1091, zq77, by decide +kernel⟩, zq1089, zq1090⟩
theorem zBX11_other : zBV "UnsoldPrice" yX11_other cX11_other 4 (some .int) 3 := ⟨⟨zq1101, zq77, by decide +kernel⟩, zq1099, zq1100⟩
theorem zBX11_ask : zBV "UnsoldPrice" yX11_ask cX11_ask 4 (some .int) 3 := ⟨⟨zq1105, zq77, by decide +kernel⟩, zq1103, zq1104⟩
theorem zBX11_tellAskings : zBV "UnsoldPrice" yX11_tellAskings cX11_tellAskings 4 (some .int) 1 := ⟨⟨zq1113, zq77, by decide +kernel⟩, zq1112, zq28⟩
theorem zBX11_month : zBV "UnsoldPrice" yX11_month cX11_month 5 (some .int) 2 := ⟨⟨zq1109, zq77, by decide +kernel⟩, zq1107, zq1108⟩
theorem zBX10_leastGainer : zBV "UnsoldPrice$Walk" yX10_leastGainer cX10_leastGainer 3 (some .int) 0 := ⟨⟨zq1121, zq86, by decide +kernel⟩, zq1119, zq1120⟩
theorem zBX11_inTurn : zBV "UnsoldPrice" yX11_inTurn cX11_inTurn 5 (some .int) 2 := ⟨⟨zq1117, zq77, by decide +kernel⟩, zq1115, zq1116⟩
theorem zBX11_bribe : zBV "UnsoldPrice" yX11_bribe cX11_bribe 8 (some .int) 2 := ⟨⟨zq1125, zq77, by decide +kernel⟩, zq1123, zq1124⟩
theorem zBX11_spread : zBV "UnsoldPrice" yX11_spread cX11_spread 3 (some .int) 2 := ⟨⟨zq1129, zq77, by decide +kernel⟩, zq1127, zq1128⟩
theorem zBX11_served : zBV "UnsoldPrice" yX11_served cX11_served 4 (some .int) 3 := ⟨⟨zq1133, zq77, by decide +kernel⟩, zq1131, zq1132⟩
theorem zBX7_split : zBV "UnsoldPrice$Search" yX7_split cX7_split 5 (some .int) 2 := ⟨⟨zq1146, zq87, by decide +kernel⟩, zq1145, zq29⟩
theorem zBX7_partsFrom : zBV "UnsoldPrice$Search" yX7_partsFrom cX7_partsFrom 4 (some .int) 3 := ⟨⟨zq1141, zq87, by decide +kernel⟩, zq1139, zq1140⟩
theorem zBX11_odds : zBV "UnsoldPrice" yX11_odds cX11_odds 3 (some .int) 2 := ⟨⟨zq1137, zq77, by decide +kernel⟩, zq1135, zq1136⟩
theorem zBX11_lone : zBV "UnsoldPrice" yX11_lone cX11_lone 7 (some .int) 2 := ⟨⟨zq1151, zq77, by decide +kernel⟩, zq1149, zq1150⟩
theorem zBX10_fullest : zBV "UnsoldPrice$Walk" yX10_fullest cX10_fullest 3 (some .int) 0 := ⟨⟨zq1159, zq86, by decide +kernel⟩, zq1157, zq1158⟩
theorem zBX11_glut : zBV "UnsoldPrice" yX11_glut cX11_glut 3 (some .int) 2 := ⟨⟨zq1155, zq77, by decide +kernel⟩, zq1153, zq1154⟩
theorem zBX11_image : zBV "UnsoldPrice" yX11_image cX11_image 1 (some .int) 0 := ⟨⟨zq1163, zq77, by decide +kernel⟩, zq1161, zq1162⟩
theorem zBX11_back : zBV "UnsoldPrice" yX11_back cX11_back 1 (some .int) 0 := ⟨⟨zq1168, zq77, by decide +kernel⟩, zq1166, zq1167⟩
theorem zBX11_count : zBV "UnsoldPrice" yX11_count cX11_count 2 (some .int) 1 := ⟨⟨zq1172, zq77, by decide +kernel⟩, zq1170, zq1171⟩
theorem zBX12_thrown : zBV "UnsoldPriceModel" yX12_thrown cX12_thrown 1 (some .int) 0 := ⟨⟨zq1476, zq90, by decide +kernel⟩, zq1474, zq1475⟩
theorem zBX12_isIn : zBS yX12_isIn cX12_isIn 6 (some .boolean) 3 := ⟨⟨zq1498, zq90, by decide +kernel⟩, zq1497⟩
theorem zBX12_has : zBS yX12_has cX12_has 2 (some .boolean) 2 := ⟨⟨zq1532, zq90, by decide +kernel⟩, zq1531⟩
theorem zBX12_isAmong : zBS yX12_isAmong cX12_isAmong 3 (some .boolean) 2 := ⟨⟨zq1558, zq90, by decide +kernel⟩, zq1557⟩
theorem zBX12_bytesIn : zBS yX12_bytesIn cX12_bytesIn 3 (some .int) 1 := ⟨⟨zq1483, zq90, by decide +kernel⟩, zq1482⟩
theorem zBX12_put : zBV "UnsoldPriceModel" yX12_put cX12_put 3 none 1 := ⟨⟨zq1487, zq90, by decide +kernel⟩, zq1486, zq31⟩
theorem zBX12_feed : zBV "UnsoldPriceModel" yX12_feed cX12_feed 6 (some .int) 5 := ⟨⟨zq1480, zq90, by decide +kernel⟩, zq1478, zq1479⟩
theorem zBX12_end : zBV "UnsoldPriceModel" yX12_end cX12_end 2 (some .boolean) 1 := ⟨⟨zq1491, zq90, by decide +kernel⟩, zq1489, zq1490⟩
theorem zBX12_look : zBV "UnsoldPriceModel" yX12_look cX12_look 1 (some .int) 0 := ⟨⟨zq1517, zq90, by decide +kernel⟩, zq1516, zq35⟩
theorem zBX12_fails : zBV "UnsoldPriceModel" yX12_fails cX12_fails 1 (some .boolean) 0 := ⟨⟨zq1521, zq90, by decide +kernel⟩, zq1520, zq36⟩
theorem zBX12_goesIn : zBV "UnsoldPriceModel" yX12_goesIn cX12_goesIn 1 (some .boolean) 0 := ⟨⟨zq1590, zq90, by decide +kernel⟩, zq1589, zq49⟩
theorem zBX12_takes : zBV "UnsoldPriceModel" yX12_takes cX12_takes 2 (some .boolean) 1 := ⟨⟨zq1562, zq90, by decide +kernel⟩, zq1561, zq42⟩
theorem zBX12_isDigit : zBV "UnsoldPriceModel" yX12_isDigit cX12_isDigit 1 (some .boolean) 0 := ⟨⟨zq1543, zq90, by decide +kernel⟩, zq1542, zq38⟩
theorem zBX12_within : zBS yX12_within cX12_within 2 (some .int) 1 := ⟨⟨zq1593, zq90, by decide +kernel⟩, zq1592⟩
theorem zBX12_atom : zBV "UnsoldPriceModel" yX12_atom cX12_atom 4 (some .int) 0 := ⟨⟨zq1586, zq90, by decide +kernel⟩, zq1585, zq48⟩
theorem zBX12_term : zBV "UnsoldPriceModel" yX12_term cX12_term 5 (some .int) 0 := ⟨⟨zq1582, zq90, by decide +kernel⟩, zq1581, zq47⟩
theorem zBX12_sum : zBV "UnsoldPriceModel" yX12_sum cX12_sum 5 (some .int) 0 := ⟨⟨zq1578, zq90, by decide +kernel⟩, zq1577, zq46⟩
theorem zBX12_isSign : zBS yX12_isSign cX12_isSign 1 (some .boolean) 1 := ⟨⟨zq1600, zq90, by decide +kernel⟩, zq1599⟩
theorem zBX12_compares : zBV "UnsoldPriceModel" yX12_compares cX12_compares 6 (some .boolean) 2 := ⟨⟨zq1574, zq90, by decide +kernel⟩, zq1573, zq45⟩
theorem zBX12_part : zBV "UnsoldPriceModel" yX12_part cX12_part 5 (some .boolean) 2 := ⟨⟨zq1570, zq90, by decide +kernel⟩, zq1569, zq44⟩
theorem zBX12_condition : zBV "UnsoldPriceModel" yX12_condition cX12_condition 5 (some .boolean) 2 := ⟨⟨zq1566, zq90, by decide +kernel⟩, zq1565, zq43⟩
theorem zBX12_unit : zBV "UnsoldPriceModel" yX12_unit cX12_unit 3 (some .boolean) 0 := ⟨⟨zq1604, zq90, by decide +kernel⟩, zq1603, zq50⟩
theorem zBX12_clause : zBV "UnsoldPriceModel" yX12_clause cX12_clause 5 none 0 := ⟨⟨zq1555, zq90, by decide +kernel⟩, zq1554, zq41⟩
theorem zBX12_opens : zBV "UnsoldPriceModel" yX12_opens cX12_opens 4 none 3 := ⟨⟨zq1506, zq90, by decide +kernel⟩, zq1505, zq33⟩
theorem zBX12_goThrough : zBV "UnsoldPriceModel" yX12_goThrough cX12_goThrough 4 none 3 := ⟨⟨zq1551, zq90, by decide +kernel⟩, zq1550, zq40⟩
theorem zBX12_here : zBV "UnsoldPriceModel" yX12_here cX12_here 1 (some .int) 0 := ⟨⟨zq1547, zq90, by decide +kernel⟩, zq1546, zq39⟩
theorem zBX12_placeOf : zBS yX12_placeOf cX12_placeOf 3 (some .int) 2 := ⟨⟨zq1528, zq90, by decide +kernel⟩, zq1527⟩
theorem zBX12_readItem : zBV "UnsoldPriceModel" yX12_readItem cX12_readItem 7 none 4 := ⟨⟨zq1539, zq90, by decide +kernel⟩, zq1538, zq37⟩
theorem zBX12_usual : zBS yX12_usual cX12_usual 2 (some .int) 2 := ⟨⟨zq1509, zq90, by decide +kernel⟩, zq1508⟩
theorem zBX12_mostOf : zBS yX12_mostOf cX12_mostOf 2 (some .int) 2 := ⟨⟨zq1535, zq90, by decide +kernel⟩, zq1534⟩
theorem zBX12_readClause : zBV "UnsoldPriceModel" yX12_readClause cX12_readClause 8 none 0 := ⟨⟨zq1513, zq90, by decide +kernel⟩, zq1512, zq34⟩
theorem zBX12_readMarket : zBV "UnsoldPriceModel" yX12_readMarket cX12_readMarket 2 none 0 := ⟨⟨zq1502, zq90, by decide +kernel⟩, zq1501, zq32⟩
theorem zBX12_fault : zBV "UnsoldPriceModel" yX12_fault cX12_fault 2 (some .int) 1 := ⟨⟨zq1495, zq90, by decide +kernel⟩, zq1493, zq1494⟩
theorem zBX12_text : zBV "UnsoldPriceModel" yX12_text cX12_text 4 (some .int) 1 := ⟨⟨zq1608, zq90, by decide +kernel⟩, zq1606, zq1607⟩
theorem zBX12_isSeller : zBV "UnsoldPriceModel" yX12_isSeller cX12_isSeller 2 (some .boolean) 1 := ⟨⟨zq1617, zq90, by decide +kernel⟩, zq1616, zq51⟩
theorem zBX12_seller : zBV "UnsoldPriceModel" yX12_seller cX12_seller 3 (some .int) 2 := ⟨⟨zq1613, zq90, by decide +kernel⟩, zq1611, zq1612⟩
theorem zBX12_waitingOf : zBV "UnsoldPriceModel" yX12_waitingOf cX12_waitingOf 4 (some .int) 1 := ⟨⟨zq1627, zq90, by decide +kernel⟩, zq1626, zq52⟩
theorem zBX12_buyers : zBV "UnsoldPriceModel" yX12_buyers cX12_buyers 3 (some .int) 2 := ⟨⟨zq1622, zq90, by decide +kernel⟩, zq1620, zq1621⟩
theorem zBX12_rule : zBV "UnsoldPriceModel" yX12_rule cX12_rule 3 (some .boolean) 2 := ⟨⟨zq1631, zq90, by decide +kernel⟩, zq1629, zq1630⟩
theorem zBX12_hold : zBV "UnsoldPriceModel" yX12_hold cX12_hold 3 (some .boolean) 2 := ⟨⟨zq1635, zq90, by decide +kernel⟩, zq1633, zq1634⟩
theorem zBX12_risk : zBV "UnsoldPriceModel" yX12_risk cX12_risk 2 (some .boolean) 1 := ⟨⟨zq1639, zq90, by decide +kernel⟩, zq1637, zq1638⟩
theorem zBX12_seed : zBV "UnsoldPriceModel" yX12_seed cX12_seed 3 (some .boolean) 1 := ⟨⟨zq1644, zq90, by decide +kernel⟩, zq1642, zq1643⟩
theorem zBX12_askOf : zBV "UnsoldPriceModel" yX12_askOf cX12_askOf 5 (some .int) 1 := ⟨⟨zq1671, zq90, by decide +kernel⟩, zq1670, zq56⟩
theorem zBX12_isSelling : zBV "UnsoldPriceModel" yX12_isSelling cX12_isSelling 2 (some .boolean) 1 := ⟨⟨zq1692, zq90, by decide +kernel⟩, zq1691, zq61⟩
theorem zBX12_cheapest : zBV "UnsoldPriceModel" yX12_cheapest cX12_cheapest 3 (some .int) 0 := ⟨⟨zq1688, zq90, by decide +kernel⟩, zq1687, zq60⟩
theorem zBX12_buys : zBV "UnsoldPriceModel" yX12_buys cX12_buys 3 (some .boolean) 1 := ⟨⟨zq1684, zq90, by decide +kernel⟩, zq1683, zq59⟩
theorem zBX12_serve : zBV "UnsoldPriceModel" yX12_serve cX12_serve 6 none 1 := ⟨⟨zq1680, zq90, by decide +kernel⟩, zq1679, zq58⟩
theorem zBX12_serveAll : zBV "UnsoldPriceModel" yX12_serveAll cX12_serveAll 3 none 0 := ⟨⟨zq1676, zq90, by decide +kernel⟩, zq1675, zq57⟩
theorem zBX12_board : zBV "UnsoldPriceModel" yX12_board cX12_board 5 none 0 := ⟨⟨zq1696, zq90, by decide +kernel⟩, zq1695, zq62⟩
theorem zBX12_goes : zBV "UnsoldPriceModel" yX12_goes cX12_goes 4 none 1 := ⟨⟨zq1666, zq90, by decide +kernel⟩, zq1665, zq55⟩
theorem zBX12_plainly : zBV "UnsoldPriceModel" yX12_plainly cX12_plainly 2 none 0 := ⟨⟨zq1660, zq90, by decide +kernel⟩, zq1659, zq54⟩
theorem zBX12_areDays : zBS yX12_areDays cX12_areDays 1 (some .boolean) 1 := ⟨⟨zq1655, zq90, by decide +kernel⟩, zq1654⟩
theorem zBX12_isReady : zBV "UnsoldPriceModel" yX12_isReady cX12_isReady 2 (some .boolean) 1 := ⟨⟨zq1652, zq90, by decide +kernel⟩, zq1651, zq53⟩
theorem zBX12_days : zBV "UnsoldPriceModel" yX12_days cX12_days 4 (some .int) 1 := ⟨⟨zq1648, zq90, by decide +kernel⟩, zq1646, zq1647⟩
theorem zBX12_keep : zBV "UnsoldPriceModel" yX12_keep cX12_keep 2 none 0 := ⟨⟨zq1704, zq90, by decide +kernel⟩, zq1703, zq63⟩
theorem zBX12_putBack : zBV "UnsoldPriceModel" yX12_putBack cX12_putBack 2 none 0 := ⟨⟨zq1712, zq90, by decide +kernel⟩, zq1711, zq65⟩
theorem zBX12_tries : zBV "UnsoldPriceModel" yX12_tries cX12_tries 3 none 1 := ⟨⟨zq1708, zq90, by decide +kernel⟩, zq1707, zq64⟩
theorem zBX12_jumpMany : zBV "UnsoldPriceModel" yX12_jumpMany cX12_jumpMany 4 (some .int) 1 := ⟨⟨zq1720, zq90, by decide +kernel⟩, zq1719, zq66⟩
theorem zBX12_ahead : zBV "UnsoldPriceModel" yX12_ahead cX12_ahead 2 (some .int) 1 := ⟨⟨zq1700, zq90, by decide +kernel⟩, zq1698, zq1699⟩
theorem zBX12_falls : zBV "UnsoldPriceModel" yX12_falls cX12_falls 6 (some .int) 2 := ⟨⟨zq1716, zq90, by decide +kernel⟩, zq1714, zq1715⟩
theorem zBX12_keepState : zBV "UnsoldPriceModel" yX12_keepState cX12_keepState 4 none 1 := ⟨⟨zq1728, zq90, by decide +kernel⟩, zq1727, zq67⟩
theorem zBX12_areAlike : zBV "UnsoldPriceModel" yX12_areAlike cX12_areAlike 4 (some .boolean) 2 := ⟨⟨zq1732, zq90, by decide +kernel⟩, zq1731, zq68⟩
theorem zBX12_ring : zBV "UnsoldPriceModel" yX12_ring cX12_ring 6 (some .int) 1 := ⟨⟨zq1724, zq90, by decide +kernel⟩, zq1722, zq1723⟩
theorem zBX12_goBest : zBV "UnsoldPriceModel" yX12_goBest cX12_goBest 7 none 3 := ⟨⟨zq1741, zq90, by decide +kernel⟩, zq1740, zq69⟩
theorem zBX12_best : zBV "UnsoldPriceModel" yX12_best cX12_best 4 (some .int) 3 := ⟨⟨zq1736, zq90, by decide +kernel⟩, zq1734, zq1735⟩
theorem zBX12_takenBy : zBV "UnsoldPriceModel" yX12_takenBy cX12_takenBy 3 (some .int) 1 := ⟨⟨zq1757, zq90, by decide +kernel⟩, zq1756, zq72⟩
theorem zBX12_isRest : zBV "UnsoldPriceModel" yX12_isRest cX12_isRest 6 (some .boolean) 0 := ⟨⟨zq1753, zq90, by decide +kernel⟩, zq1752, zq71⟩
theorem zBX12_goRests : zBV "UnsoldPriceModel" yX12_goRests cX12_goRests 4 none 2 := ⟨⟨zq1749, zq90, by decide +kernel⟩, zq1748, zq70⟩
theorem zBX12_rest : zBV "UnsoldPriceModel" yX12_rest cX12_rest 2 (some .int) 1 := ⟨⟨zq1745, zq90, by decide +kernel⟩, zq1743, zq1744⟩
theorem zBX12_gainsBy : zBV "UnsoldPriceModel" yX12_gainsBy cX12_gainsBy 7 (some .int) 4 := ⟨⟨zq1765, zq90, by decide +kernel⟩, zq1764, zq73⟩
theorem zBX12_fool : zBV "UnsoldPriceModel" yX12_fool cX12_fool 6 (some .int) 3 := ⟨⟨zq1761, zq90, by decide +kernel⟩, zq1759, zq1760⟩
theorem zBX12_up : zBV "UnsoldPriceModel" yX12_up cX12_up 5 (some .int) 2 := ⟨⟨zq1769, zq90, by decide +kernel⟩, zq1767, zq1768⟩
theorem zBX12_when : zBV "UnsoldPriceModel" yX12_when cX12_when 7 (some .int) 2 := ⟨⟨zq1775, zq90, by decide +kernel⟩, zq1773, zq1774⟩
theorem zBX12_takenByAll : zBV "UnsoldPriceModel" yX12_takenByAll cX12_takenByAll 3 (some .int) 0 := ⟨⟨zq1785, zq90, by decide +kernel⟩, zq1784, zq74⟩
theorem zBX12_stranger : zBV "UnsoldPriceModel" yX12_stranger cX12_stranger 7 (some .int) 3 := ⟨⟨zq1779, zq90, by decide +kernel⟩, zq1777, zq1778⟩
theorem zBX12_see : zBV "UnsoldPriceModel" yX12_see cX12_see 3 (some .int) 2 := ⟨⟨zq1789, zq90, by decide +kernel⟩, zq1787, zq1788⟩
theorem zBX12_fits : zBV "UnsoldPriceModel" yX12_fits cX12_fits 7 (some .int) 1 := ⟨⟨zq1793, zq90, by decide +kernel⟩, zq1791, zq1792⟩
theorem zBX12_other : zBV "UnsoldPriceModel" yX12_other cX12_other 6 (some .int) 3 := ⟨⟨zq1797, zq90, by decide +kernel⟩, zq1795, zq1796⟩
theorem zBX12_ask : zBV "UnsoldPriceModel" yX12_ask cX12_ask 4 (some .int) 3 := ⟨⟨zq1801, zq90, by decide +kernel⟩, zq1799, zq1800⟩
theorem zBX12_month : zBV "UnsoldPriceModel" yX12_month cX12_month 8 (some .int) 2 := ⟨⟨zq1806, zq90, by decide +kernel⟩, zq1804, zq1805⟩
theorem zBX12_inTurn : zBV "UnsoldPriceModel" yX12_inTurn cX12_inTurn 7 (some .int) 2 := ⟨⟨zq1810, zq90, by decide +kernel⟩, zq1808, zq1809⟩
theorem zBX12_bribe : zBV "UnsoldPriceModel" yX12_bribe cX12_bribe 7 (some .int) 2 := ⟨⟨zq1814, zq90, by decide +kernel⟩, zq1812, zq1813⟩
theorem zBX12_spread : zBV "UnsoldPriceModel" yX12_spread cX12_spread 7 (some .int) 2 := ⟨⟨zq1818, zq90, by decide +kernel⟩, zq1816, zq1817⟩
theorem zBX12_served : zBV "UnsoldPriceModel" yX12_served cX12_served 4 (some .int) 3 := ⟨⟨zq1822, zq90, by decide +kernel⟩, zq1820, zq1821⟩
theorem zBX12_goOdds : zBV "UnsoldPriceModel" yX12_goOdds cX12_goOdds 7 none 3 := ⟨⟨zq1832, zq90, by decide +kernel⟩, zq1831, zq75⟩
theorem zBX12_odds : zBV "UnsoldPriceModel" yX12_odds cX12_odds 3 (some .int) 2 := ⟨⟨zq1826, zq90, by decide +kernel⟩, zq1824, zq1825⟩
theorem zBX12_lone : zBV "UnsoldPriceModel" yX12_lone cX12_lone 7 (some .int) 2 := ⟨⟨zq1836, zq90, by decide +kernel⟩, zq1834, zq1835⟩
theorem zBX12_glut : zBV "UnsoldPriceModel" yX12_glut cX12_glut 7 (some .int) 2 := ⟨⟨zq1840, zq90, by decide +kernel⟩, zq1838, zq1839⟩
theorem zBX12_image : zBV "UnsoldPriceModel" yX12_image cX12_image 2 (some .int) 0 := ⟨⟨zq1844, zq90, by decide +kernel⟩, zq1842, zq1843⟩
theorem zBX12_back : zBV "UnsoldPriceModel" yX12_back cX12_back 2 (some .int) 0 := ⟨⟨zq1848, zq90, by decide +kernel⟩, zq1846, zq1847⟩
theorem zBX12_count : zBV "UnsoldPriceModel" yX12_count cX12_count 2 (some .int) 1 := ⟨⟨zq1852, zq90, by decide +kernel⟩, zq1850, zq1851⟩
