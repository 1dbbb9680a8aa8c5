theorem hdX12_back : yX12_back.cls = RX12 ∧ yX12_back.cls ≠ "java/lang/invoke/MethodHandle" ∧ yX12_back.cls ≠ "java/lang/invoke/VarHandle" ∧ (parseMethodDescriptor yX12_back.desc).map (fun d => d.parameters.length) = some 1 := by decide +kernel
abbrev rmX12_back : Room := { frames := 2, cells := 0, slots := 0, locals := 200 }
set_option maxHeartbeats 4000000 in
set_option maxRecDepth 100000 in
theorem c_X12_back (l : Launch) (D : va_G) (g : gE) (a_t : Nat) (a_t_isKept : Nat) (a_t_state : Nat) (o_t_tape : Value) (o_t_taped : Value) (o_t_fault : Value) (o_t_broken : Value) (o_t_brokenAt : Value) (o_t_spot : Value) (o_t_here : Value) (o_t_token : Value) (o_t_value : Value) (o_t_cuts : Value) (o_t_letters : Value) (o_t_plain : Value) (o_t_rules : Value) (o_t_words : Value) (o_t_shorts : Value) (o_t_guards : Value) (o_t_readRules : Value) (o_t_readTable : Value) (o_t_readWords : Value) (o_t_readShorts : Value) (o_t_readGuards : Value) (o_t_toldOnes : Value) (o_t_isAwake : Value) (o_t_sums : Value) (o_t_tongue : Value) (o_t_bestTable : Value) (o_t_may : Value) (o_t_mouth : Value) (o_t_mouthThen : Value) (o_t_lanes : Value) (o_t_lengths : Value) (o_t_cells : Value) (o_t_torn : Value) (t_isKept : Nat → Int32) (t_state : Nat → Int32) (x1 : Int32) (post : Int32 → (Nat → Int32) → Prop) (h : wp_X12_back t_isKept t_state x1 post) : Ci l D g yX12_back (.code yX12_back cX12_back 3 (some .int) :: wsL_law) rmX12_back [.ref a_t, .int x1] [(a_t, .inr (12, [o_t_tape, o_t_taped, o_t_fault, o_t_broken, o_t_brokenAt, o_t_spot, o_t_here, o_t_token, o_t_value, o_t_cuts, o_t_letters, o_t_plain, o_t_rules, o_t_words, o_t_shorts, o_t_guards, o_t_readRules, o_t_readTable, o_t_readWords, o_t_readShorts, o_t_readGuards, o_t_toldOnes, .ref a_t_state, o_t_isAwake, o_t_sums, o_t_tongue, o_t_bestTable, o_t_may, o_t_mouth, o_t_mouthThen, .ref a_t_isKept, o_t_lanes, o_t_lengths, o_t_cells, o_t_torn])), (a_t_isKept, .inl (g.1 3, 2, .inl t_isKept)), (a_t_state, .inl (g.1 1, 192, .inl t_state))] (fun r W' => ∃ (nw_t_state : Nat → Int32), W' = [(a_t, .inr (12, [o_t_tape, o_t_taped, o_t_fault, o_t_broken, o_t_brokenAt, o_t_spot, o_t_here, o_t_token, o_t_value, o_t_cuts, o_t_letters, o_t_plain, o_t_rules, o_t_words, o_t_shorts, o_t_guards, o_t_readRules, o_t_readTable, o_t_readWords, o_t_readShorts, o_t_readGuards, o_t_toldOnes, .ref a_t_state, o_t_isAwake, o_t_sums, o_t_tongue, o_t_bestTable, o_t_may, o_t_mouth, o_t_mouthThen, .ref a_t_isKept, o_t_lanes, o_t_lengths, o_t_cells, o_t_torn])), (a_t_isKept, .inl (g.1 3, 2, .inl t_isKept)), (a_t_state, .inl (g.1 1, 192, .inl nw_t_state))] ∧ post r nw_t_state) := by
  refine Ci.of (cc := cX12_back) (maxL := 3) (by decide) rfl (Nat.le_of_ble_eq_true rfl) ?_
  intro p e s m args below meth c A Q hx hb hml hts hown hA H locs hP hD hS hG ls hl hret
  have hown : s.vm.findClass RX12 = some m.cls := hown
  have hl : lv_has ls 3 [(0, .ref a_t), (1, .int x1)] := hl
  have lk0 := hts (.fieldLink RX12 71 "KnockWallModel" "isKept" "[Z") (List.mem_cons_of_mem _ (inR_8 (List.mem_of_getElem? (i := 22) rfl)))
  have lk1 := hts (.fieldLink RX12 49 "KnockWallModel" "state" "[I") (List.mem_cons_of_mem _ (inR_8 (List.mem_of_getElem? (i := 14) rfl)))
  have L26 : ∀ (x1 : Int32), ∀ (n : Nat) (x2 : Int32) (t_state : Nat → Int32), fixN (F_X12_back_26 x1 post) n (x2, t_state) → ∀ (H : Heap) (locs : List Loc), va_P D vwCl [(a_t, .inr (12, [o_t_tape, o_t_taped, o_t_fault, o_t_broken, o_t_brokenAt, o_t_spot, o_t_here, o_t_token, o_t_value, o_t_cuts, o_t_letters, o_t_plain, o_t_rules, o_t_words, o_t_shorts, o_t_guards, o_t_readRules, o_t_readTable, o_t_readWords, o_t_readShorts, o_t_readGuards, o_t_toldOnes, .ref a_t_state, o_t_isAwake, o_t_sums, o_t_tongue, o_t_bestTable, o_t_may, o_t_mouth, o_t_mouthThen, .ref a_t_isKept, o_t_lanes, o_t_lengths, o_t_cells, o_t_torn])), (a_t_isKept, .inl (g.1 3, 2, .inl t_isKept)), (a_t_state, .inl (g.1 1, 192, .inl t_state))] H → va_D A [(a_t, .inr (12, [o_t_tape, o_t_taped, o_t_fault, o_t_broken, o_t_brokenAt, o_t_spot, o_t_here, o_t_token, o_t_value, o_t_cuts, o_t_letters, o_t_plain, o_t_rules, o_t_words, o_t_shorts, o_t_guards, o_t_readRules, o_t_readTable, o_t_readWords, o_t_readShorts, o_t_readGuards, o_t_toldOnes, .ref a_t_state, o_t_isAwake, o_t_sums, o_t_tongue, o_t_bestTable, o_t_may, o_t_mouth, o_t_mouthThen, .ref a_t_isKept, o_t_lanes, o_t_lengths, o_t_cells, o_t_torn])), (a_t_isKept, .inl (g.1 3, 2, .inl t_isKept)), (a_t_state, .inl (g.1 1, 192, .inl t_state))] → va_S A s.heap H locs → ∀ (ls : Array Slot), lv_has ls 3 [(0, .ref a_t), (1, .int x1), (2, .int x2)] → W p l e rmX12_back s m args below meth c H locs 0 0 Q (F0 m 26 ls []) := by
    intro x1
    intro n
    induction n with
    | zero => intro x2 t_state h; exact h.elim
    | succ n ih =>
      intro x2 t_state h H locs hP hD hS ls hl
      have h : F_X12_back_26 x1 post (fixN (F_X12_back_26 x1 post) n) (x2, t_state) := h
      unfold F_X12_back_26 at h
      try dsimp only at h
      refine lv_iload_n hx hb dX12_back_26 rfl (lv_at hl 2 rfl) ?_
      refine lv_bipush (v := 64) hx hb dX12_back_27 (by decide) ?_
      refine lv_icmp_ge (tgt := 57) hx hb dX12_back_29 (by decide) (fun c5 => ?_) (fun c5 => ?_)
      · have h := h.1 c5
        refine lv_aload_n hx hb dX12_back_57 rfl (lv_at hl 0 rfl) ?_
        refine va_get (ci := 12) (v := .ref a_t_state) (C := RX12) (T := TX12) (N := 35) hx hb hts icX12 hown hG.k hP 0 rfl rfl 22 (by decide) lk1 (fun _ h9 => h9) rfl dX12_back_58 ?_
        refine lv_bipush (v := 49) hx hb dX12_back_61 (by decide) ?_
        obtain ⟨hv6, h⟩ := h
        refine va_iald hx hb hG.k hP 2 1 rfl rfl hv6 dX12_back_63 ?_
        exact hret (t_state (49 : Int32).toNatClampNeg) _ _ _ _ _ ⟨t_state, rfl, h⟩ hP hD hS dX12_back_64
      · have h := h.2 c5
        refine lv_aload_n hx hb dX12_back_32 rfl (lv_at hl 0 rfl) ?_
        refine va_get (ci := 12) (v := .ref a_t_state) (C := RX12) (T := TX12) (N := 35) hx hb hts icX12 hown hG.k hP 0 rfl rfl 22 (by decide) lk1 (fun _ h9 => h9) rfl dX12_back_33 ?_
        refine lv_iload_n hx hb dX12_back_36 rfl (lv_at hl 2 rfl) ?_
        refine lv_aload_n hx hb dX12_back_37 rfl (lv_at hl 0 rfl) ?_
        refine va_get (ci := 12) (v := .ref a_t_state) (C := RX12) (T := TX12) (N := 35) hx hb hts icX12 hown hG.k hP 0 rfl rfl 22 (by decide) lk1 (fun _ h9 => h9) rfl dX12_back_38 ?_
        refine lv_bipush (v := 64) hx hb dX12_back_41 (by decide) ?_
        refine lv_iload_n hx hb dX12_back_43 rfl (lv_at hl 1 rfl) ?_
        refine lv_iconst (v := 1) hx hb dX12_back_44 (by decide) ?_
        refine lv_iadd hx hb dX12_back_45 ?_
        refine lv_imul hx hb dX12_back_46 ?_
        refine lv_iload_n hx hb dX12_back_47 rfl (lv_at hl 2 rfl) ?_
        refine lv_iadd hx hb dX12_back_48 ?_
        obtain ⟨hv7, h⟩ := h
        refine va_iald hx hb hG.k hP 2 1 rfl rfl hv7 dX12_back_49 ?_
        obtain ⟨hv8, h⟩ := h
        refine va_iast hx hb hG.k hP hD hS 2 1 rfl rfl hv8 dX12_back_50 (fun H locs hP hD hS => ?_)
        have hP : va_P D vwCl [(a_t, .inr (12, [o_t_tape, o_t_taped, o_t_fault, o_t_broken, o_t_brokenAt, o_t_spot, o_t_here, o_t_token, o_t_value, o_t_cuts, o_t_letters, o_t_plain, o_t_rules, o_t_words, o_t_shorts, o_t_guards, o_t_readRules, o_t_readTable, o_t_readWords, o_t_readShorts, o_t_readGuards, o_t_toldOnes, .ref a_t_state, o_t_isAwake, o_t_sums, o_t_tongue, o_t_bestTable, o_t_may, o_t_mouth, o_t_mouthThen, .ref a_t_isKept, o_t_lanes, o_t_lengths, o_t_cells, o_t_torn])), (a_t_isKept, .inl (g.1 3, 2, .inl t_isKept)), (a_t_state, .inl (g.1 1, 192, .inl (upd t_state x2.toNatClampNeg (t_state ((64 * (x1 + 1)) + x2).toNatClampNeg))))] H := hP
        have hD : va_D A [(a_t, .inr (12, [o_t_tape, o_t_taped, o_t_fault, o_t_broken, o_t_brokenAt, o_t_spot, o_t_here, o_t_token, o_t_value, o_t_cuts, o_t_letters, o_t_plain, o_t_rules, o_t_words, o_t_shorts, o_t_guards, o_t_readRules, o_t_readTable, o_t_readWords, o_t_readShorts, o_t_readGuards, o_t_toldOnes, .ref a_t_state, o_t_isAwake, o_t_sums, o_t_tongue, o_t_bestTable, o_t_may, o_t_mouth, o_t_mouthThen, .ref a_t_isKept, o_t_lanes, o_t_lengths, o_t_cells, o_t_torn])), (a_t_isKept, .inl (g.1 3, 2, .inl t_isKept)), (a_t_state, .inl (g.1 1, 192, .inl (upd t_state x2.toNatClampNeg (t_state ((64 * (x1 + 1)) + x2).toNatClampNeg))))] := hD
        refine lv_iinc (v := x2 + 1) (lv' := [(2, .int (x2 + 1)), (0, .ref a_t), (1, .int x1)]) hx hb dX12_back_51 hl (k := 2) rfl rfl (by decide) rfl (fun ls hl => ?_)
        refine lv_goto (tgt := 26) hx hb dX12_back_54 (by decide) ?_
        exact ih (x2 + 1) (upd t_state x2.toNatClampNeg (t_state ((64 * (x1 + 1)) + x2).toNatClampNeg)) h _ _ hP hD hS _ (lv_sub hl [1, 2, 0] rfl)
  unfold wp_X12_back at h
  try dsimp only at h
  refine lv_iload_n hx hb dX12_back_0 rfl (lv_at hl 1 rfl) ?_
  refine lv_i2l hx hb dX12_back_1 rfl ?_
  refine lv_lconst (v := 0) hx hb dX12_back_2 (by decide) ?_
  refine lv_lconst (v := 1) hx hb dX12_back_3 (by decide) ?_
  refine k_i (wr := [(a_t, .inr (12, [o_t_tape, o_t_taped, o_t_fault, o_t_broken, o_t_brokenAt, o_t_spot, o_t_here, o_t_token, o_t_value, o_t_cuts, o_t_letters, o_t_plain, o_t_rules, o_t_words, o_t_shorts, o_t_guards, o_t_readRules, o_t_readTable, o_t_readWords, o_t_readShorts, o_t_readGuards, o_t_toldOnes, .ref a_t_state, o_t_isAwake, o_t_sums, o_t_tongue, o_t_bestTable, o_t_may, o_t_mouth, o_t_mouthThen, .ref a_t_isKept, o_t_lanes, o_t_lengths, o_t_cells, o_t_torn])), (a_t_isKept, .inl (g.1 3, 2, .inl t_isKept)), (a_t_state, .inl (g.1 1, 192, .inl t_state))]) hA hP hD hS [] [0, 1, 2] rfl rfl (by decide) (by decide) (va_runS (As := [.long x1.toInt64, .long 0, .long 1]) (rest := []) ⟨hx, hb, hml, hown, hts⟩ (c_X12_in l D g x1.toInt64 0 1 _ h H.size) (va_cwS 3 hts (gdS (inR_10 (List.mem_of_getElem? (i := 1) rfl)) (inR_10 (List.mem_of_getElem? (i := 2) rfl)) (inR_1 (List.mem_of_getElem? (i := 5) rfl)) (inR_10 (List.mem_of_getElem? (i := 3) rfl))) rfl rfl rfl hdX12_in.2 ⟨Nat.le_of_ble_eq_true rfl, Nat.le_of_ble_eq_true rfl⟩) (k_preS hG hA hP hD hS [] rfl (by decide)) rfl rfl hl.1 rfl (lv_room (Nat.le_of_ble_eq_true rfl)) dX12_back_4 ⟨Nat.zero_le _, Nat.zero_le _⟩) (fun r1 W' H locs h hP hD hS => ?_)
  obtain ⟨rfl, h⟩ := h
  have hP : va_P D vwCl [(a_t, .inr (12, [o_t_tape, o_t_taped, o_t_fault, o_t_broken, o_t_brokenAt, o_t_spot, o_t_here, o_t_token, o_t_value, o_t_cuts, o_t_letters, o_t_plain, o_t_rules, o_t_words, o_t_shorts, o_t_guards, o_t_readRules, o_t_readTable, o_t_readWords, o_t_readShorts, o_t_readGuards, o_t_toldOnes, .ref a_t_state, o_t_isAwake, o_t_sums, o_t_tongue, o_t_bestTable, o_t_may, o_t_mouth, o_t_mouthThen, .ref a_t_isKept, o_t_lanes, o_t_lengths, o_t_cells, o_t_torn])), (a_t_isKept, .inl (g.1 3, 2, .inl t_isKept)), (a_t_state, .inl (g.1 1, 192, .inl t_state))] H := hP.sub [0, 1, 2] rfl
  have hD : va_D A [(a_t, .inr (12, [o_t_tape, o_t_taped, o_t_fault, o_t_broken, o_t_brokenAt, o_t_spot, o_t_here, o_t_token, o_t_value, o_t_cuts, o_t_letters, o_t_plain, o_t_rules, o_t_words, o_t_shorts, o_t_guards, o_t_readRules, o_t_readTable, o_t_readWords, o_t_readShorts, o_t_readGuards, o_t_toldOnes, .ref a_t_state, o_t_isAwake, o_t_sums, o_t_tongue, o_t_bestTable, o_t_may, o_t_mouth, o_t_mouthThen, .ref a_t_isKept, o_t_lanes, o_t_lengths, o_t_cells, o_t_torn])), (a_t_isKept, .inl (g.1 3, 2, .inl t_isKept)), (a_t_state, .inl (g.1 1, 192, .inl t_state))] := hD.sub [0, 1, 2] (by decide) rfl
  refine lv_if_ne (tgt := 12) hx hb dX12_back_7 (by decide) (fun c2 => ?_) (fun c2 => ?_)
  · have h := h.1 c2
    refine lv_aload_n hx hb dX12_back_12 rfl (lv_at hl 0 rfl) ?_
    refine va_get (ci := 12) (v := .ref a_t_isKept) (C := RX12) (T := TX12) (N := 35) hx hb hts icX12 hown hG.k hP 0 rfl rfl 30 (by decide) lk0 (fun _ h9 => h9) rfl dX12_back_13 ?_
    refine lv_iload_n hx hb dX12_back_16 rfl (lv_at hl 1 rfl) ?_
    obtain ⟨hv3, h⟩ := h
    refine va_zald hx hb hG.k hP 1 3 rfl rfl hv3 dX12_back_17 ?_
    refine lv_if_ne (tgt := 24) hx hb dX12_back_18 (by decide) (fun c4 => ?_) (fun c4 => ?_)
    · have h := h.1 c4
      refine lv_iconst (v := 0) hx hb dX12_back_24 (by decide) ?_
      refine lv_istore_n (lv' := [(2, .int 0), (0, .ref a_t), (1, .int x1)]) hx hb dX12_back_25 rfl hl (by decide) rfl (fun ls hl => ?_)
      obtain ⟨n9, h⟩ := h
      exact L26 x1 n9 0 t_state h _ _ hP hD hS _ (lv_sub hl [1, 2, 0] rfl)
    · have h := h.2 c4
      refine lv_bipush (v := (-2)) hx hb dX12_back_21 (by decide) ?_
      exact hret ((-2)) _ _ _ _ _ ⟨t_state, rfl, h⟩ hP hD hS dX12_back_23
  · have h := h.2 c2
    refine lv_iconst (v := (-1)) hx hb dX12_back_10 (by decide) ?_
    exact hret ((-1)) _ _ _ _ _ ⟨t_state, rfl, h⟩ hP hD hS dX12_back_11
theorem hdX12_sheet : yX12_sheet.cls = RX12 ∧ yX12_sheet.cls ≠ "java/lang/invoke/MethodHandle" ∧ yX12_sheet.cls ≠ "java/lang/invoke/VarHandle" ∧ (parseMethodDescriptor yX12_sheet.desc).map (fun d => d.parameters.length) = some 3 := by decide +kernel
abbrev rmX12_sheet : Room := { frames := 2, cells := 0, slots := 0, locals := 200 }
set_option maxHeartbeats 4000000 in
set_option maxRecDepth 100000 in
theorem c_X12_sheet (l : Launch) (D : va_G) (g : gE) (a_t : Nat) (a_t_lanes : Nat) (a_t_lengths : Nat) (a_t_cells : Nat) (o_t_tape : Value) (o_t_taped : Value) (o_t_fault : Value) (o_t_broken : Value) (o_t_brokenAt : Value) (o_t_spot : Value) (o_t_here : Value) (o_t_token : Value) (o_t_value : Value) (o_t_cuts : Value) (o_t_letters : Value) (o_t_plain : Value) (o_t_rules : Value) (o_t_words : Value) (o_t_shorts : Value) (o_t_guards : Value) (o_t_readRules : Value) (o_t_readTable : Value) (o_t_readWords : Value) (o_t_readShorts : Value) (o_t_readGuards : Value) (o_t_toldOnes : Value) (o_t_state : Value) (o_t_isAwake : Value) (o_t_sums : Value) (o_t_tongue : Value) (o_t_bestTable : Value) (o_t_may : Value) (o_t_mouth : Value) (o_t_mouthThen : Value) (o_t_isKept : Value) (o_t_torn : Value) (t_lanes : Nat → Int32) (t_lengths : Nat → Int32) (t_cells : Nat → Int32) (x1 : Int32) (x2 : Int32) (x3 : Int32) (post : Int32 → (Nat → Int32) → (Nat → Int32) → (Nat → Int32) → Prop) (h : wp_X12_sheet t_lanes t_lengths t_cells x1 x2 x3 post) : Ci l D g yX12_sheet (.code yX12_sheet cX12_sheet 5 (some .int) :: wsL_law) rmX12_sheet [.ref a_t, .int x1, .int x2, .int x3] [(a_t, .inr (12, [o_t_tape, o_t_taped, o_t_fault, o_t_broken, o_t_brokenAt, o_t_spot, o_t_here, o_t_token, o_t_value, o_t_cuts, o_t_letters, o_t_plain, o_t_rules, o_t_words, o_t_shorts, o_t_guards, o_t_readRules, o_t_readTable, o_t_readWords, o_t_readShorts, o_t_readGuards, o_t_toldOnes, o_t_state, o_t_isAwake, o_t_sums, o_t_tongue, o_t_bestTable, o_t_may, o_t_mouth, o_t_mouthThen, o_t_isKept, .ref a_t_lanes, .ref a_t_lengths, .ref a_t_cells, o_t_torn])), (a_t_lanes, .inl (g.1 1, 4, .inl t_lanes)), (a_t_lengths, .inl (g.1 1, 4, .inl t_lengths)), (a_t_cells, .inl (g.1 1, 160, .inl t_cells))] (fun r W' => ∃ (nw_t_lanes : Nat → Int32) (nw_t_lengths : Nat → Int32) (nw_t_cells : Nat → Int32), W' = [(a_t, .inr (12, [o_t_tape, o_t_taped, o_t_fault, o_t_broken, o_t_brokenAt, o_t_spot, o_t_here, o_t_token, o_t_value, o_t_cuts, o_t_letters, o_t_plain, o_t_rules, o_t_words, o_t_shorts, o_t_guards, o_t_readRules, o_t_readTable, o_t_readWords, o_t_readShorts, o_t_readGuards, o_t_toldOnes, o_t_state, o_t_isAwake, o_t_sums, o_t_tongue, o_t_bestTable, o_t_may, o_t_mouth, o_t_mouthThen, o_t_isKept, .ref a_t_lanes, .ref a_t_lengths, .ref a_t_cells, o_t_torn])), (a_t_lanes, .inl (g.1 1, 4, .inl nw_t_lanes)), (a_t_lengths, .inl (g.1 1, 4, .inl nw_t_lengths)), (a_t_cells, .inl (g.1 1, 160, .inl nw_t_cells))] ∧ post r nw_t_lanes nw_t_lengths nw_t_cells) := by
  refine Ci.of (cc := cX12_sheet) (maxL := 5) (by decide) rfl (Nat.le_of_ble_eq_true rfl) ?_
  intro p e s m args below meth c A Q hx hb hml hts hown hA H locs hP hD hS hG ls hl hret
  have hown : s.vm.findClass RX12 = some m.cls := hown
  have hl : lv_has ls 5 [(0, .ref a_t), (1, .int x1), (2, .int x2), (3, .int x3)] := hl
  have lk0 := hts (.constantLong RX12 265 (3)) (List.mem_cons_of_mem _ (inR_38 (List.mem_of_getElem? (i := 18) rfl)))
  have lk1 := hts (.constantLong RX12 290 (2)) (List.mem_cons_of_mem _ (inR_43 (List.mem_of_getElem? (i := 8) rfl)))
  have lk2 := hts (.fieldLink RX12 75 "KnockWallModel" "lanes" "[I") (List.mem_cons_of_mem _ (inR_8 (List.mem_of_getElem? (i := 23) rfl)))
  have lk3 := hts (.fieldLink RX12 78 "KnockWallModel" "lengths" "[I") (List.mem_cons_of_mem _ (inR_9 (List.mem_of_getElem? (i := 0) rfl)))
  have lk4 := hts (.fieldLink RX12 81 "KnockWallModel" "cells" "[I") (List.mem_cons_of_mem _ (inR_9 (List.mem_of_getElem? (i := 1) rfl)))
  have L56 : ∀ (x1 : Int32) (t_lanes : Nat → Int32) (t_lengths : Nat → Int32), ∀ (n : Nat) (x4 : Int32) (t_cells : Nat → Int32), fixN (F_X12_sheet_56 x1 t_lanes t_lengths post) n (x4, t_cells) → ∀ (H : Heap) (locs : List Loc), va_P D vwCl [(a_t, .inr (12, [o_t_tape, o_t_taped, o_t_fault, o_t_broken, o_t_brokenAt, o_t_spot, o_t_here, o_t_token, o_t_value, o_t_cuts, o_t_letters, o_t_plain, o_t_rules, o_t_words, o_t_shorts, o_t_guards, o_t_readRules, o_t_readTable, o_t_readWords, o_t_readShorts, o_t_readGuards, o_t_toldOnes, o_t_state, o_t_isAwake, o_t_sums, o_t_tongue, o_t_bestTable, o_t_may, o_t_mouth, o_t_mouthThen, o_t_isKept, .ref a_t_lanes, .ref a_t_lengths, .ref a_t_cells, o_t_torn])), (a_t_lanes, .inl (g.1 1, 4, .inl t_lanes)), (a_t_lengths, .inl (g.1 1, 4, .inl t_lengths)), (a_t_cells, .inl (g.1 1, 160, .inl t_cells))] H → va_D A [(a_t, .inr (12, [o_t_tape, o_t_taped, o_t_fault, o_t_broken, o_t_brokenAt, o_t_spot, o_t_here, o_t_token, o_t_value, o_t_cuts, o_t_letters, o_t_plain, o_t_rules, o_t_words, o_t_shorts, o_t_guards, o_t_readRules, o_t_readTable, o_t_readWords, o_t_readShorts, o_t_readGuards, o_t_toldOnes, o_t_state, o_t_isAwake, o_t_sums, o_t_tongue, o_t_bestTable, o_t_may, o_t_mouth, o_t_mouthThen, o_t_isKept, .ref a_t_lanes, .ref a_t_lengths, .ref a_t_cells, o_t_torn])), (a_t_lanes, .inl (g.1 1, 4, .inl t_lanes)), (a_t_lengths, .inl (g.1 1, 4, .inl t_lengths)), (a_t_cells, .inl (g.1 1, 160, .inl t_cells))] → va_S A s.heap H locs → ∀ (ls : Array Slot), lv_has ls 5 [(0, .ref a_t), (1, .int x1), (4, .int x4)] → W p l e rmX12_sheet s m args below meth c H locs 0 0 Q (F0 m 56 ls []) := by
    intro x1 t_lanes t_lengths
    intro n
    induction n with
    | zero => intro x4 t_cells h; exact h.elim
    | succ n ih =>
      intro x4 t_cells h H locs hP hD hS ls hl
      have h : F_X12_sheet_56 x1 t_lanes t_lengths post (fixN (F_X12_sheet_56 x1 t_lanes t_lengths post) n) (x4, t_cells) := h
      unfold F_X12_sheet_56 at h
      try dsimp only at h
      refine lv_iload hx hb dX12_sheet_56 (lv_at hl 2 rfl) ?_
      refine lv_bipush (v := 40) hx hb dX12_sheet_58 (by decide) ?_
      refine lv_icmp_ge (tgt := 82) hx hb dX12_sheet_60 (by decide) (fun c9 => ?_) (fun c9 => ?_)
      · have h := h.1 c9
        refine lv_iconst (v := 1) hx hb dX12_sheet_82 (by decide) ?_
        exact hret 1 _ _ _ _ _ ⟨t_lanes, t_lengths, t_cells, rfl, h⟩ hP hD hS dX12_sheet_83
      · have h := h.2 c9
        refine lv_aload_n hx hb dX12_sheet_63 rfl (lv_at hl 0 rfl) ?_
        refine va_get (ci := 12) (v := .ref a_t_cells) (C := RX12) (T := TX12) (N := 35) hx hb hts icX12 hown hG.k hP 0 rfl rfl 33 (by decide) lk4 (fun _ h9 => h9) rfl dX12_sheet_64 ?_
        refine lv_bipush (v := 40) hx hb dX12_sheet_67 (by decide) ?_
        refine lv_iload_n hx hb dX12_sheet_69 rfl (lv_at hl 1 rfl) ?_
        refine lv_imul hx hb dX12_sheet_70 ?_
        refine lv_iload hx hb dX12_sheet_71 (lv_at hl 2 rfl) ?_
        refine lv_iadd hx hb dX12_sheet_73 ?_
        refine lv_iconst (v := 0) hx hb dX12_sheet_74 (by decide) ?_
        obtain ⟨hv10, h⟩ := h
        refine va_iast hx hb hG.k hP hD hS 3 1 rfl rfl hv10 dX12_sheet_75 (fun H locs hP hD hS => ?_)
        have hP : va_P D vwCl [(a_t, .inr (12, [o_t_tape, o_t_taped, o_t_fault, o_t_broken, o_t_brokenAt, o_t_spot, o_t_here, o_t_token, o_t_value, o_t_cuts, o_t_letters, o_t_plain, o_t_rules, o_t_words, o_t_shorts, o_t_guards, o_t_readRules, o_t_readTable, o_t_readWords, o_t_readShorts, o_t_readGuards, o_t_toldOnes, o_t_state, o_t_isAwake, o_t_sums, o_t_tongue, o_t_bestTable, o_t_may, o_t_mouth, o_t_mouthThen, o_t_isKept, .ref a_t_lanes, .ref a_t_lengths, .ref a_t_cells, o_t_torn])), (a_t_lanes, .inl (g.1 1, 4, .inl t_lanes)), (a_t_lengths, .inl (g.1 1, 4, .inl t_lengths)), (a_t_cells, .inl (g.1 1, 160, .inl (upd t_cells ((40 * x1) + x4).toNatClampNeg 0)))] H := hP
        have hD : va_D A [(a_t, .inr (12, [o_t_tape, o_t_taped, o_t_fault, o_t_broken, o_t_brokenAt, o_t_spot, o_t_here, o_t_token, o_t_value, o_t_cuts, o_t_letters, o_t_plain, o_t_rules, o_t_words, o_t_shorts, o_t_guards, o_t_readRules, o_t_readTable, o_t_readWords, o_t_readShorts, o_t_readGuards, o_t_toldOnes, o_t_state, o_t_isAwake, o_t_sums, o_t_tongue, o_t_bestTable, o_t_may, o_t_mouth, o_t_mouthThen, o_t_isKept, .ref a_t_lanes, .ref a_t_lengths, .ref a_t_cells, o_t_torn])), (a_t_lanes, .inl (g.1 1, 4, .inl t_lanes)), (a_t_lengths, .inl (g.1 1, 4, .inl t_lengths)), (a_t_cells, .inl (g.1 1, 160, .inl (upd t_cells ((40 * x1) + x4).toNatClampNeg 0)))] := hD
        refine lv_iinc (v := x4 + 1) (lv' := [(4, .int (x4 + 1)), (0, .ref a_t), (1, .int x1)]) hx hb dX12_sheet_76 hl (k := 2) rfl rfl (by decide) rfl (fun ls hl => ?_)
        refine lv_goto (tgt := 56) hx hb dX12_sheet_79 (by decide) ?_
        exact ih (x4 + 1) (upd t_cells ((40 * x1) + x4).toNatClampNeg 0) h _ _ hP hD hS _ (lv_sub hl [1, 2, 0] rfl)
  unfold wp_X12_sheet at h
  try dsimp only at h
  refine lv_iload_n hx hb dX12_sheet_0 rfl (lv_at hl 1 rfl) ?_
  refine lv_i2l hx hb dX12_sheet_1 rfl ?_
  refine lv_lconst (v := 0) hx hb dX12_sheet_2 (by decide) ?_
  refine lv_ldc2 hx hb hown lk0 dX12_sheet_3 ?_
  refine k_i (wr := [(a_t, .inr (12, [o_t_tape, o_t_taped, o_t_fault, o_t_broken, o_t_brokenAt, o_t_spot, o_t_here, o_t_token, o_t_value, o_t_cuts, o_t_letters, o_t_plain, o_t_rules, o_t_words, o_t_shorts, o_t_guards, o_t_readRules, o_t_readTable, o_t_readWords, o_t_readShorts, o_t_readGuards, o_t_toldOnes, o_t_state, o_t_isAwake, o_t_sums, o_t_tongue, o_t_bestTable, o_t_may, o_t_mouth, o_t_mouthThen, o_t_isKept, .ref a_t_lanes, .ref a_t_lengths, .ref a_t_cells, o_t_torn])), (a_t_lanes, .inl (g.1 1, 4, .inl t_lanes)), (a_t_lengths, .inl (g.1 1, 4, .inl t_lengths)), (a_t_cells, .inl (g.1 1, 160, .inl t_cells))]) hA hP hD hS [] [0, 1, 2, 3] rfl rfl (by decide) (by decide) (va_runS (As := [.long x1.toInt64, .long 0, .long ((3))]) (rest := []) ⟨hx, hb, hml, hown, hts⟩ (c_X12_in l D g x1.toInt64 0 ((3)) _ h H.size) (va_cwS 3 hts (gdS (inR_10 (List.mem_of_getElem? (i := 1) rfl)) (inR_10 (List.mem_of_getElem? (i := 2) rfl)) (inR_1 (List.mem_of_getElem? (i := 5) rfl)) (inR_10 (List.mem_of_getElem? (i := 3) rfl))) rfl rfl rfl hdX12_in.2 ⟨Nat.le_of_ble_eq_true rfl, Nat.le_of_ble_eq_true rfl⟩) (k_preS hG hA hP hD hS [] rfl (by decide)) rfl rfl hl.1 rfl (lv_room (Nat.le_of_ble_eq_true rfl)) dX12_sheet_6 ⟨Nat.zero_le _, Nat.zero_le _⟩) (fun r1 W' H locs h hP hD hS => ?_)
  obtain ⟨rfl, h⟩ := h
  have hP : va_P D vwCl [(a_t, .inr (12, [o_t_tape, o_t_taped, o_t_fault, o_t_broken, o_t_brokenAt, o_t_spot, o_t_here, o_t_token, o_t_value, o_t_cuts, o_t_letters, o_t_plain, o_t_rules, o_t_words, o_t_shorts, o_t_guards, o_t_readRules, o_t_readTable, o_t_readWords, o_t_readShorts, o_t_readGuards, o_t_toldOnes, o_t_state, o_t_isAwake, o_t_sums, o_t_tongue, o_t_bestTable, o_t_may, o_t_mouth, o_t_mouthThen, o_t_isKept, .ref a_t_lanes, .ref a_t_lengths, .ref a_t_cells, o_t_torn])), (a_t_lanes, .inl (g.1 1, 4, .inl t_lanes)), (a_t_lengths, .inl (g.1 1, 4, .inl t_lengths)), (a_t_cells, .inl (g.1 1, 160, .inl t_cells))] H := hP.sub [0, 1, 2, 3] rfl
  have hD : va_D A [(a_t, .inr (12, [o_t_tape, o_t_taped, o_t_fault, o_t_broken, o_t_brokenAt, o_t_spot, o_t_here, o_t_token, o_t_value, o_t_cuts, o_t_letters, o_t_plain, o_t_rules, o_t_words, o_t_shorts, o_t_guards, o_t_readRules, o_t_readTable, o_t_readWords, o_t_readShorts, o_t_readGuards, o_t_toldOnes, o_t_state, o_t_isAwake, o_t_sums, o_t_tongue, o_t_bestTable, o_t_may, o_t_mouth, o_t_mouthThen, o_t_isKept, .ref a_t_lanes, .ref a_t_lengths, .ref a_t_cells, o_t_torn])), (a_t_lanes, .inl (g.1 1, 4, .inl t_lanes)), (a_t_lengths, .inl (g.1 1, 4, .inl t_lengths)), (a_t_cells, .inl (g.1 1, 160, .inl t_cells))] := hD.sub [0, 1, 2, 3] (by decide) rfl
  refine lv_if_eq (tgt := 30) hx hb dX12_sheet_9 (by decide) (fun c2 => ?_) (fun c2 => ?_)
  · have h := h.1 c2
    refine lv_iconst (v := (-1)) hx hb dX12_sheet_30 (by decide) ?_
    exact hret ((-1)) _ _ _ _ _ ⟨t_lanes, t_lengths, t_cells, rfl, h⟩ hP hD hS dX12_sheet_31
  · have h := h.2 c2
    refine lv_iload_n hx hb dX12_sheet_12 rfl (lv_at hl 2 rfl) ?_
    refine lv_i2l hx hb dX12_sheet_13 rfl ?_
    refine lv_lconst (v := 0) hx hb dX12_sheet_14 (by decide) ?_
    refine lv_ldc2 hx hb hown lk1 dX12_sheet_15 ?_
    refine k_i (wr := [(a_t, .inr (12, [o_t_tape, o_t_taped, o_t_fault, o_t_broken, o_t_brokenAt, o_t_spot, o_t_here, o_t_token, o_t_value, o_t_cuts, o_t_letters, o_t_plain, o_t_rules, o_t_words, o_t_shorts, o_t_guards, o_t_readRules, o_t_readTable, o_t_readWords, o_t_readShorts, o_t_readGuards, o_t_toldOnes, o_t_state, o_t_isAwake, o_t_sums, o_t_tongue, o_t_bestTable, o_t_may, o_t_mouth, o_t_mouthThen, o_t_isKept, .ref a_t_lanes, .ref a_t_lengths, .ref a_t_cells, o_t_torn])), (a_t_lanes, .inl (g.1 1, 4, .inl t_lanes)), (a_t_lengths, .inl (g.1 1, 4, .inl t_lengths)), (a_t_cells, .inl (g.1 1, 160, .inl t_cells))]) hA hP hD hS [] [0, 1, 2, 3] rfl rfl (by decide) (by decide) (va_runS (As := [.long x2.toInt64, .long 0, .long ((2))]) (rest := []) ⟨hx, hb, hml, hown, hts⟩ (c_X12_in l D g x2.toInt64 0 ((2)) _ h H.size) (va_cwS 3 hts (gdS (inR_10 (List.mem_of_getElem? (i := 1) rfl)) (inR_10 (List.mem_of_getElem? (i := 2) rfl)) (inR_1 (List.mem_of_getElem? (i := 5) rfl)) (inR_10 (List.mem_of_getElem? (i := 3) rfl))) rfl rfl rfl hdX12_in.2 ⟨Nat.le_of_ble_eq_true rfl, Nat.le_of_ble_eq_true rfl⟩) (k_preS hG hA hP hD hS [] rfl (by decide)) rfl rfl hl.1 rfl (lv_room (Nat.le_of_ble_eq_true rfl)) dX12_sheet_18 ⟨Nat.zero_le _, Nat.zero_le _⟩) (fun r3 W' H locs h hP hD hS => ?_)
    obtain ⟨rfl, h⟩ := h
    have hP : va_P D vwCl [(a_t, .inr (12, [o_t_tape, o_t_taped, o_t_fault, o_t_broken, o_t_brokenAt, o_t_spot, o_t_here, o_t_token, o_t_value, o_t_cuts, o_t_letters, o_t_plain, o_t_rules, o_t_words, o_t_shorts, o_t_guards, o_t_readRules, o_t_readTable, o_t_readWords, o_t_readShorts, o_t_readGuards, o_t_toldOnes, o_t_state, o_t_isAwake, o_t_sums, o_t_tongue, o_t_bestTable, o_t_may, o_t_mouth, o_t_mouthThen, o_t_isKept, .ref a_t_lanes, .ref a_t_lengths, .ref a_t_cells, o_t_torn])), (a_t_lanes, .inl (g.1 1, 4, .inl t_lanes)), (a_t_lengths, .inl (g.1 1, 4, .inl t_lengths)), (a_t_cells, .inl (g.1 1, 160, .inl t_cells))] H := hP.sub [0, 1, 2, 3] rfl
    have hD : va_D A [(a_t, .inr (12, [o_t_tape, o_t_taped, o_t_fault, o_t_broken, o_t_brokenAt, o_t_spot, o_t_here, o_t_token, o_t_value, o_t_cuts, o_t_letters, o_t_plain, o_t_rules, o_t_words, o_t_shorts, o_t_guards, o_t_readRules, o_t_readTable, o_t_readWords, o_t_readShorts, o_t_readGuards, o_t_toldOnes, o_t_state, o_t_isAwake, o_t_sums, o_t_tongue, o_t_bestTable, o_t_may, o_t_mouth, o_t_mouthThen, o_t_isKept, .ref a_t_lanes, .ref a_t_lengths, .ref a_t_cells, o_t_torn])), (a_t_lanes, .inl (g.1 1, 4, .inl t_lanes)), (a_t_lengths, .inl (g.1 1, 4, .inl t_lengths)), (a_t_cells, .inl (g.1 1, 160, .inl t_cells))] := hD.sub [0, 1, 2, 3] (by decide) rfl
    refine lv_if_eq (tgt := 30) hx hb dX12_sheet_21 (by decide) (fun c4 => ?_) (fun c4 => ?_)
    · have h := h.1 c4
      refine lv_iconst (v := (-1)) hx hb dX12_sheet_30 (by decide) ?_
      exact hret ((-1)) _ _ _ _ _ ⟨t_lanes, t_lengths, t_cells, rfl, h⟩ hP hD hS dX12_sheet_31
    · have h := h.2 c4
      refine lv_iload_n hx hb dX12_sheet_24 rfl (lv_at hl 3 rfl) ?_
      refine lv_bipush (v := 40) hx hb dX12_sheet_25 (by decide) ?_
      refine lv_icmp_le (tgt := 32) hx hb dX12_sheet_27 (by decide) (fun c5 => ?_) (fun c5 => ?_)
      · have h := h.1 c5
        refine lv_iload_n hx hb dX12_sheet_32 rfl (lv_at hl 3 rfl) ?_
        refine lv_if_ge (tgt := 39) hx hb dX12_sheet_33 (by decide) (fun c6 => ?_) (fun c6 => ?_)
        · have h := h.1 c6
          refine lv_aload_n hx hb dX12_sheet_39 rfl (lv_at hl 0 rfl) ?_
          refine va_get (ci := 12) (v := .ref a_t_lanes) (C := RX12) (T := TX12) (N := 35) hx hb hts icX12 hown hG.k hP 0 rfl rfl 31 (by decide) lk2 (fun _ h9 => h9) rfl dX12_sheet_40 ?_
          refine lv_iload_n hx hb dX12_sheet_43 rfl (lv_at hl 1 rfl) ?_
          refine lv_iload_n hx hb dX12_sheet_44 rfl (lv_at hl 2 rfl) ?_
          obtain ⟨hv7, h⟩ := h
          refine va_iast hx hb hG.k hP hD hS 1 1 rfl rfl hv7 dX12_sheet_45 (fun H locs hP hD hS => ?_)
          have hP : va_P D vwCl [(a_t, .inr (12, [o_t_tape, o_t_taped, o_t_fault, o_t_broken, o_t_brokenAt, o_t_spot, o_t_here, o_t_token, o_t_value, o_t_cuts, o_t_letters, o_t_plain, o_t_rules, o_t_words, o_t_shorts, o_t_guards, o_t_readRules, o_t_readTable, o_t_readWords, o_t_readShorts, o_t_readGuards, o_t_toldOnes, o_t_state, o_t_isAwake, o_t_sums, o_t_tongue, o_t_bestTable, o_t_may, o_t_mouth, o_t_mouthThen, o_t_isKept, .ref a_t_lanes, .ref a_t_lengths, .ref a_t_cells, o_t_torn])), (a_t_lanes, .inl (g.1 1, 4, .inl (upd t_lanes x1.toNatClampNeg x2))), (a_t_lengths, .inl (g.1 1, 4, .inl t_lengths)), (a_t_cells, .inl (g.1 1, 160, .inl t_cells))] H := hP
          have hD : va_D A [(a_t, .inr (12, [o_t_tape, o_t_taped, o_t_fault, o_t_broken, o_t_brokenAt, o_t_spot, o_t_here, o_t_token, o_t_value, o_t_cuts, o_t_letters, o_t_plain, o_t_rules, o_t_words, o_t_shorts, o_t_guards, o_t_readRules, o_t_readTable, o_t_readWords, o_t_readShorts, o_t_readGuards, o_t_toldOnes, o_t_state, o_t_isAwake, o_t_sums, o_t_tongue, o_t_bestTable, o_t_may, o_t_mouth, o_t_mouthThen, o_t_isKept, .ref a_t_lanes, .ref a_t_lengths, .ref a_t_cells, o_t_torn])), (a_t_lanes, .inl (g.1 1, 4, .inl (upd t_lanes x1.toNatClampNeg x2))), (a_t_lengths, .inl (g.1 1, 4, .inl t_lengths)), (a_t_cells, .inl (g.1 1, 160, .inl t_cells))] := hD
          refine lv_aload_n hx hb dX12_sheet_46 rfl (lv_at hl 0 rfl) ?_
          refine va_get (ci := 12) (v := .ref a_t_lengths) (C := RX12) (T := TX12) (N := 35) hx hb hts icX12 hown hG.k hP 0 rfl rfl 32 (by decide) lk3 (fun _ h9 => h9) rfl dX12_sheet_47 ?_
          refine lv_iload_n hx hb dX12_sheet_50 rfl (lv_at hl 1 rfl) ?_
          refine lv_iload_n hx hb dX12_sheet_51 rfl (lv_at hl 3 rfl) ?_
          obtain ⟨hv8, h⟩ := h
          refine va_iast hx hb hG.k hP hD hS 2 1 rfl rfl hv8 dX12_sheet_52 (fun H locs hP hD hS => ?_)
          have hP : va_P D vwCl [(a_t, .inr (12, [o_t_tape, o_t_taped, o_t_fault, o_t_broken, o_t_brokenAt, o_t_spot, o_t_here, o_t_token, o_t_value, o_t_cuts, o_t_letters, o_t_plain, o_t_rules, o_t_words, o_t_shorts, o_t_guards, o_t_readRules, o_t_readTable, o_t_readWords, o_t_readShorts, o_t_readGuards, o_t_toldOnes, o_t_state, o_t_isAwake, o_t_sums, o_t_tongue, o_t_bestTable, o_t_may, o_t_mouth, o_t_mouthThen, o_t_isKept, .ref a_t_lanes, .ref a_t_lengths, .ref a_t_cells, o_t_torn])), (a_t_lanes, .inl (g.1 1, 4, .inl (upd t_lanes x1.toNatClampNeg x2))), (a_t_lengths, .inl (g.1 1, 4, .inl (upd t_lengths x1.toNatClampNeg x3))), (a_t_cells, .inl (g.1 1, 160, .inl t_cells))] H := hP
          have hD : va_D A [(a_t, .inr (12, [o_t_tape, o_t_taped, o_t_fault, o_t_broken, o_t_brokenAt, o_t_spot, o_t_here, o_t_token, o_t_value, o_t_cuts, o_t_letters, o_t_plain, o_t_rules, o_t_words, o_t_shorts, o_t_guards, o_t_readRules, o_t_readTable, o_t_readWords, o_t_readShorts, o_t_readGuards, o_t_toldOnes, o_t_state, o_t_isAwake, o_t_sums, o_t_tongue, o_t_bestTable, o_t_may, o_t_mouth, o_t_mouthThen, o_t_isKept, .ref a_t_lanes, .ref a_t_lengths, .ref a_t_cells, o_t_torn])), (a_t_lanes, .inl (g.1 1, 4, .inl (upd t_lanes x1.toNatClampNeg x2))), (a_t_lengths, .inl (g.1 1, 4, .inl (upd t_lengths x1.toNatClampNeg x3))), (a_t_cells, .inl (g.1 1, 160, .inl t_cells))] := hD
          refine lv_iconst (v := 0) hx hb dX12_sheet_53 (by decide) ?_
          refine lv_istore (lv' := [(4, .int 0), (0, .ref a_t), (1, .int x1), (2, .int x2), (3, .int x3)]) hx hb dX12_sheet_54 hl (by decide) rfl (fun ls hl => ?_)
          obtain ⟨n9, h⟩ := h
          exact L56 x1 (upd t_lanes x1.toNatClampNeg x2) (upd t_lengths x1.toNatClampNeg x3) n9 0 t_cells h _ _ hP hD hS _ (lv_sub hl [1, 2, 0] rfl)
        · have h := h.2 c6
          refine lv_bipush (v := (-14)) hx hb dX12_sheet_36 (by decide) ?_
          exact hret ((-14)) _ _ _ _ _ ⟨t_lanes, t_lengths, t_cells, rfl, h⟩ hP hD hS dX12_sheet_38
      · have h := h.2 c5
        refine lv_iconst (v := (-1)) hx hb dX12_sheet_30 (by decide) ?_
        exact hret ((-1)) _ _ _ _ _ ⟨t_lanes, t_lengths, t_cells, rfl, h⟩ hP hD hS dX12_sheet_31
theorem hdX12_lay : yX12_lay.cls = RX12 ∧ yX12_lay.cls ≠ "java/lang/invoke/MethodHandle" ∧ yX12_lay.cls ≠ "java/lang/invoke/VarHandle" ∧ (parseMethodDescriptor yX12_lay.desc).map (fun d => d.parameters.length) = some 3 := by decide +kernel
abbrev rmX12_lay : Room := { frames := 2, cells := 0, slots := 0, locals := 200 }
set_option maxHeartbeats 4000000 in
set_option maxRecDepth 100000 in
theorem c_X12_lay (l : Launch) (D : va_G) (g : gE) (a_t : Nat) (a_t_lanes : Nat) (a_t_lengths : Nat) (a_t_cells : Nat) (o_t_tape : Value) (o_t_taped : Value) (o_t_fault : Value) (o_t_broken : Value) (o_t_brokenAt : Value) (o_t_spot : Value) (o_t_here : Value) (o_t_token : Value) (o_t_value : Value) (o_t_cuts : Value) (o_t_letters : Value) (o_t_plain : Value) (o_t_rules : Value) (o_t_words : Value) (o_t_shorts : Value) (o_t_guards : Value) (o_t_readRules : Value) (o_t_readTable : Value) (o_t_readWords : Value) (o_t_readShorts : Value) (o_t_readGuards : Value) (o_t_toldOnes : Value) (o_t_state : Value) (o_t_isAwake : Value) (o_t_sums : Value) (o_t_tongue : Value) (o_t_bestTable : Value) (o_t_may : Value) (o_t_mouth : Value) (o_t_mouthThen : Value) (o_t_isKept : Value) (o_t_torn : Value) (t_lanes : Nat → Int32) (t_lengths : Nat → Int32) (t_cells : Nat → Int32) (x1 : Int32) (x2 : Int32) (x3 : Int32) (post : Int32 → (Nat → Int32) → Prop) (h : wp_X12_lay t_lanes t_lengths t_cells x1 x2 x3 post) : Ci l D g yX12_lay (.code yX12_lay cX12_lay 4 (some .int) :: wsL_law) rmX12_lay [.ref a_t, .int x1, .int x2, .int x3] [(a_t, .inr (12, [o_t_tape, o_t_taped, o_t_fault, o_t_broken, o_t_brokenAt, o_t_spot, o_t_here, o_t_token, o_t_value, o_t_cuts, o_t_letters, o_t_plain, o_t_rules, o_t_words, o_t_shorts, o_t_guards, o_t_readRules, o_t_readTable, o_t_readWords, o_t_readShorts, o_t_readGuards, o_t_toldOnes, o_t_state, o_t_isAwake, o_t_sums, o_t_tongue, o_t_bestTable, o_t_may, o_t_mouth, o_t_mouthThen, o_t_isKept, .ref a_t_lanes, .ref a_t_lengths, .ref a_t_cells, o_t_torn])), (a_t_lanes, .inl (g.1 1, 4, .inl t_lanes)), (a_t_lengths, .inl (g.1 1, 4, .inl t_lengths)), (a_t_cells, .inl (g.1 1, 160, .inl t_cells))] (fun r W' => ∃ (nw_t_cells : Nat → Int32), W' = [(a_t, .inr (12, [o_t_tape, o_t_taped, o_t_fault, o_t_broken, o_t_brokenAt, o_t_spot, o_t_here, o_t_token, o_t_value, o_t_cuts, o_t_letters, o_t_plain, o_t_rules, o_t_words, o_t_shorts, o_t_guards, o_t_readRules, o_t_readTable, o_t_readWords, o_t_readShorts, o_t_readGuards, o_t_toldOnes, o_t_state, o_t_isAwake, o_t_sums, o_t_tongue, o_t_bestTable, o_t_may, o_t_mouth, o_t_mouthThen, o_t_isKept, .ref a_t_lanes, .ref a_t_lengths, .ref a_t_cells, o_t_torn])), (a_t_lanes, .inl (g.1 1, 4, .inl t_lanes)), (a_t_lengths, .inl (g.1 1, 4, .inl t_lengths)), (a_t_cells, .inl (g.1 1, 160, .inl nw_t_cells))] ∧ post r nw_t_cells) := by
  refine Ci.of (cc := cX12_lay) (maxL := 4) (by decide) rfl (Nat.le_of_ble_eq_true rfl) ?_
  intro p e s m args below meth c A Q hx hb hml hts hown hA H locs hP hD hS hG ls hl hret
  have hown : s.vm.findClass RX12 = some m.cls := hown
  have hl : lv_has ls 4 [(0, .ref a_t), (1, .int x1), (2, .int x2), (3, .int x3)] := hl
  have lk0 := hts (.constantLong RX12 265 (3)) (List.mem_cons_of_mem _ (inR_38 (List.mem_of_getElem? (i := 18) rfl)))
  have lk1 := hts (.fieldLink RX12 75 "KnockWallModel" "lanes" "[I") (List.mem_cons_of_mem _ (inR_8 (List.mem_of_getElem? (i := 23) rfl)))
  have lk2 := hts (.fieldLink RX12 78 "KnockWallModel" "lengths" "[I") (List.mem_cons_of_mem _ (inR_9 (List.mem_of_getElem? (i := 0) rfl)))
  have lk3 := hts (.fieldLink RX12 81 "KnockWallModel" "cells" "[I") (List.mem_cons_of_mem _ (inR_9 (List.mem_of_getElem? (i := 1) rfl)))
  unfold wp_X12_lay at h
  try dsimp only at h
  refine lv_iload_n hx hb dX12_lay_0 rfl (lv_at hl 1 rfl) ?_
  refine lv_i2l hx hb dX12_lay_1 rfl ?_
  refine lv_lconst (v := 0) hx hb dX12_lay_2 (by decide) ?_
  refine lv_ldc2 hx hb hown lk0 dX12_lay_3 ?_
  refine k_i (wr := [(a_t, .inr (12, [o_t_tape, o_t_taped, o_t_fault, o_t_broken, o_t_brokenAt, o_t_spot, o_t_here, o_t_token, o_t_value, o_t_cuts, o_t_letters, o_t_plain, o_t_rules, o_t_words, o_t_shorts, o_t_guards, o_t_readRules, o_t_readTable, o_t_readWords, o_t_readShorts, o_t_readGuards, o_t_toldOnes, o_t_state, o_t_isAwake, o_t_sums, o_t_tongue, o_t_bestTable, o_t_may, o_t_mouth, o_t_mouthThen, o_t_isKept, .ref a_t_lanes, .ref a_t_lengths, .ref a_t_cells, o_t_torn])), (a_t_lanes, .inl (g.1 1, 4, .inl t_lanes)), (a_t_lengths, .inl (g.1 1, 4, .inl t_lengths)), (a_t_cells, .inl (g.1 1, 160, .inl t_cells))]) hA hP hD hS [] [0, 1, 2, 3] rfl rfl (by decide) (by decide) (va_runS (As := [.long x1.toInt64, .long 0, .long ((3))]) (rest := []) ⟨hx, hb, hml, hown, hts⟩ (c_X12_in l D g x1.toInt64 0 ((3)) _ h H.size) (va_cwS 3 hts (gdS (inR_10 (List.mem_of_getElem? (i := 1) rfl)) (inR_10 (List.mem_of_getElem? (i := 2) rfl)) (inR_1 (List.mem_of_getElem? (i := 5) rfl)) (inR_10 (List.mem_of_getElem? (i := 3) rfl))) rfl rfl rfl hdX12_in.2 ⟨Nat.le_of_ble_eq_true rfl, Nat.le_of_ble_eq_true rfl⟩) (k_preS hG hA hP hD hS [] rfl (by decide)) rfl rfl hl.1 rfl (lv_room (Nat.le_of_ble_eq_true rfl)) dX12_lay_6 ⟨Nat.zero_le _, Nat.zero_le _⟩) (fun r1 W' H locs h hP hD hS => ?_)
  obtain ⟨rfl, h⟩ := h
  have hP : va_P D vwCl [(a_t, .inr (12, [o_t_tape, o_t_taped, o_t_fault, o_t_broken, o_t_brokenAt, o_t_spot, o_t_here, o_t_token, o_t_value, o_t_cuts, o_t_letters, o_t_plain, o_t_rules, o_t_words, o_t_shorts, o_t_guards, o_t_readRules, o_t_readTable, o_t_readWords, o_t_readShorts, o_t_readGuards, o_t_toldOnes, o_t_state, o_t_isAwake, o_t_sums, o_t_tongue, o_t_bestTable, o_t_may, o_t_mouth, o_t_mouthThen, o_t_isKept, .ref a_t_lanes, .ref a_t_lengths, .ref a_t_cells, o_t_torn])), (a_t_lanes, .inl (g.1 1, 4, .inl t_lanes)), (a_t_lengths, .inl (g.1 1, 4, .inl t_lengths)), (a_t_cells, .inl (g.1 1, 160, .inl t_cells))] H := hP.sub [0, 1, 2, 3] rfl
  have hD : va_D A [(a_t, .inr (12, [o_t_tape, o_t_taped, o_t_fault, o_t_broken, o_t_brokenAt, o_t_spot, o_t_here, o_t_token, o_t_value, o_t_cuts, o_t_letters, o_t_plain, o_t_rules, o_t_words, o_t_shorts, o_t_guards, o_t_readRules, o_t_readTable, o_t_readWords, o_t_readShorts, o_t_readGuards, o_t_toldOnes, o_t_state, o_t_isAwake, o_t_sums, o_t_tongue, o_t_bestTable, o_t_may, o_t_mouth, o_t_mouthThen, o_t_isKept, .ref a_t_lanes, .ref a_t_lengths, .ref a_t_cells, o_t_torn])), (a_t_lanes, .inl (g.1 1, 4, .inl t_lanes)), (a_t_lengths, .inl (g.1 1, 4, .inl t_lengths)), (a_t_cells, .inl (g.1 1, 160, .inl t_cells))] := hD.sub [0, 1, 2, 3] (by decide) rfl
  refine lv_if_ne (tgt := 14) hx hb dX12_lay_9 (by decide) (fun c2 => ?_) (fun c2 => ?_)
  · have h := h.1 c2
    refine lv_aload_n hx hb dX12_lay_14 rfl (lv_at hl 0 rfl) ?_
    refine va_get (ci := 12) (v := .ref a_t_lanes) (C := RX12) (T := TX12) (N := 35) hx hb hts icX12 hown hG.k hP 0 rfl rfl 31 (by decide) lk1 (fun _ h9 => h9) rfl dX12_lay_15 ?_
    refine lv_iload_n hx hb dX12_lay_18 rfl (lv_at hl 1 rfl) ?_
    obtain ⟨hv3, h⟩ := h
    refine va_iald hx hb hG.k hP 1 1 rfl rfl hv3 dX12_lay_19 ?_
    refine lv_bipush (v := (-4)) hx hb dX12_lay_20 (by decide) ?_
    refine lv_icmp_ne (tgt := 28) hx hb dX12_lay_22 (by decide) (fun c4 => ?_) (fun c4 => ?_)
    · have h := h.1 c4
      refine lv_iload_n hx hb dX12_lay_28 rfl (lv_at hl 2 rfl) ?_
      refine lv_i2l hx hb dX12_lay_29 rfl ?_
      refine lv_lconst (v := 0) hx hb dX12_lay_30 (by decide) ?_
      refine lv_aload_n hx hb dX12_lay_31 rfl (lv_at hl 0 rfl) ?_
      refine va_get (ci := 12) (v := .ref a_t_lengths) (C := RX12) (T := TX12) (N := 35) hx hb hts icX12 hown hG.k hP 0 rfl rfl 32 (by decide) lk2 (fun _ h9 => h9) rfl dX12_lay_32 ?_
      refine lv_iload_n hx hb dX12_lay_35 rfl (lv_at hl 1 rfl) ?_
      obtain ⟨hv5, h⟩ := h
      refine va_iald hx hb hG.k hP 2 1 rfl rfl hv5 dX12_lay_36 ?_
      refine lv_iconst (v := 1) hx hb dX12_lay_37 (by decide) ?_
      refine lv_isub hx hb dX12_lay_38 ?_
      refine lv_i2l hx hb dX12_lay_39 rfl ?_
      refine k_i (wr := [(a_t, .inr (12, [o_t_tape, o_t_taped, o_t_fault, o_t_broken, o_t_brokenAt, o_t_spot, o_t_here, o_t_token, o_t_value, o_t_cuts, o_t_letters, o_t_plain, o_t_rules, o_t_words, o_t_shorts, o_t_guards, o_t_readRules, o_t_readTable, o_t_readWords, o_t_readShorts, o_t_readGuards, o_t_toldOnes, o_t_state, o_t_isAwake, o_t_sums, o_t_tongue, o_t_bestTable, o_t_may, o_t_mouth, o_t_mouthThen, o_t_isKept, .ref a_t_lanes, .ref a_t_lengths, .ref a_t_cells, o_t_torn])), (a_t_lanes, .inl (g.1 1, 4, .inl t_lanes)), (a_t_lengths, .inl (g.1 1, 4, .inl t_lengths)), (a_t_cells, .inl (g.1 1, 160, .inl t_cells))]) hA hP hD hS [] [0, 1, 2, 3] rfl rfl (by decide) (by decide) (va_runS (As := [.long x2.toInt64, .long 0, .long (((t_lengths x1.toNatClampNeg) - 1).toInt64)]) (rest := []) ⟨hx, hb, hml, hown, hts⟩ (c_X12_in l D g x2.toInt64 0 (((t_lengths x1.toNatClampNeg) - 1).toInt64) _ h H.size) (va_cwS 3 hts (gdS (inR_10 (List.mem_of_getElem? (i := 1) rfl)) (inR_10 (List.mem_of_getElem? (i := 2) rfl)) (inR_1 (List.mem_of_getElem? (i := 5) rfl)) (inR_10 (List.mem_of_getElem? (i := 3) rfl))) rfl rfl rfl hdX12_in.2 ⟨Nat.le_of_ble_eq_true rfl, Nat.le_of_ble_eq_true rfl⟩) (k_preS hG hA hP hD hS [] rfl (by decide)) rfl rfl hl.1 rfl (lv_room (Nat.le_of_ble_eq_true rfl)) dX12_lay_40 ⟨Nat.zero_le _, Nat.zero_le _⟩) (fun r6 W' H locs h hP hD hS => ?_)
      obtain ⟨rfl, h⟩ := h
      have hP : va_P D vwCl [(a_t, .inr (12, [o_t_tape, o_t_taped, o_t_fault, o_t_broken, o_t_brokenAt, o_t_spot, o_t_here, o_t_token, o_t_value, o_t_cuts, o_t_letters, o_t_plain, o_t_rules, o_t_words, o_t_shorts, o_t_guards, o_t_readRules, o_t_readTable, o_t_readWords, o_t_readShorts, o_t_readGuards, o_t_toldOnes, o_t_state, o_t_isAwake, o_t_sums, o_t_tongue, o_t_bestTable, o_t_may, o_t_mouth, o_t_mouthThen, o_t_isKept, .ref a_t_lanes, .ref a_t_lengths, .ref a_t_cells, o_t_torn])), (a_t_lanes, .inl (g.1 1, 4, .inl t_lanes)), (a_t_lengths, .inl (g.1 1, 4, .inl t_lengths)), (a_t_cells, .inl (g.1 1, 160, .inl t_cells))] H := hP.sub [0, 1, 2, 3] rfl
      have hD : va_D A [(a_t, .inr (12, [o_t_tape, o_t_taped, o_t_fault, o_t_broken, o_t_brokenAt, o_t_spot, o_t_here, o_t_token, o_t_value, o_t_cuts, o_t_letters, o_t_plain, o_t_rules, o_t_words, o_t_shorts, o_t_guards, o_t_readRules, o_t_readTable, o_t_readWords, o_t_readShorts, o_t_readGuards, o_t_toldOnes, o_t_state, o_t_isAwake, o_t_sums, o_t_tongue, o_t_bestTable, o_t_may, o_t_mouth, o_t_mouthThen, o_t_isKept, .ref a_t_lanes, .ref a_t_lengths, .ref a_t_cells, o_t_torn])), (a_t_lanes, .inl (g.1 1, 4, .inl t_lanes)), (a_t_lengths, .inl (g.1 1, 4, .inl t_lengths)), (a_t_cells, .inl (g.1 1, 160, .inl t_cells))] := hD.sub [0, 1, 2, 3] (by decide) rfl
      refine lv_if_ne (tgt := 49) hx hb dX12_lay_43 (by decide) (fun c7 => ?_) (fun c7 => ?_)
      · have h := h.1 c7
        refine lv_aload_n hx hb dX12_lay_49 rfl (lv_at hl 0 rfl) ?_
        refine va_get (ci := 12) (v := .ref a_t_cells) (C := RX12) (T := TX12) (N := 35) hx hb hts icX12 hown hG.k hP 0 rfl rfl 33 (by decide) lk3 (fun _ h9 => h9) rfl dX12_lay_50 ?_
        refine lv_bipush (v := 40) hx hb dX12_lay_53 (by decide) ?_
        refine lv_iload_n hx hb dX12_lay_55 rfl (lv_at hl 1 rfl) ?_
        refine lv_imul hx hb dX12_lay_56 ?_
        refine lv_iload_n hx hb dX12_lay_57 rfl (lv_at hl 2 rfl) ?_
        refine lv_iadd hx hb dX12_lay_58 ?_
        refine lv_aload_n hx hb dX12_lay_59 rfl (lv_at hl 0 rfl) ?_
        refine va_get (ci := 12) (v := .ref a_t_lanes) (C := RX12) (T := TX12) (N := 35) hx hb hts icX12 hown hG.k hP 0 rfl rfl 31 (by decide) lk1 (fun _ h9 => h9) rfl dX12_lay_60 ?_
        refine lv_iload_n hx hb dX12_lay_63 rfl (lv_at hl 1 rfl) ?_
        obtain ⟨hv8, h⟩ := h
        refine va_iald hx hb hG.k hP 1 1 rfl rfl hv8 dX12_lay_64 ?_
        refine lv_if_ne (tgt := 78) hx hb dX12_lay_65 (by decide) (fun c9 => ?_) (fun c9 => ?_)
        · have h := h.1 c9
          refine lv_aload_n hx hb dX12_lay_78 rfl (lv_at hl 0 rfl) ?_
          refine va_get (ci := 12) (v := .ref a_t_lanes) (C := RX12) (T := TX12) (N := 35) hx hb hts icX12 hown hG.k hP 0 rfl rfl 31 (by decide) lk1 (fun _ h9 => h9) rfl dX12_lay_79 ?_
          refine lv_iload_n hx hb dX12_lay_82 rfl (lv_at hl 1 rfl) ?_
          obtain ⟨hv10, h⟩ := h
          refine va_iald hx hb hG.k hP 1 1 rfl rfl hv10 dX12_lay_83 ?_
          refine lv_iconst (v := 1) hx hb dX12_lay_84 (by decide) ?_
          refine lv_icmp_ne (tgt := 98) hx hb dX12_lay_85 (by decide) (fun c11 => ?_) (fun c11 => ?_)
          · have h := h.1 c11
            refine lv_iload_n hx hb dX12_lay_98 rfl (lv_at hl 3 rfl) ?_
            obtain ⟨hv12, h⟩ := h
            refine va_iast hx hb hG.k hP hD hS 3 1 rfl rfl hv12 dX12_lay_99 (fun H locs hP hD hS => ?_)
            have hP : va_P D vwCl [(a_t, .inr (12, [o_t_tape, o_t_taped, o_t_fault, o_t_broken, o_t_brokenAt, o_t_spot, o_t_here, o_t_token, o_t_value, o_t_cuts, o_t_letters, o_t_plain, o_t_rules, o_t_words, o_t_shorts, o_t_guards, o_t_readRules, o_t_readTable, o_t_readWords, o_t_readShorts, o_t_readGuards, o_t_toldOnes, o_t_state, o_t_isAwake, o_t_sums, o_t_tongue, o_t_bestTable, o_t_may, o_t_mouth, o_t_mouthThen, o_t_isKept, .ref a_t_lanes, .ref a_t_lengths, .ref a_t_cells, o_t_torn])), (a_t_lanes, .inl (g.1 1, 4, .inl t_lanes)), (a_t_lengths, .inl (g.1 1, 4, .inl t_lengths)), (a_t_cells, .inl (g.1 1, 160, .inl (upd t_cells ((40 * x1) + x2).toNatClampNeg x3)))] H := hP
            have hD : va_D A [(a_t, .inr (12, [o_t_tape, o_t_taped, o_t_fault, o_t_broken, o_t_brokenAt, o_t_spot, o_t_here, o_t_token, o_t_value, o_t_cuts, o_t_letters, o_t_plain, o_t_rules, o_t_words, o_t_shorts, o_t_guards, o_t_readRules, o_t_readTable, o_t_readWords, o_t_readShorts, o_t_readGuards, o_t_toldOnes, o_t_state, o_t_isAwake, o_t_sums, o_t_tongue, o_t_bestTable, o_t_may, o_t_mouth, o_t_mouthThen, o_t_isKept, .ref a_t_lanes, .ref a_t_lengths, .ref a_t_cells, o_t_torn])), (a_t_lanes, .inl (g.1 1, 4, .inl t_lanes)), (a_t_lengths, .inl (g.1 1, 4, .inl t_lengths)), (a_t_cells, .inl (g.1 1, 160, .inl (upd t_cells ((40 * x1) + x2).toNatClampNeg x3)))] := hD
            refine lv_iconst (v := 1) hx hb dX12_lay_100 (by decide) ?_
            exact hret 1 _ _ _ _ _ ⟨upd t_cells ((40 * x1) + x2).toNatClampNeg x3, rfl, h⟩ hP hD hS dX12_lay_101
          · have h := h.2 c11
            refine lv_iload_n hx hb dX12_lay_88 rfl (lv_at hl 3 rfl) ?_
            refine lv_bipush (v := 16) hx hb dX12_lay_89 (by decide) ?_
            refine lv_ishl hx hb dX12_lay_91 ?_
            refine lv_bipush (v := 16) hx hb dX12_lay_92 (by decide) ?_
            refine lv_ishr hx hb dX12_lay_94 ?_
            refine lv_goto (tgt := 99) hx hb dX12_lay_95 (by decide) ?_
            obtain ⟨hv13, h⟩ := h
            refine va_iast hx hb hG.k hP hD hS 3 1 rfl rfl hv13 dX12_lay_99 (fun H locs hP hD hS => ?_)
            have hP : va_P D vwCl [(a_t, .inr (12, [o_t_tape, o_t_taped, o_t_fault, o_t_broken, o_t_brokenAt, o_t_spot, o_t_here, o_t_token, o_t_value, o_t_cuts, o_t_letters, o_t_plain, o_t_rules, o_t_words, o_t_shorts, o_t_guards, o_t_readRules, o_t_readTable, o_t_readWords, o_t_readShorts, o_t_readGuards, o_t_toldOnes, o_t_state, o_t_isAwake, o_t_sums, o_t_tongue, o_t_bestTable, o_t_may, o_t_mouth, o_t_mouthThen, o_t_isKept, .ref a_t_lanes, .ref a_t_lengths, .ref a_t_cells, o_t_torn])), (a_t_lanes, .inl (g.1 1, 4, .inl t_lanes)), (a_t_lengths, .inl (g.1 1, 4, .inl t_lengths)), (a_t_cells, .inl (g.1 1, 160, .inl (upd t_cells ((40 * x1) + x2).toNatClampNeg ((x3 <<< (16 &&& 31)) >>> (16 &&& 31)))))] H := hP
            have hD : va_D A [(a_t, .inr (12, [o_t_tape, o_t_taped, o_t_fault, o_t_broken, o_t_brokenAt, o_t_spot, o_t_here, o_t_token, o_t_value, o_t_cuts, o_t_letters, o_t_plain, o_t_rules, o_t_words, o_t_shorts, o_t_guards, o_t_readRules, o_t_readTable, o_t_readWords, o_t_readShorts, o_t_readGuards, o_t_toldOnes, o_t_state, o_t_isAwake, o_t_sums, o_t_tongue, o_t_bestTable, o_t_may, o_t_mouth, o_t_mouthThen, o_t_isKept, .ref a_t_lanes, .ref a_t_lengths, .ref a_t_cells, o_t_torn])), (a_t_lanes, .inl (g.1 1, 4, .inl t_lanes)), (a_t_lengths, .inl (g.1 1, 4, .inl t_lengths)), (a_t_cells, .inl (g.1 1, 160, .inl (upd t_cells ((40 * x1) + x2).toNatClampNeg ((x3 <<< (16 &&& 31)) >>> (16 &&& 31)))))] := hD
            refine lv_iconst (v := 1) hx hb dX12_lay_100 (by decide) ?_
            exact hret 1 _ _ _ _ _ ⟨upd t_cells ((40 * x1) + x2).toNatClampNeg ((x3 <<< (16 &&& 31)) >>> (16 &&& 31)), rfl, h⟩ hP hD hS dX12_lay_101
        · have h := h.2 c9
          refine lv_iload_n hx hb dX12_lay_68 rfl (lv_at hl 3 rfl) ?_
          refine lv_bipush (v := 24) hx hb dX12_lay_69 (by decide) ?_
          refine lv_ishl hx hb dX12_lay_71 ?_
          refine lv_bipush (v := 24) hx hb dX12_lay_72 (by decide) ?_
          refine lv_ishr hx hb dX12_lay_74 ?_
          refine lv_goto (tgt := 99) hx hb dX12_lay_75 (by decide) ?_
          obtain ⟨hv14, h⟩ := h
          refine va_iast hx hb hG.k hP hD hS 3 1 rfl rfl hv14 dX12_lay_99 (fun H locs hP hD hS => ?_)
          have hP : va_P D vwCl [(a_t, .inr (12, [o_t_tape, o_t_taped, o_t_fault, o_t_broken, o_t_brokenAt, o_t_spot, o_t_here, o_t_token, o_t_value, o_t_cuts, o_t_letters, o_t_plain, o_t_rules, o_t_words, o_t_shorts, o_t_guards, o_t_readRules, o_t_readTable, o_t_readWords, o_t_readShorts, o_t_readGuards, o_t_toldOnes, o_t_state, o_t_isAwake, o_t_sums, o_t_tongue, o_t_bestTable, o_t_may, o_t_mouth, o_t_mouthThen, o_t_isKept, .ref a_t_lanes, .ref a_t_lengths, .ref a_t_cells, o_t_torn])), (a_t_lanes, .inl (g.1 1, 4, .inl t_lanes)), (a_t_lengths, .inl (g.1 1, 4, .inl t_lengths)), (a_t_cells, .inl (g.1 1, 160, .inl (upd t_cells ((40 * x1) + x2).toNatClampNeg ((x3 <<< (24 &&& 31)) >>> (24 &&& 31)))))] H := hP
          have hD : va_D A [(a_t, .inr (12, [o_t_tape, o_t_taped, o_t_fault, o_t_broken, o_t_brokenAt, o_t_spot, o_t_here, o_t_token, o_t_value, o_t_cuts, o_t_letters, o_t_plain, o_t_rules, o_t_words, o_t_shorts, o_t_guards, o_t_readRules, o_t_readTable, o_t_readWords, o_t_readShorts, o_t_readGuards, o_t_toldOnes, o_t_state, o_t_isAwake, o_t_sums, o_t_tongue, o_t_bestTable, o_t_may, o_t_mouth, o_t_mouthThen, o_t_isKept, .ref a_t_lanes, .ref a_t_lengths, .ref a_t_cells, o_t_torn])), (a_t_lanes, .inl (g.1 1, 4, .inl t_lanes)), (a_t_lengths, .inl (g.1 1, 4, .inl t_lengths)), (a_t_cells, .inl (g.1 1, 160, .inl (upd t_cells ((40 * x1) + x2).toNatClampNeg ((x3 <<< (24 &&& 31)) >>> (24 &&& 31)))))] := hD
          refine lv_iconst (v := 1) hx hb dX12_lay_100 (by decide) ?_
          exact hret 1 _ _ _ _ _ ⟨upd t_cells ((40 * x1) + x2).toNatClampNeg ((x3 <<< (24 &&& 31)) >>> (24 &&& 31)), rfl, h⟩ hP hD hS dX12_lay_101
      · have h := h.2 c7
        refine lv_bipush (v := (-12)) hx hb dX12_lay_46 (by decide) ?_
        exact hret ((-12)) _ _ _ _ _ ⟨t_cells, rfl, h⟩ hP hD hS dX12_lay_48
    · have h := h.2 c4
      refine lv_bipush (v := (-11)) hx hb dX12_lay_25 (by decide) ?_
      exact hret ((-11)) _ _ _ _ _ ⟨t_cells, rfl, h⟩ hP hD hS dX12_lay_27
  · have h := h.2 c2
    refine lv_iconst (v := (-1)) hx hb dX12_lay_12 (by decide) ?_
    exact hret ((-1)) _ _ _ _ _ ⟨t_cells, rfl, h⟩ hP hD hS dX12_lay_13
theorem hdX12_read : yX12_read.cls = RX12 ∧ yX12_read.cls ≠ "java/lang/invoke/MethodHandle" ∧ yX12_read.cls ≠ "java/lang/invoke/VarHandle" ∧ (parseMethodDescriptor yX12_read.desc).map (fun d => d.parameters.length) = some 4 := by decide +kernel
abbrev rmX12_read : Room := { frames := 3, cells := 0, slots := 0, locals := 300 }
set_option maxHeartbeats 4000000 in
set_option maxRecDepth 100000 in
theorem c_X12_read (l : Launch) (D : va_G) (g : gE) (a_t : Nat) (a_t_state : Nat) (a_t_cells : Nat) (a_t_lanes : Nat) (a_t_lengths : Nat) (o_t_tape : Value) (o_t_taped : Value) (o_t_fault : Value) (o_t_broken : Value) (o_t_brokenAt : Value) (o_t_spot : Value) (o_t_here : Value) (o_t_token : Value) (o_t_value : Value) (o_t_cuts : Value) (o_t_letters : Value) (o_t_plain : Value) (o_t_rules : Value) (o_t_words : Value) (o_t_shorts : Value) (o_t_guards : Value) (o_t_readRules : Value) (o_t_readTable : Value) (o_t_readWords : Value) (o_t_readShorts : Value) (o_t_readGuards : Value) (o_t_toldOnes : Value) (o_t_sums : Value) (o_t_tongue : Value) (o_t_bestTable : Value) (o_t_may : Value) (o_t_mouth : Value) (o_t_mouthThen : Value) (o_t_isKept : Value) (t_isAwake : Int32) (t_torn : Int32) (t_state : Nat → Int32) (t_cells : Nat → Int32) (t_lanes : Nat → Int32) (t_lengths : Nat → Int32) (x1 : Int32) (x2 : Int32) (x3 : Int32) (x4 : Int32) (post : Int32 → Int32 → Int32 → (Nat → Int32) → Prop) (h : wp_X12_read t_isAwake t_torn t_state t_cells t_lanes t_lengths x1 x2 x3 x4 post) : Ci l D g yX12_read (.code yX12_read cX12_read 8 (some .int) :: wsL_law) rmX12_read [.ref a_t, .int x1, .int x2, .int x3, .int x4] [(a_t, .inr (12, [o_t_tape, o_t_taped, o_t_fault, o_t_broken, o_t_brokenAt, o_t_spot, o_t_here, o_t_token, o_t_value, o_t_cuts, o_t_letters, o_t_plain, o_t_rules, o_t_words, o_t_shorts, o_t_guards, o_t_readRules, o_t_readTable, o_t_readWords, o_t_readShorts, o_t_readGuards, o_t_toldOnes, .ref a_t_state, .int t_isAwake, o_t_sums, o_t_tongue, o_t_bestTable, o_t_may, o_t_mouth, o_t_mouthThen, o_t_isKept, .ref a_t_lanes, .ref a_t_lengths, .ref a_t_cells, .int t_torn])), (a_t_state, .inl (g.1 1, 192, .inl t_state)), (a_t_cells, .inl (g.1 1, 160, .inl t_cells)), (a_t_lanes, .inl (g.1 1, 4, .inl t_lanes)), (a_t_lengths, .inl (g.1 1, 4, .inl t_lengths))] (fun r W' => ∃ (nw_t_isAwake : Int32) (nw_t_torn : Int32) (nw_t_state : Nat → Int32), W' = [(a_t, .inr (12, [o_t_tape, o_t_taped, o_t_fault, o_t_broken, o_t_brokenAt, o_t_spot, o_t_here, o_t_token, o_t_value, o_t_cuts, o_t_letters, o_t_plain, o_t_rules, o_t_words, o_t_shorts, o_t_guards, o_t_readRules, o_t_readTable, o_t_readWords, o_t_readShorts, o_t_readGuards, o_t_toldOnes, .ref a_t_state, .int nw_t_isAwake, o_t_sums, o_t_tongue, o_t_bestTable, o_t_may, o_t_mouth, o_t_mouthThen, o_t_isKept, .ref a_t_lanes, .ref a_t_lengths, .ref a_t_cells, .int nw_t_torn])), (a_t_state, .inl (g.1 1, 192, .inl nw_t_state)), (a_t_cells, .inl (g.1 1, 160, .inl t_cells)), (a_t_lanes, .inl (g.1 1, 4, .inl t_lanes)), (a_t_lengths, .inl (g.1 1, 4, .inl t_lengths))] ∧ post r nw_t_isAwake nw_t_torn nw_t_state) := by
  refine Ci.of (cc := cX12_read) (maxL := 8) (by decide) rfl (Nat.le_of_ble_eq_true rfl) ?_
  intro p e s m args below meth c A Q hx hb hml hts hown hA H locs hP hD hS hG ls hl hret
  have hown : s.vm.findClass RX12 = some m.cls := hown
  have hl : lv_has ls 8 [(0, .ref a_t), (1, .int x1), (2, .int x2), (3, .int x3), (4, .int x4)] := hl
  have lk0 := hts (.constantLong RX12 265 (3)) (List.mem_cons_of_mem _ (inR_38 (List.mem_of_getElem? (i := 18) rfl)))
  have lk1 := hts (.constantLong RX12 290 (2)) (List.mem_cons_of_mem _ (inR_43 (List.mem_of_getElem? (i := 8) rfl)))
  have lk2 := hts (.constantLong RX12 180 (24)) (List.mem_cons_of_mem _ (inR_23 (List.mem_of_getElem? (i := 1) rfl)))
  have lk3 := hts (.fieldLink RX12 311 "KnockWallModel" "torn" "I") (List.mem_cons_of_mem _ (inR_51 (List.mem_of_getElem? (i := 14) rfl)))
  have lk4 := hts (.fieldLink RX12 49 "KnockWallModel" "state" "[I") (List.mem_cons_of_mem _ (inR_8 (List.mem_of_getElem? (i := 14) rfl)))
  have lk5 := hts (.fieldLink RX12 81 "KnockWallModel" "cells" "[I") (List.mem_cons_of_mem _ (inR_9 (List.mem_of_getElem? (i := 1) rfl)))
  have lk6 := hts (.fieldLink RX12 75 "KnockWallModel" "lanes" "[I") (List.mem_cons_of_mem _ (inR_8 (List.mem_of_getElem? (i := 23) rfl)))
  have lk7 := hts (.fieldLink RX12 78 "KnockWallModel" "lengths" "[I") (List.mem_cons_of_mem _ (inR_9 (List.mem_of_getElem? (i := 0) rfl)))
  have L183 : ∀ (x1 : Int32) (x3 : Int32) (x5 : Int32) (x6 : Int32) (t_isAwake : Int32) (t_torn : Int32), ∀ (n : Nat) (x7 : Int32) (t_state : Nat → Int32), fixN (F_X12_read_183 t_cells x1 x3 x5 x6 t_isAwake post) n (x7, t_state) → ∀ (H : Heap) (locs : List Loc), va_P D vwCl [(a_t, .inr (12, [o_t_tape, o_t_taped, o_t_fault, o_t_broken, o_t_brokenAt, o_t_spot, o_t_here, o_t_token, o_t_value, o_t_cuts, o_t_letters, o_t_plain, o_t_rules, o_t_words, o_t_shorts, o_t_guards, o_t_readRules, o_t_readTable, o_t_readWords, o_t_readShorts, o_t_readGuards, o_t_toldOnes, .ref a_t_state, .int t_isAwake, o_t_sums, o_t_tongue, o_t_bestTable, o_t_may, o_t_mouth, o_t_mouthThen, o_t_isKept, .ref a_t_lanes, .ref a_t_lengths, .ref a_t_cells, .int t_torn])), (a_t_state, .inl (g.1 1, 192, .inl t_state)), (a_t_cells, .inl (g.1 1, 160, .inl t_cells)), (a_t_lanes, .inl (g.1 1, 4, .inl t_lanes)), (a_t_lengths, .inl (g.1 1, 4, .inl t_lengths))] H → va_D A [(a_t, .inr (12, [o_t_tape, o_t_taped, o_t_fault, o_t_broken, o_t_brokenAt, o_t_spot, o_t_here, o_t_token, o_t_value, o_t_cuts, o_t_letters, o_t_plain, o_t_rules, o_t_words, o_t_shorts, o_t_guards, o_t_readRules, o_t_readTable, o_t_readWords, o_t_readShorts, o_t_readGuards, o_t_toldOnes, .ref a_t_state, .int t_isAwake, o_t_sums, o_t_tongue, o_t_bestTable, o_t_may, o_t_mouth, o_t_mouthThen, o_t_isKept, .ref a_t_lanes, .ref a_t_lengths, .ref a_t_cells, .int t_torn])), (a_t_state, .inl (g.1 1, 192, .inl t_state)), (a_t_cells, .inl (g.1 1, 160, .inl t_cells)), (a_t_lanes, .inl (g.1 1, 4, .inl t_lanes)), (a_t_lengths, .inl (g.1 1, 4, .inl t_lengths))] → va_S A s.heap H locs → ∀ (ls : Array Slot), lv_has ls 8 [(0, .ref a_t), (1, .int x1), (3, .int x3), (5, .int x5), (6, .int x6), (7, .int x7)] → W p l e rmX12_read s m args below meth c H locs 0 0 Q (F0 m 183 ls []) := by
    intro x1 x3 x5 x6 t_isAwake t_torn
    intro n
    induction n with
    | zero => intro x7 t_state h; exact h.elim
    | succ n ih =>
      intro x7 t_state h H locs hP hD hS ls hl
      have h : F_X12_read_183 t_cells x1 x3 x5 x6 t_isAwake post (fixN (F_X12_read_183 t_cells x1 x3 x5 x6 t_isAwake post) n) (x7, t_state) := h
      unfold F_X12_read_183 at h
      try dsimp only at h
      refine lv_iload hx hb dX12_read_183 (lv_at hl 5 rfl) ?_
      refine lv_iload hx hb dX12_read_185 (lv_at hl 4 rfl) ?_
      refine lv_icmp_ge (tgt := 236) hx hb dX12_read_187 (by decide) (fun c9 => ?_) (fun c9 => ?_)
      · have h := h.1 c9
        refine lv_aload_n hx hb dX12_read_236 rfl (lv_at hl 0 rfl) ?_
        refine lv_iload hx hb dX12_read_237 (lv_at hl 3 rfl) ?_
        refine va_put (ci := 12) (v := .int x5) (C := RX12) (T := TX12) (N := 35) hx hb hts icX12 tyX12 tyX12_ok nmX12 hown hG.k hP hD hS 0 rfl rfl 34 (by decide) lk3 (fun _ h9 => h9) rfl (tyX12_ok 34 (by decide)) rfl rfl (Nat.le_of_ble_eq_true rfl) dX12_read_239 (fun H locs hP hD hS => ?_)
        have hP : va_P D vwCl [(a_t, .inr (12, [o_t_tape, o_t_taped, o_t_fault, o_t_broken, o_t_brokenAt, o_t_spot, o_t_here, o_t_token, o_t_value, o_t_cuts, o_t_letters, o_t_plain, o_t_rules, o_t_words, o_t_shorts, o_t_guards, o_t_readRules, o_t_readTable, o_t_readWords, o_t_readShorts, o_t_readGuards, o_t_toldOnes, .ref a_t_state, .int t_isAwake, o_t_sums, o_t_tongue, o_t_bestTable, o_t_may, o_t_mouth, o_t_mouthThen, o_t_isKept, .ref a_t_lanes, .ref a_t_lengths, .ref a_t_cells, .int x5])), (a_t_state, .inl (g.1 1, 192, .inl t_state)), (a_t_cells, .inl (g.1 1, 160, .inl t_cells)), (a_t_lanes, .inl (g.1 1, 4, .inl t_lanes)), (a_t_lengths, .inl (g.1 1, 4, .inl t_lengths))] H := hP
        have hD : va_D A [(a_t, .inr (12, [o_t_tape, o_t_taped, o_t_fault, o_t_broken, o_t_brokenAt, o_t_spot, o_t_here, o_t_token, o_t_value, o_t_cuts, o_t_letters, o_t_plain, o_t_rules, o_t_words, o_t_shorts, o_t_guards, o_t_readRules, o_t_readTable, o_t_readWords, o_t_readShorts, o_t_readGuards, o_t_toldOnes, .ref a_t_state, .int t_isAwake, o_t_sums, o_t_tongue, o_t_bestTable, o_t_may, o_t_mouth, o_t_mouthThen, o_t_isKept, .ref a_t_lanes, .ref a_t_lengths, .ref a_t_cells, .int x5])), (a_t_state, .inl (g.1 1, 192, .inl t_state)), (a_t_cells, .inl (g.1 1, 160, .inl t_cells)), (a_t_lanes, .inl (g.1 1, 4, .inl t_lanes)), (a_t_lengths, .inl (g.1 1, 4, .inl t_lengths))] := hD
        refine lv_iload hx hb dX12_read_242 (lv_at hl 4 rfl) ?_
        exact hret x6 _ _ _ _ _ ⟨t_isAwake, x5, t_state, rfl, h⟩ hP hD hS dX12_read_244
      · have h := h.2 c9
        refine lv_aload_n hx hb dX12_read_190 rfl (lv_at hl 0 rfl) ?_
        refine va_get (ci := 12) (v := .ref a_t_state) (C := RX12) (T := TX12) (N := 35) hx hb hts icX12 hown hG.k hP 0 rfl rfl 22 (by decide) lk4 (fun _ h9 => h9) rfl dX12_read_191 ?_
        refine lv_bipush (v := 25) hx hb dX12_read_194 (by decide) ?_
        refine lv_aload_n hx hb dX12_read_196 rfl (lv_at hl 0 rfl) ?_
        refine va_get (ci := 12) (v := .ref a_t_state) (C := RX12) (T := TX12) (N := 35) hx hb hts icX12 hown hG.k hP 0 rfl rfl 22 (by decide) lk4 (fun _ h9 => h9) rfl dX12_read_197 ?_
        refine lv_bipush (v := 49) hx hb dX12_read_200 (by decide) ?_
        obtain ⟨hv10, h⟩ := h
        refine va_iald hx hb hG.k hP 1 1 rfl rfl hv10 dX12_read_202 ?_
        refine lv_iadd hx hb dX12_read_203 ?_
        refine lv_aload_n hx hb dX12_read_204 rfl (lv_at hl 0 rfl) ?_
        refine va_get (ci := 12) (v := .ref a_t_cells) (C := RX12) (T := TX12) (N := 35) hx hb hts icX12 hown hG.k hP 0 rfl rfl 33 (by decide) lk5 (fun _ h9 => h9) rfl dX12_read_205 ?_
        refine lv_bipush (v := 40) hx hb dX12_read_208 (by decide) ?_
        refine lv_iload_n hx hb dX12_read_210 rfl (lv_at hl 1 rfl) ?_
        refine lv_imul hx hb dX12_read_211 ?_
        refine lv_iload_n hx hb dX12_read_212 rfl (lv_at hl 2 rfl) ?_
        refine lv_iadd hx hb dX12_read_213 ?_
        refine lv_iload hx hb dX12_read_214 (lv_at hl 5 rfl) ?_
        refine lv_iadd hx hb dX12_read_216 ?_
        obtain ⟨hv11, h⟩ := h
        refine va_iald hx hb hG.k hP 2 1 rfl rfl hv11 dX12_read_217 ?_
        obtain ⟨hv12, h⟩ := h
        refine va_iast hx hb hG.k hP hD hS 1 1 rfl rfl hv12 dX12_read_218 (fun H locs hP hD hS => ?_)
        have hP : va_P D vwCl [(a_t, .inr (12, [o_t_tape, o_t_taped, o_t_fault, o_t_broken, o_t_brokenAt, o_t_spot, o_t_here, o_t_token, o_t_value, o_t_cuts, o_t_letters, o_t_plain, o_t_rules, o_t_words, o_t_shorts, o_t_guards, o_t_readRules, o_t_readTable, o_t_readWords, o_t_readShorts, o_t_readGuards, o_t_toldOnes, .ref a_t_state, .int t_isAwake, o_t_sums, o_t_tongue, o_t_bestTable, o_t_may, o_t_mouth, o_t_mouthThen, o_t_isKept, .ref a_t_lanes, .ref a_t_lengths, .ref a_t_cells, .int t_torn])), (a_t_state, .inl (g.1 1, 192, .inl (upd t_state (25 + (t_state (49 : Int32).toNatClampNeg)).toNatClampNeg (t_cells (((40 * x1) + x3) + x7).toNatClampNeg)))), (a_t_cells, .inl (g.1 1, 160, .inl t_cells)), (a_t_lanes, .inl (g.1 1, 4, .inl t_lanes)), (a_t_lengths, .inl (g.1 1, 4, .inl t_lengths))] H := hP
        have hD : va_D A [(a_t, .inr (12, [o_t_tape, o_t_taped, o_t_fault, o_t_broken, o_t_brokenAt, o_t_spot, o_t_here, o_t_token, o_t_value, o_t_cuts, o_t_letters, o_t_plain, o_t_rules, o_t_words, o_t_shorts, o_t_guards, o_t_readRules, o_t_readTable, o_t_readWords, o_t_readShorts, o_t_readGuards, o_t_toldOnes, .ref a_t_state, .int t_isAwake, o_t_sums, o_t_tongue, o_t_bestTable, o_t_may, o_t_mouth, o_t_mouthThen, o_t_isKept, .ref a_t_lanes, .ref a_t_lengths, .ref a_t_cells, .int t_torn])), (a_t_state, .inl (g.1 1, 192, .inl (upd t_state (25 + (t_state (49 : Int32).toNatClampNeg)).toNatClampNeg (t_cells (((40 * x1) + x3) + x7).toNatClampNeg)))), (a_t_cells, .inl (g.1 1, 160, .inl t_cells)), (a_t_lanes, .inl (g.1 1, 4, .inl t_lanes)), (a_t_lengths, .inl (g.1 1, 4, .inl t_lengths))] := hD
        refine lv_aload_n hx hb dX12_read_219 rfl (lv_at hl 0 rfl) ?_
        refine va_get (ci := 12) (v := .ref a_t_state) (C := RX12) (T := TX12) (N := 35) hx hb hts icX12 hown hG.k hP 0 rfl rfl 22 (by decide) lk4 (fun _ h9 => h9) rfl dX12_read_220 ?_
        refine lv_bipush (v := 49) hx hb dX12_read_223 (by decide) ?_
        refine lv_dup2_11 hx hb dX12_read_225 rfl rfl ?_
        obtain ⟨hv13, h⟩ := h
        refine va_iald hx hb hG.k hP 1 1 rfl rfl hv13 dX12_read_226 ?_
        refine lv_iconst (v := 1) hx hb dX12_read_227 (by decide) ?_
        refine lv_iadd hx hb dX12_read_228 ?_
        obtain ⟨hv14, h⟩ := h
        refine va_iast hx hb hG.k hP hD hS 1 1 rfl rfl hv14 dX12_read_229 (fun H locs hP hD hS => ?_)
        have hP : va_P D vwCl [(a_t, .inr (12, [o_t_tape, o_t_taped, o_t_fault, o_t_broken, o_t_brokenAt, o_t_spot, o_t_here, o_t_token, o_t_value, o_t_cuts, o_t_letters, o_t_plain, o_t_rules, o_t_words, o_t_shorts, o_t_guards, o_t_readRules, o_t_readTable, o_t_readWords, o_t_readShorts, o_t_readGuards, o_t_toldOnes, .ref a_t_state, .int t_isAwake, o_t_sums, o_t_tongue, o_t_bestTable, o_t_may, o_t_mouth, o_t_mouthThen, o_t_isKept, .ref a_t_lanes, .ref a_t_lengths, .ref a_t_cells, .int t_torn])), (a_t_state, .inl (g.1 1, 192, .inl (upd (upd t_state (25 + (t_state (49 : Int32).toNatClampNeg)).toNatClampNeg (t_cells (((40 * x1) + x3) + x7).toNatClampNeg)) (49 : Int32).toNatClampNeg (((upd t_state (25 + (t_state (49 : Int32).toNatClampNeg)).toNatClampNeg (t_cells (((40 * x1) + x3) + x7).toNatClampNeg)) (49 : Int32).toNatClampNeg) + 1)))), (a_t_cells, .inl (g.1 1, 160, .inl t_cells)), (a_t_lanes, .inl (g.1 1, 4, .inl t_lanes)), (a_t_lengths, .inl (g.1 1, 4, .inl t_lengths))] H := hP
        have hD : va_D A [(a_t, .inr (12, [o_t_tape, o_t_taped, o_t_fault, o_t_broken, o_t_brokenAt, o_t_spot, o_t_here, o_t_token, o_t_value, o_t_cuts, o_t_letters, o_t_plain, o_t_rules, o_t_words, o_t_shorts, o_t_guards, o_t_readRules, o_t_readTable, o_t_readWords, o_t_readShorts, o_t_readGuards, o_t_toldOnes, .ref a_t_state, .int t_isAwake, o_t_sums, o_t_tongue, o_t_bestTable, o_t_may, o_t_mouth, o_t_mouthThen, o_t_isKept, .ref a_t_lanes, .ref a_t_lengths, .ref a_t_cells, .int t_torn])), (a_t_state, .inl (g.1 1, 192, .inl (upd (upd t_state (25 + (t_state (49 : Int32).toNatClampNeg)).toNatClampNeg (t_cells (((40 * x1) + x3) + x7).toNatClampNeg)) (49 : Int32).toNatClampNeg (((upd t_state (25 + (t_state (49 : Int32).toNatClampNeg)).toNatClampNeg (t_cells (((40 * x1) + x3) + x7).toNatClampNeg)) (49 : Int32).toNatClampNeg) + 1)))), (a_t_cells, .inl (g.1 1, 160, .inl t_cells)), (a_t_lanes, .inl (g.1 1, 4, .inl t_lanes)), (a_t_lengths, .inl (g.1 1, 4, .inl t_lengths))] := hD
        refine lv_iinc (v := x7 + 1) (lv' := [(7, .int (x7 + 1)), (0, .ref a_t), (1, .int x1), (3, .int x3), (5, .int x5), (6, .int x6)]) hx hb dX12_read_230 hl (k := 5) rfl rfl (by decide) rfl (fun ls hl => ?_)
        refine lv_goto (tgt := 183) hx hb dX12_read_233 (by decide) ?_
        exact ih (x7 + 1) (upd (upd t_state (25 + (t_state (49 : Int32).toNatClampNeg)).toNatClampNeg (t_cells (((40 * x1) + x3) + x7).toNatClampNeg)) (49 : Int32).toNatClampNeg (((upd t_state (25 + (t_state (49 : Int32).toNatClampNeg)).toNatClampNeg (t_cells (((40 * x1) + x3) + x7).toNatClampNeg)) (49 : Int32).toNatClampNeg) + 1)) h _ _ hP hD hS _ (lv_sub hl [1, 2, 3, 4, 5, 0] rfl)
  have L120 : ∀ (x1 : Int32) (x2 : Int32) (x3 : Int32) (x4 : Int32) (x6 : Int32) (x7 : Int32) (t_isAwake : Int32) (t_torn : Int32) (t_state : Nat → Int32) (z0 : Int32) (K_52 : (Int32 × Int32 × Int32) → Prop) (hK_52 : ∀ (x5 : Int32) (x6 : Int32) (x7 : Int32), K_52 (x5, x6, x7) → ∀ (H : Heap) (locs : List Loc), va_P D vwCl [(a_t, .inr (12, [o_t_tape, o_t_taped, o_t_fault, o_t_broken, o_t_brokenAt, o_t_spot, o_t_here, o_t_token, o_t_value, o_t_cuts, o_t_letters, o_t_plain, o_t_rules, o_t_words, o_t_shorts, o_t_guards, o_t_readRules, o_t_readTable, o_t_readWords, o_t_readShorts, o_t_readGuards, o_t_toldOnes, .ref a_t_state, .int t_isAwake, o_t_sums, o_t_tongue, o_t_bestTable, o_t_may, o_t_mouth, o_t_mouthThen, o_t_isKept, .ref a_t_lanes, .ref a_t_lengths, .ref a_t_cells, .int t_torn])), (a_t_state, .inl (g.1 1, 192, .inl t_state)), (a_t_cells, .inl (g.1 1, 160, .inl t_cells)), (a_t_lanes, .inl (g.1 1, 4, .inl t_lanes)), (a_t_lengths, .inl (g.1 1, 4, .inl t_lengths))] H → va_D A [(a_t, .inr (12, [o_t_tape, o_t_taped, o_t_fault, o_t_broken, o_t_brokenAt, o_t_spot, o_t_here, o_t_token, o_t_value, o_t_cuts, o_t_letters, o_t_plain, o_t_rules, o_t_words, o_t_shorts, o_t_guards, o_t_readRules, o_t_readTable, o_t_readWords, o_t_readShorts, o_t_readGuards, o_t_toldOnes, .ref a_t_state, .int t_isAwake, o_t_sums, o_t_tongue, o_t_bestTable, o_t_may, o_t_mouth, o_t_mouthThen, o_t_isKept, .ref a_t_lanes, .ref a_t_lengths, .ref a_t_cells, .int t_torn])), (a_t_state, .inl (g.1 1, 192, .inl t_state)), (a_t_cells, .inl (g.1 1, 160, .inl t_cells)), (a_t_lanes, .inl (g.1 1, 4, .inl t_lanes)), (a_t_lengths, .inl (g.1 1, 4, .inl t_lengths))] → va_S A s.heap H locs → ∀ (ls : Array Slot), lv_has ls 8 [(0, .ref a_t), (1, .int x1), (2, .int x2), (3, .int x3), (4, .int x4), (5, .int x5), (6, .int x6), (7, .int x7)] → W p l e rmX12_read s m args below meth c H locs 0 0 Q (F0 m 52 ls [])), B_X12_read_120 t_cells x1 x3 x6 x7 t_isAwake t_torn t_state z0 post K_52 → ∀ (H : Heap) (locs : List Loc), va_P D vwCl [(a_t, .inr (12, [o_t_tape, o_t_taped, o_t_fault, o_t_broken, o_t_brokenAt, o_t_spot, o_t_here, o_t_token, o_t_value, o_t_cuts, o_t_letters, o_t_plain, o_t_rules, o_t_words, o_t_shorts, o_t_guards, o_t_readRules, o_t_readTable, o_t_readWords, o_t_readShorts, o_t_readGuards, o_t_toldOnes, .ref a_t_state, .int t_isAwake, o_t_sums, o_t_tongue, o_t_bestTable, o_t_may, o_t_mouth, o_t_mouthThen, o_t_isKept, .ref a_t_lanes, .ref a_t_lengths, .ref a_t_cells, .int t_torn])), (a_t_state, .inl (g.1 1, 192, .inl t_state)), (a_t_cells, .inl (g.1 1, 160, .inl t_cells)), (a_t_lanes, .inl (g.1 1, 4, .inl t_lanes)), (a_t_lengths, .inl (g.1 1, 4, .inl t_lengths))] H → va_D A [(a_t, .inr (12, [o_t_tape, o_t_taped, o_t_fault, o_t_broken, o_t_brokenAt, o_t_spot, o_t_here, o_t_token, o_t_value, o_t_cuts, o_t_letters, o_t_plain, o_t_rules, o_t_words, o_t_shorts, o_t_guards, o_t_readRules, o_t_readTable, o_t_readWords, o_t_readShorts, o_t_readGuards, o_t_toldOnes, .ref a_t_state, .int t_isAwake, o_t_sums, o_t_tongue, o_t_bestTable, o_t_may, o_t_mouth, o_t_mouthThen, o_t_isKept, .ref a_t_lanes, .ref a_t_lengths, .ref a_t_cells, .int t_torn])), (a_t_state, .inl (g.1 1, 192, .inl t_state)), (a_t_cells, .inl (g.1 1, 160, .inl t_cells)), (a_t_lanes, .inl (g.1 1, 4, .inl t_lanes)), (a_t_lengths, .inl (g.1 1, 4, .inl t_lengths))] → va_S A s.heap H locs → ∀ (ls : Array Slot), lv_has ls 8 [(0, .ref a_t), (1, .int x1), (2, .int x2), (3, .int x3), (4, .int x4), (6, .int x6), (7, .int x7)] → W p l e rmX12_read s m args below meth c H locs 0 0 Q (F0 m 120 ls [.int z0]) := by
    intro x1 x2 x3 x4 x6 x7 t_isAwake t_torn t_state z0 K_52 hK_52
    intro h H locs hP hD hS ls hl
    unfold B_X12_read_120 at h
    try dsimp only at h
    refine lv_istore (lv' := [(5, .int z0), (0, .ref a_t), (1, .int x1), (2, .int x2), (3, .int x3), (4, .int x4), (6, .int x6), (7, .int x7)]) hx hb dX12_read_120 hl (by decide) rfl (fun ls hl => ?_)
    refine lv_iload hx hb dX12_read_122 (lv_at hl 0 rfl) ?_
    refine lv_if_ne (tgt := 174) hx hb dX12_read_124 (by decide) (fun c23 => ?_) (fun c23 => ?_)
    · have h := h.1 c23
      refine lv_iinc (v := x7 + 1) (lv' := [(7, .int (x7 + 1)), (5, .int z0), (0, .ref a_t), (1, .int x1), (2, .int x2), (3, .int x3), (4, .int x4), (6, .int x6)]) hx hb dX12_read_174 hl (k := 7) rfl rfl (by decide) rfl (fun ls hl => ?_)
      refine lv_goto (tgt := 52) hx hb dX12_read_177 (by decide) ?_
      exact hK_52 z0 x6 (x7 + 1) h _ _ hP hD hS _ (lv_sub hl [2, 3, 4, 5, 6, 1, 7, 0] rfl)
    · have h := h.2 c23
      refine lv_aload_n hx hb dX12_read_127 rfl (lv_at hl 1 rfl) ?_
      refine va_get (ci := 12) (v := .ref a_t_cells) (C := RX12) (T := TX12) (N := 35) hx hb hts icX12 hown hG.k hP 0 rfl rfl 33 (by decide) lk5 (fun _ h9 => h9) rfl dX12_read_128 ?_
      refine lv_bipush (v := 40) hx hb dX12_read_131 (by decide) ?_
      refine lv_iload_n hx hb dX12_read_133 rfl (lv_at hl 2 rfl) ?_
      refine lv_imul hx hb dX12_read_134 ?_
      refine lv_iload_n hx hb dX12_read_135 rfl (lv_at hl 4 rfl) ?_
      refine lv_iadd hx hb dX12_read_136 ?_
      refine lv_iload hx hb dX12_read_137 (lv_at hl 7 rfl) ?_
      refine lv_iadd hx hb dX12_read_139 ?_
      obtain ⟨hv24, h⟩ := h
      refine va_iald hx hb hG.k hP 2 1 rfl rfl hv24 dX12_read_140 ?_
      refine k_i (wr := [(a_t, .inr (12, [o_t_tape, o_t_taped, o_t_fault, o_t_broken, o_t_brokenAt, o_t_spot, o_t_here, o_t_token, o_t_value, o_t_cuts, o_t_letters, o_t_plain, o_t_rules, o_t_words, o_t_shorts, o_t_guards, o_t_readRules, o_t_readTable, o_t_readWords, o_t_readShorts, o_t_readGuards, o_t_toldOnes, .ref a_t_state, .int t_isAwake, o_t_sums, o_t_tongue, o_t_bestTable, o_t_may, o_t_mouth, o_t_mouthThen, o_t_isKept, .ref a_t_lanes, .ref a_t_lengths, .ref a_t_cells, .int t_torn])), (a_t_state, .inl (g.1 1, 192, .inl t_state)), (a_t_cells, .inl (g.1 1, 160, .inl t_cells)), (a_t_lanes, .inl (g.1 1, 4, .inl t_lanes)), (a_t_lengths, .inl (g.1 1, 4, .inl t_lengths))]) hA hP hD hS [] [0, 1, 2, 3, 4] rfl rfl (by decide) (by decide) (va_runS (As := [.int (t_cells (((40 * x1) + x3) + x7).toNatClampNeg)]) (rest := []) ⟨hx, hb, hml, hown, hts⟩ (c_X12_isCount l D g (t_cells (((40 * x1) + x3) + x7).toNatClampNeg) _ h H.size) (va_cwS 1 hts (gdS (inR_32 (List.mem_of_getElem? (i := 15) rfl)) (inR_32 (List.mem_of_getElem? (i := 16) rfl)) (inR_1 (List.mem_of_getElem? (i := 5) rfl)) (inR_32 (List.mem_of_getElem? (i := 17) rfl))) rfl rfl rfl hdX12_isCount.2 ⟨Nat.le_of_ble_eq_true rfl, Nat.le_of_ble_eq_true rfl⟩) (k_preS hG hA hP hD hS [] rfl (by decide)) rfl rfl hl.1 rfl (lv_room (Nat.le_of_ble_eq_true rfl)) dX12_read_141 ⟨Nat.zero_le _, Nat.zero_le _⟩) (fun r25 W' H locs h hP hD hS => ?_)
      obtain ⟨rfl, h⟩ := h
      have hP : va_P D vwCl [(a_t, .inr (12, [o_t_tape, o_t_taped, o_t_fault, o_t_broken, o_t_brokenAt, o_t_spot, o_t_here, o_t_token, o_t_value, o_t_cuts, o_t_letters, o_t_plain, o_t_rules, o_t_words, o_t_shorts, o_t_guards, o_t_readRules, o_t_readTable, o_t_readWords, o_t_readShorts, o_t_readGuards, o_t_toldOnes, .ref a_t_state, .int t_isAwake, o_t_sums, o_t_tongue, o_t_bestTable, o_t_may, o_t_mouth, o_t_mouthThen, o_t_isKept, .ref a_t_lanes, .ref a_t_lengths, .ref a_t_cells, .int t_torn])), (a_t_state, .inl (g.1 1, 192, .inl t_state)), (a_t_cells, .inl (g.1 1, 160, .inl t_cells)), (a_t_lanes, .inl (g.1 1, 4, .inl t_lanes)), (a_t_lengths, .inl (g.1 1, 4, .inl t_lengths))] H := hP.sub [0, 1, 2, 3, 4] rfl
      have hD : va_D A [(a_t, .inr (12, [o_t_tape, o_t_taped, o_t_fault, o_t_broken, o_t_brokenAt, o_t_spot, o_t_here, o_t_token, o_t_value, o_t_cuts, o_t_letters, o_t_plain, o_t_rules, o_t_words, o_t_shorts, o_t_guards, o_t_readRules, o_t_readTable, o_t_readWords, o_t_readShorts, o_t_readGuards, o_t_toldOnes, .ref a_t_state, .int t_isAwake, o_t_sums, o_t_tongue, o_t_bestTable, o_t_may, o_t_mouth, o_t_mouthThen, o_t_isKept, .ref a_t_lanes, .ref a_t_lengths, .ref a_t_cells, .int t_torn])), (a_t_state, .inl (g.1 1, 192, .inl t_state)), (a_t_cells, .inl (g.1 1, 160, .inl t_cells)), (a_t_lanes, .inl (g.1 1, 4, .inl t_lanes)), (a_t_lengths, .inl (g.1 1, 4, .inl t_lengths))] := hD.sub [0, 1, 2, 3, 4] (by decide) rfl
      refine lv_if_ne (tgt := 153) hx hb dX12_read_144 (by decide) (fun c26 => ?_) (fun c26 => ?_)
      · have h := h.1 c26
        refine lv_aload_n hx hb dX12_read_153 rfl (lv_at hl 1 rfl) ?_
        refine va_get (ci := 12) (v := .ref a_t_state) (C := RX12) (T := TX12) (N := 35) hx hb hts icX12 hown hG.k hP 0 rfl rfl 22 (by decide) lk4 (fun _ h9 => h9) rfl dX12_read_154 ?_
        refine lv_bipush (v := 49) hx hb dX12_read_157 (by decide) ?_
        obtain ⟨hv27, h⟩ := h
        refine va_iald hx hb hG.k hP 1 1 rfl rfl hv27 dX12_read_159 ?_
        refine lv_iload hx hb dX12_read_160 (lv_at hl 6 rfl) ?_
        refine lv_iadd hx hb dX12_read_162 ?_
        refine lv_bipush (v := 24) hx hb dX12_read_163 (by decide) ?_
        refine lv_icmp_ne (tgt := 171) hx hb dX12_read_165 (by decide) (fun c28 => ?_) (fun c28 => ?_)
        · have h := h.1 c28
          refine lv_iinc (v := x6 + 1) (lv' := [(6, .int (x6 + 1)), (5, .int z0), (0, .ref a_t), (1, .int x1), (2, .int x2), (3, .int x3), (4, .int x4), (7, .int x7)]) hx hb dX12_read_171 hl (k := 6) rfl rfl (by decide) rfl (fun ls hl => ?_)
          refine lv_iinc (v := x7 + 1) (lv' := [(7, .int (x7 + 1)), (6, .int (x6 + 1)), (5, .int z0), (0, .ref a_t), (1, .int x1), (2, .int x2), (3, .int x3), (4, .int x4)]) hx hb dX12_read_174 hl (k := 7) rfl rfl (by decide) rfl (fun ls hl => ?_)
          refine lv_goto (tgt := 52) hx hb dX12_read_177 (by decide) ?_
          exact hK_52 z0 (x6 + 1) (x7 + 1) h _ _ hP hD hS _ (lv_sub hl [3, 4, 5, 6, 7, 2, 1, 0] rfl)
        · have h := h.2 c28
          refine lv_bipush (v := (-3)) hx hb dX12_read_168 (by decide) ?_
          exact hret ((-3)) _ _ _ _ _ ⟨t_isAwake, t_torn, t_state, rfl, h⟩ hP hD hS dX12_read_170
      · have h := h.2 c26
        refine lv_bipush (v := (-20)) hx hb dX12_read_147 (by decide) ?_
        refine lv_iload hx hb dX12_read_149 (lv_at hl 6 rfl) ?_
        refine lv_isub hx hb dX12_read_151 ?_
        exact hret (((-20)) - x6) _ _ _ _ _ ⟨t_isAwake, t_torn, t_state, rfl, h⟩ hP hD hS dX12_read_152
  have L52 : ∀ (x1 : Int32) (x2 : Int32) (x3 : Int32) (x4 : Int32) (t_isAwake : Int32) (t_torn : Int32) (t_state : Nat → Int32), ∀ (n : Nat) (x5 : Int32) (x6 : Int32) (x7 : Int32), fixN (F_X12_read_52 t_cells t_lanes t_lengths x1 x2 x3 x4 t_isAwake t_torn t_state post) n (x5, x6, x7) → ∀ (H : Heap) (locs : List Loc), va_P D vwCl [(a_t, .inr (12, [o_t_tape, o_t_taped, o_t_fault, o_t_broken, o_t_brokenAt, o_t_spot, o_t_here, o_t_token, o_t_value, o_t_cuts, o_t_letters, o_t_plain, o_t_rules, o_t_words, o_t_shorts, o_t_guards, o_t_readRules, o_t_readTable, o_t_readWords, o_t_readShorts, o_t_readGuards, o_t_toldOnes, .ref a_t_state, .int t_isAwake, o_t_sums, o_t_tongue, o_t_bestTable, o_t_may, o_t_mouth, o_t_mouthThen, o_t_isKept, .ref a_t_lanes, .ref a_t_lengths, .ref a_t_cells, .int t_torn])), (a_t_state, .inl (g.1 1, 192, .inl t_state)), (a_t_cells, .inl (g.1 1, 160, .inl t_cells)), (a_t_lanes, .inl (g.1 1, 4, .inl t_lanes)), (a_t_lengths, .inl (g.1 1, 4, .inl t_lengths))] H → va_D A [(a_t, .inr (12, [o_t_tape, o_t_taped, o_t_fault, o_t_broken, o_t_brokenAt, o_t_spot, o_t_here, o_t_token, o_t_value, o_t_cuts, o_t_letters, o_t_plain, o_t_rules, o_t_words, o_t_shorts, o_t_guards, o_t_readRules, o_t_readTable, o_t_readWords, o_t_readShorts, o_t_readGuards, o_t_toldOnes, .ref a_t_state, .int t_isAwake, o_t_sums, o_t_tongue, o_t_bestTable, o_t_may, o_t_mouth, o_t_mouthThen, o_t_isKept, .ref a_t_lanes, .ref a_t_lengths, .ref a_t_cells, .int t_torn])), (a_t_state, .inl (g.1 1, 192, .inl t_state)), (a_t_cells, .inl (g.1 1, 160, .inl t_cells)), (a_t_lanes, .inl (g.1 1, 4, .inl t_lanes)), (a_t_lengths, .inl (g.1 1, 4, .inl t_lengths))] → va_S A s.heap H locs → ∀ (ls : Array Slot), lv_has ls 8 [(0, .ref a_t), (1, .int x1), (2, .int x2), (3, .int x3), (4, .int x4), (5, .int x5), (6, .int x6), (7, .int x7)] → W p l e rmX12_read s m args below meth c H locs 0 0 Q (F0 m 52 ls []) := by
    intro x1 x2 x3 x4 t_isAwake t_torn t_state
    intro n
    induction n with
    | zero => intro x5 x6 x7 h; exact h.elim
    | succ n ih =>
      intro x5 x6 x7 h H locs hP hD hS ls hl
      have h : F_X12_read_52 t_cells t_lanes t_lengths x1 x2 x3 x4 t_isAwake t_torn t_state post (fixN (F_X12_read_52 t_cells t_lanes t_lengths x1 x2 x3 x4 t_isAwake t_torn t_state post) n) (x5, x6, x7) := h
      unfold F_X12_read_52 at h
      try dsimp only at h
      refine lv_iload hx hb dX12_read_52 (lv_at hl 7 rfl) ?_
      refine lv_iload hx hb dX12_read_54 (lv_at hl 4 rfl) ?_
      refine lv_icmp_ge (tgt := 180) hx hb dX12_read_56 (by decide) (fun c8 => ?_) (fun c8 => ?_)
      · have h := h.1 c8
        refine lv_iconst (v := 0) hx hb dX12_read_180 (by decide) ?_
        refine lv_istore (lv' := [(7, .int 0), (0, .ref a_t), (1, .int x1), (2, .int x2), (3, .int x3), (4, .int x4), (5, .int x5), (6, .int x6)]) hx hb dX12_read_181 hl (by decide) rfl (fun ls hl => ?_)
        obtain ⟨n9, h⟩ := h
        exact L183 x1 x3 x5 x6 t_isAwake t_torn n9 0 t_state h _ _ hP hD hS _ (lv_sub hl [1, 2, 4, 6, 7, 0] rfl)
      · have h := h.2 c8
        refine lv_iload hx hb dX12_read_59 (lv_at hl 5 rfl) ?_
        refine lv_if_ne (tgt := 180) hx hb dX12_read_61 (by decide) (fun c15 => ?_) (fun c15 => ?_)
        · have h := h.1 c15
          refine lv_iconst (v := 0) hx hb dX12_read_180 (by decide) ?_
          refine lv_istore (lv' := [(7, .int 0), (0, .ref a_t), (1, .int x1), (2, .int x2), (3, .int x3), (4, .int x4), (5, .int x5), (6, .int x6)]) hx hb dX12_read_181 hl (by decide) rfl (fun ls hl => ?_)
          obtain ⟨n9, h⟩ := h
          exact L183 x1 x3 x5 x6 t_isAwake t_torn n9 0 t_state h _ _ hP hD hS _ (lv_sub hl [1, 2, 4, 6, 7, 0] rfl)
        · have h := h.2 c15
          refine lv_aload_n hx hb dX12_read_64 rfl (lv_at hl 0 rfl) ?_
          refine va_get (ci := 12) (v := .ref a_t_lanes) (C := RX12) (T := TX12) (N := 35) hx hb hts icX12 hown hG.k hP 0 rfl rfl 31 (by decide) lk6 (fun _ h9 => h9) rfl dX12_read_65 ?_
          refine lv_iload_n hx hb dX12_read_68 rfl (lv_at hl 1 rfl) ?_
          obtain ⟨hv16, h⟩ := h
          refine va_iald hx hb hG.k hP 3 1 rfl rfl hv16 dX12_read_69 ?_
          refine lv_bipush (v := (-4)) hx hb dX12_read_70 (by decide) ?_
          refine lv_icmp_ne (tgt := 79) hx hb dX12_read_72 (by decide) (fun c17 => ?_) (fun c17 => ?_)
          · have h := h.1 c17
            refine lv_aload_n hx hb dX12_read_79 rfl (lv_at hl 0 rfl) ?_
            refine va_get (ci := 12) (v := .ref a_t_lanes) (C := RX12) (T := TX12) (N := 35) hx hb hts icX12 hown hG.k hP 0 rfl rfl 31 (by decide) lk6 (fun _ h9 => h9) rfl dX12_read_80 ?_
            refine lv_iload_n hx hb dX12_read_83 rfl (lv_at hl 1 rfl) ?_
            obtain ⟨hv18, h⟩ := h
            refine va_iald hx hb hG.k hP 3 1 rfl rfl hv18 dX12_read_84 ?_
            refine lv_iload_n hx hb dX12_read_85 rfl (lv_at hl 2 rfl) ?_
            refine lv_icmp_eq (tgt := 93) hx hb dX12_read_86 (by decide) (fun c19 => ?_) (fun c19 => ?_)
            · have h := h.1 c19
              refine lv_iload_n hx hb dX12_read_93 rfl (lv_at hl 3 rfl) ?_
              refine lv_i2l hx hb dX12_read_94 rfl ?_
              refine lv_iload hx hb dX12_read_95 (lv_at hl 7 rfl) ?_
              refine lv_i2l hx hb dX12_read_97 rfl ?_
              refine lv_ladd hx hb dX12_read_98 ?_
              refine lv_lconst (v := 0) hx hb dX12_read_99 (by decide) ?_
              refine lv_aload_n hx hb dX12_read_100 rfl (lv_at hl 0 rfl) ?_
              refine va_get (ci := 12) (v := .ref a_t_lengths) (C := RX12) (T := TX12) (N := 35) hx hb hts icX12 hown hG.k hP 0 rfl rfl 32 (by decide) lk7 (fun _ h9 => h9) rfl dX12_read_101 ?_
              refine lv_iload_n hx hb dX12_read_104 rfl (lv_at hl 1 rfl) ?_
              obtain ⟨hv20, h⟩ := h
              refine va_iald hx hb hG.k hP 4 1 rfl rfl hv20 dX12_read_105 ?_
              refine lv_iconst (v := 1) hx hb dX12_read_106 (by decide) ?_
              refine lv_isub hx hb dX12_read_107 ?_
              refine lv_i2l hx hb dX12_read_108 rfl ?_
              refine k_i (wr := [(a_t, .inr (12, [o_t_tape, o_t_taped, o_t_fault, o_t_broken, o_t_brokenAt, o_t_spot, o_t_here, o_t_token, o_t_value, o_t_cuts, o_t_letters, o_t_plain, o_t_rules, o_t_words, o_t_shorts, o_t_guards, o_t_readRules, o_t_readTable, o_t_readWords, o_t_readShorts, o_t_readGuards, o_t_toldOnes, .ref a_t_state, .int t_isAwake, o_t_sums, o_t_tongue, o_t_bestTable, o_t_may, o_t_mouth, o_t_mouthThen, o_t_isKept, .ref a_t_lanes, .ref a_t_lengths, .ref a_t_cells, .int t_torn])), (a_t_state, .inl (g.1 1, 192, .inl t_state)), (a_t_cells, .inl (g.1 1, 160, .inl t_cells)), (a_t_lanes, .inl (g.1 1, 4, .inl t_lanes)), (a_t_lengths, .inl (g.1 1, 4, .inl t_lengths))]) hA hP hD hS [] [0, 1, 2, 3, 4] rfl rfl (by decide) (by decide) (va_runS (As := [.long (x3.toInt64 + x7.toInt64), .long 0, .long (((t_lengths x1.toNatClampNeg) - 1).toInt64)]) (rest := []) ⟨hx, hb, hml, hown, hts⟩ (c_X12_in l D g (x3.toInt64 + x7.toInt64) 0 (((t_lengths x1.toNatClampNeg) - 1).toInt64) _ h H.size) (va_cwS 3 hts (gdS (inR_10 (List.mem_of_getElem? (i := 1) rfl)) (inR_10 (List.mem_of_getElem? (i := 2) rfl)) (inR_1 (List.mem_of_getElem? (i := 5) rfl)) (inR_10 (List.mem_of_getElem? (i := 3) rfl))) rfl rfl rfl hdX12_in.2 ⟨Nat.le_of_ble_eq_true rfl, Nat.le_of_ble_eq_true rfl⟩) (k_preS hG hA hP hD hS [] rfl (by decide)) rfl rfl hl.1 rfl (lv_room (Nat.le_of_ble_eq_true rfl)) dX12_read_109 ⟨Nat.zero_le _, Nat.zero_le _⟩) (fun r21 W' H locs h hP hD hS => ?_)
              obtain ⟨rfl, h⟩ := h
              have hP : va_P D vwCl [(a_t, .inr (12, [o_t_tape, o_t_taped, o_t_fault, o_t_broken, o_t_brokenAt, o_t_spot, o_t_here, o_t_token, o_t_value, o_t_cuts, o_t_letters, o_t_plain, o_t_rules, o_t_words, o_t_shorts, o_t_guards, o_t_readRules, o_t_readTable, o_t_readWords, o_t_readShorts, o_t_readGuards, o_t_toldOnes, .ref a_t_state, .int t_isAwake, o_t_sums, o_t_tongue, o_t_bestTable, o_t_may, o_t_mouth, o_t_mouthThen, o_t_isKept, .ref a_t_lanes, .ref a_t_lengths, .ref a_t_cells, .int t_torn])), (a_t_state, .inl (g.1 1, 192, .inl t_state)), (a_t_cells, .inl (g.1 1, 160, .inl t_cells)), (a_t_lanes, .inl (g.1 1, 4, .inl t_lanes)), (a_t_lengths, .inl (g.1 1, 4, .inl t_lengths))] H := hP.sub [0, 1, 2, 3, 4] rfl
              have hD : va_D A [(a_t, .inr (12, [o_t_tape, o_t_taped, o_t_fault, o_t_broken, o_t_brokenAt, o_t_spot, o_t_here, o_t_token, o_t_value, o_t_cuts, o_t_letters, o_t_plain, o_t_rules, o_t_words, o_t_shorts, o_t_guards, o_t_readRules, o_t_readTable, o_t_readWords, o_t_readShorts, o_t_readGuards, o_t_toldOnes, .ref a_t_state, .int t_isAwake, o_t_sums, o_t_tongue, o_t_bestTable, o_t_may, o_t_mouth, o_t_mouthThen, o_t_isKept, .ref a_t_lanes, .ref a_t_lengths, .ref a_t_cells, .int t_torn])), (a_t_state, .inl (g.1 1, 192, .inl t_state)), (a_t_cells, .inl (g.1 1, 160, .inl t_cells)), (a_t_lanes, .inl (g.1 1, 4, .inl t_lanes)), (a_t_lengths, .inl (g.1 1, 4, .inl t_lengths))] := hD.sub [0, 1, 2, 3, 4] (by decide) rfl
              refine lv_if_ne (tgt := 119) hx hb dX12_read_112 (by decide) (fun c22 => ?_) (fun c22 => ?_)
              · have h := h.1 c22
                refine lv_iconst (v := 0) hx hb dX12_read_119 (by decide) ?_
                exact L120 x1 x2 x3 x4 x6 x7 t_isAwake t_torn t_state 0 _ ih h _ _ hP hD hS _ (lv_sub hl [0, 1, 2, 3, 4, 6, 7] rfl)
              · have h := h.2 c22
                refine lv_iconst (v := 2) hx hb dX12_read_115 (by decide) ?_
                refine lv_goto (tgt := 120) hx hb dX12_read_116 (by decide) ?_
                exact L120 x1 x2 x3 x4 x6 x7 t_isAwake t_torn t_state 2 _ ih h _ _ hP hD hS _ (lv_sub hl [0, 1, 2, 3, 4, 6, 7] rfl)
            · have h := h.2 c19
              refine lv_iconst (v := 3) hx hb dX12_read_89 (by decide) ?_
              refine lv_goto (tgt := 120) hx hb dX12_read_90 (by decide) ?_
              exact L120 x1 x2 x3 x4 x6 x7 t_isAwake t_torn t_state 3 _ ih h _ _ hP hD hS _ (lv_sub hl [0, 1, 2, 3, 4, 6, 7] rfl)
          · have h := h.2 c17
            refine lv_iconst (v := 1) hx hb dX12_read_75 (by decide) ?_
            refine lv_goto (tgt := 120) hx hb dX12_read_76 (by decide) ?_
            exact L120 x1 x2 x3 x4 x6 x7 t_isAwake t_torn t_state 1 _ ih h _ _ hP hD hS _ (lv_sub hl [0, 1, 2, 3, 4, 6, 7] rfl)
  unfold wp_X12_read at h
  try dsimp only at h
  refine lv_aload_n hx hb dX12_read_0 rfl (lv_at hl 0 rfl) ?_
  refine k_v (wr := [(a_t_cells, .inl (g.1 1, 160, .inl t_cells)), (a_t_lanes, .inl (g.1 1, 4, .inl t_lanes)), (a_t_lengths, .inl (g.1 1, 4, .inl t_lengths))]) hA hP hD hS [0, 1] [2, 3, 4] rfl rfl (by decide) (by decide) (va_runV (As := []) (rest := []) ⟨hx, hb, hml, hown, hts⟩ (c_X12_awake l D g a_t a_t_state (o_t_tape) (o_t_taped) (o_t_fault) (o_t_broken) (o_t_brokenAt) (o_t_spot) (o_t_here) (o_t_token) (o_t_value) (o_t_cuts) (o_t_letters) (o_t_plain) (o_t_rules) (o_t_words) (o_t_shorts) (o_t_guards) (o_t_readRules) (o_t_readTable) (o_t_readWords) (o_t_readShorts) (o_t_readGuards) (o_t_toldOnes) (o_t_sums) (o_t_tongue) (o_t_bestTable) (o_t_may) (o_t_mouth) (o_t_mouthThen) (o_t_isKept) (.ref a_t_lanes) (.ref a_t_lengths) (.ref a_t_cells) (.int t_torn) t_isAwake t_state _ h H.size) (cwV 0 hts (gdV (inR_22 (List.mem_of_getElem? (i := 18) rfl)) (inR_22 (List.mem_of_getElem? (i := 19) rfl)) (inR_22 (List.mem_of_getElem? (i := 20) rfl)) (inR_1 (List.mem_of_getElem? (i := 5) rfl)) (inR_22 (List.mem_of_getElem? (i := 21) rfl))) rfl rfl rfl hdX12_awake ⟨Nat.le_of_ble_eq_true rfl, Nat.le_of_ble_eq_true rfl⟩) (k_preV (q0 := 0) hG hA hP hD hS [0, 1] rfl (by decide) rfl rfl) rfl rfl hl.1 rfl (lv_room (Nat.le_of_ble_eq_true rfl)) dX12_read_1 ⟨Nat.zero_le _, Nat.zero_le _⟩) (fun W' H locs h hP hD hS => ?_)
  obtain ⟨u1_t_isAwake, u1_t_state, rfl, h⟩ := h
  have hP : va_P D vwCl [(a_t, .inr (12, [o_t_tape, o_t_taped, o_t_fault, o_t_broken, o_t_brokenAt, o_t_spot, o_t_here, o_t_token, o_t_value, o_t_cuts, o_t_letters, o_t_plain, o_t_rules, o_t_words, o_t_shorts, o_t_guards, o_t_readRules, o_t_readTable, o_t_readWords, o_t_readShorts, o_t_readGuards, o_t_toldOnes, .ref a_t_state, .int u1_t_isAwake, o_t_sums, o_t_tongue, o_t_bestTable, o_t_may, o_t_mouth, o_t_mouthThen, o_t_isKept, .ref a_t_lanes, .ref a_t_lengths, .ref a_t_cells, .int t_torn])), (a_t_state, .inl (g.1 1, 192, .inl u1_t_state)), (a_t_cells, .inl (g.1 1, 160, .inl t_cells)), (a_t_lanes, .inl (g.1 1, 4, .inl t_lanes)), (a_t_lengths, .inl (g.1 1, 4, .inl t_lengths))] H := hP.sub [3, 4, 0, 1, 2] rfl
  have hD : va_D A [(a_t, .inr (12, [o_t_tape, o_t_taped, o_t_fault, o_t_broken, o_t_brokenAt, o_t_spot, o_t_here, o_t_token, o_t_value, o_t_cuts, o_t_letters, o_t_plain, o_t_rules, o_t_words, o_t_shorts, o_t_guards, o_t_readRules, o_t_readTable, o_t_readWords, o_t_readShorts, o_t_readGuards, o_t_toldOnes, .ref a_t_state, .int u1_t_isAwake, o_t_sums, o_t_tongue, o_t_bestTable, o_t_may, o_t_mouth, o_t_mouthThen, o_t_isKept, .ref a_t_lanes, .ref a_t_lengths, .ref a_t_cells, .int t_torn])), (a_t_state, .inl (g.1 1, 192, .inl u1_t_state)), (a_t_cells, .inl (g.1 1, 160, .inl t_cells)), (a_t_lanes, .inl (g.1 1, 4, .inl t_lanes)), (a_t_lengths, .inl (g.1 1, 4, .inl t_lengths))] := hD.sub [3, 4, 0, 1, 2] (by decide) rfl
  refine lv_iload_n hx hb dX12_read_4 rfl (lv_at hl 1 rfl) ?_
  refine lv_i2l hx hb dX12_read_5 rfl ?_
  refine lv_lconst (v := 0) hx hb dX12_read_6 (by decide) ?_
  refine lv_ldc2 hx hb hown lk0 dX12_read_7 ?_
  refine k_i (wr := [(a_t, .inr (12, [o_t_tape, o_t_taped, o_t_fault, o_t_broken, o_t_brokenAt, o_t_spot, o_t_here, o_t_token, o_t_value, o_t_cuts, o_t_letters, o_t_plain, o_t_rules, o_t_words, o_t_shorts, o_t_guards, o_t_readRules, o_t_readTable, o_t_readWords, o_t_readShorts, o_t_readGuards, o_t_toldOnes, .ref a_t_state, .int u1_t_isAwake, o_t_sums, o_t_tongue, o_t_bestTable, o_t_may, o_t_mouth, o_t_mouthThen, o_t_isKept, .ref a_t_lanes, .ref a_t_lengths, .ref a_t_cells, .int t_torn])), (a_t_state, .inl (g.1 1, 192, .inl u1_t_state)), (a_t_cells, .inl (g.1 1, 160, .inl t_cells)), (a_t_lanes, .inl (g.1 1, 4, .inl t_lanes)), (a_t_lengths, .inl (g.1 1, 4, .inl t_lengths))]) hA hP hD hS [] [0, 1, 2, 3, 4] rfl rfl (by decide) (by decide) (va_runS (As := [.long x1.toInt64, .long 0, .long ((3))]) (rest := []) ⟨hx, hb, hml, hown, hts⟩ (c_X12_in l D g x1.toInt64 0 ((3)) _ h H.size) (va_cwS 3 hts (gdS (inR_10 (List.mem_of_getElem? (i := 1) rfl)) (inR_10 (List.mem_of_getElem? (i := 2) rfl)) (inR_1 (List.mem_of_getElem? (i := 5) rfl)) (inR_10 (List.mem_of_getElem? (i := 3) rfl))) rfl rfl rfl hdX12_in.2 ⟨Nat.le_of_ble_eq_true rfl, Nat.le_of_ble_eq_true rfl⟩) (k_preS hG hA hP hD hS [] rfl (by decide)) rfl rfl hl.1 rfl (lv_room (Nat.le_of_ble_eq_true rfl)) dX12_read_10 ⟨Nat.zero_le _, Nat.zero_le _⟩) (fun r2 W' H locs h hP hD hS => ?_)
  obtain ⟨rfl, h⟩ := h
  have hP : va_P D vwCl [(a_t, .inr (12, [o_t_tape, o_t_taped, o_t_fault, o_t_broken, o_t_brokenAt, o_t_spot, o_t_here, o_t_token, o_t_value, o_t_cuts, o_t_letters, o_t_plain, o_t_rules, o_t_words, o_t_shorts, o_t_guards, o_t_readRules, o_t_readTable, o_t_readWords, o_t_readShorts, o_t_readGuards, o_t_toldOnes, .ref a_t_state, .int u1_t_isAwake, o_t_sums, o_t_tongue, o_t_bestTable, o_t_may, o_t_mouth, o_t_mouthThen, o_t_isKept, .ref a_t_lanes, .ref a_t_lengths, .ref a_t_cells, .int t_torn])), (a_t_state, .inl (g.1 1, 192, .inl u1_t_state)), (a_t_cells, .inl (g.1 1, 160, .inl t_cells)), (a_t_lanes, .inl (g.1 1, 4, .inl t_lanes)), (a_t_lengths, .inl (g.1 1, 4, .inl t_lengths))] H := hP.sub [0, 1, 2, 3, 4] rfl
  have hD : va_D A [(a_t, .inr (12, [o_t_tape, o_t_taped, o_t_fault, o_t_broken, o_t_brokenAt, o_t_spot, o_t_here, o_t_token, o_t_value, o_t_cuts, o_t_letters, o_t_plain, o_t_rules, o_t_words, o_t_shorts, o_t_guards, o_t_readRules, o_t_readTable, o_t_readWords, o_t_readShorts, o_t_readGuards, o_t_toldOnes, .ref a_t_state, .int u1_t_isAwake, o_t_sums, o_t_tongue, o_t_bestTable, o_t_may, o_t_mouth, o_t_mouthThen, o_t_isKept, .ref a_t_lanes, .ref a_t_lengths, .ref a_t_cells, .int t_torn])), (a_t_state, .inl (g.1 1, 192, .inl u1_t_state)), (a_t_cells, .inl (g.1 1, 160, .inl t_cells)), (a_t_lanes, .inl (g.1 1, 4, .inl t_lanes)), (a_t_lengths, .inl (g.1 1, 4, .inl t_lengths))] := hD.sub [0, 1, 2, 3, 4] (by decide) rfl
  refine lv_if_eq (tgt := 41) hx hb dX12_read_13 (by decide) (fun c3 => ?_) (fun c3 => ?_)
  · have h := h.1 c3
    refine lv_iconst (v := (-1)) hx hb dX12_read_41 (by decide) ?_
    exact hret ((-1)) _ _ _ _ _ ⟨u1_t_isAwake, t_torn, u1_t_state, rfl, h⟩ hP hD hS dX12_read_42
  · have h := h.2 c3
    refine lv_iload_n hx hb dX12_read_16 rfl (lv_at hl 2 rfl) ?_
    refine lv_i2l hx hb dX12_read_17 rfl ?_
    refine lv_lconst (v := 0) hx hb dX12_read_18 (by decide) ?_
    refine lv_ldc2 hx hb hown lk1 dX12_read_19 ?_
    refine k_i (wr := [(a_t, .inr (12, [o_t_tape, o_t_taped, o_t_fault, o_t_broken, o_t_brokenAt, o_t_spot, o_t_here, o_t_token, o_t_value, o_t_cuts, o_t_letters, o_t_plain, o_t_rules, o_t_words, o_t_shorts, o_t_guards, o_t_readRules, o_t_readTable, o_t_readWords, o_t_readShorts, o_t_readGuards, o_t_toldOnes, .ref a_t_state, .int u1_t_isAwake, o_t_sums, o_t_tongue, o_t_bestTable, o_t_may, o_t_mouth, o_t_mouthThen, o_t_isKept, .ref a_t_lanes, .ref a_t_lengths, .ref a_t_cells, .int t_torn])), (a_t_state, .inl (g.1 1, 192, .inl u1_t_state)), (a_t_cells, .inl (g.1 1, 160, .inl t_cells)), (a_t_lanes, .inl (g.1 1, 4, .inl t_lanes)), (a_t_lengths, .inl (g.1 1, 4, .inl t_lengths))]) hA hP hD hS [] [0, 1, 2, 3, 4] rfl rfl (by decide) (by decide) (va_runS (As := [.long x2.toInt64, .long 0, .long ((2))]) (rest := []) ⟨hx, hb, hml, hown, hts⟩ (c_X12_in l D g x2.toInt64 0 ((2)) _ h H.size) (va_cwS 3 hts (gdS (inR_10 (List.mem_of_getElem? (i := 1) rfl)) (inR_10 (List.mem_of_getElem? (i := 2) rfl)) (inR_1 (List.mem_of_getElem? (i := 5) rfl)) (inR_10 (List.mem_of_getElem? (i := 3) rfl))) rfl rfl rfl hdX12_in.2 ⟨Nat.le_of_ble_eq_true rfl, Nat.le_of_ble_eq_true rfl⟩) (k_preS hG hA hP hD hS [] rfl (by decide)) rfl rfl hl.1 rfl (lv_room (Nat.le_of_ble_eq_true rfl)) dX12_read_22 ⟨Nat.zero_le _, Nat.zero_le _⟩) (fun r4 W' H locs h hP hD hS => ?_)
    obtain ⟨rfl, h⟩ := h
    have hP : va_P D vwCl [(a_t, .inr (12, [o_t_tape, o_t_taped, o_t_fault, o_t_broken, o_t_brokenAt, o_t_spot, o_t_here, o_t_token, o_t_value, o_t_cuts, o_t_letters, o_t_plain, o_t_rules, o_t_words, o_t_shorts, o_t_guards, o_t_readRules, o_t_readTable, o_t_readWords, o_t_readShorts, o_t_readGuards, o_t_toldOnes, .ref a_t_state, .int u1_t_isAwake, o_t_sums, o_t_tongue, o_t_bestTable, o_t_may, o_t_mouth, o_t_mouthThen, o_t_isKept, .ref a_t_lanes, .ref a_t_lengths, .ref a_t_cells, .int t_torn])), (a_t_state, .inl (g.1 1, 192, .inl u1_t_state)), (a_t_cells, .inl (g.1 1, 160, .inl t_cells)), (a_t_lanes, .inl (g.1 1, 4, .inl t_lanes)), (a_t_lengths, .inl (g.1 1, 4, .inl t_lengths))] H := hP.sub [0, 1, 2, 3, 4] rfl
    have hD : va_D A [(a_t, .inr (12, [o_t_tape, o_t_taped, o_t_fault, o_t_broken, o_t_brokenAt, o_t_spot, o_t_here, o_t_token, o_t_value, o_t_cuts, o_t_letters, o_t_plain, o_t_rules, o_t_words, o_t_shorts, o_t_guards, o_t_readRules, o_t_readTable, o_t_readWords, o_t_readShorts, o_t_readGuards, o_t_toldOnes, .ref a_t_state, .int u1_t_isAwake, o_t_sums, o_t_tongue, o_t_bestTable, o_t_may, o_t_mouth, o_t_mouthThen, o_t_isKept, .ref a_t_lanes, .ref a_t_lengths, .ref a_t_cells, .int t_torn])), (a_t_state, .inl (g.1 1, 192, .inl u1_t_state)), (a_t_cells, .inl (g.1 1, 160, .inl t_cells)), (a_t_lanes, .inl (g.1 1, 4, .inl t_lanes)), (a_t_lengths, .inl (g.1 1, 4, .inl t_lengths))] := hD.sub [0, 1, 2, 3, 4] (by decide) rfl
    refine lv_if_eq (tgt := 41) hx hb dX12_read_25 (by decide) (fun c5 => ?_) (fun c5 => ?_)
    · have h := h.1 c5
      refine lv_iconst (v := (-1)) hx hb dX12_read_41 (by decide) ?_
      exact hret ((-1)) _ _ _ _ _ ⟨u1_t_isAwake, t_torn, u1_t_state, rfl, h⟩ hP hD hS dX12_read_42
    · have h := h.2 c5
      refine lv_iload hx hb dX12_read_28 (lv_at hl 4 rfl) ?_
      refine lv_i2l hx hb dX12_read_30 rfl ?_
      refine lv_lconst (v := 0) hx hb dX12_read_31 (by decide) ?_
      refine lv_ldc2 hx hb hown lk2 dX12_read_32 ?_
      refine k_i (wr := [(a_t, .inr (12, [o_t_tape, o_t_taped, o_t_fault, o_t_broken, o_t_brokenAt, o_t_spot, o_t_here, o_t_token, o_t_value, o_t_cuts, o_t_letters, o_t_plain, o_t_rules, o_t_words, o_t_shorts, o_t_guards, o_t_readRules, o_t_readTable, o_t_readWords, o_t_readShorts, o_t_readGuards, o_t_toldOnes, .ref a_t_state, .int u1_t_isAwake, o_t_sums, o_t_tongue, o_t_bestTable, o_t_may, o_t_mouth, o_t_mouthThen, o_t_isKept, .ref a_t_lanes, .ref a_t_lengths, .ref a_t_cells, .int t_torn])), (a_t_state, .inl (g.1 1, 192, .inl u1_t_state)), (a_t_cells, .inl (g.1 1, 160, .inl t_cells)), (a_t_lanes, .inl (g.1 1, 4, .inl t_lanes)), (a_t_lengths, .inl (g.1 1, 4, .inl t_lengths))]) hA hP hD hS [] [0, 1, 2, 3, 4] rfl rfl (by decide) (by decide) (va_runS (As := [.long x4.toInt64, .long 0, .long ((24))]) (rest := []) ⟨hx, hb, hml, hown, hts⟩ (c_X12_in l D g x4.toInt64 0 ((24)) _ h H.size) (va_cwS 3 hts (gdS (inR_10 (List.mem_of_getElem? (i := 1) rfl)) (inR_10 (List.mem_of_getElem? (i := 2) rfl)) (inR_1 (List.mem_of_getElem? (i := 5) rfl)) (inR_10 (List.mem_of_getElem? (i := 3) rfl))) rfl rfl rfl hdX12_in.2 ⟨Nat.le_of_ble_eq_true rfl, Nat.le_of_ble_eq_true rfl⟩) (k_preS hG hA hP hD hS [] rfl (by decide)) rfl rfl hl.1 rfl (lv_room (Nat.le_of_ble_eq_true rfl)) dX12_read_35 ⟨Nat.zero_le _, Nat.zero_le _⟩) (fun r6 W' H locs h hP hD hS => ?_)
      obtain ⟨rfl, h⟩ := h
      have hP : va_P D vwCl [(a_t, .inr (12, [o_t_tape, o_t_taped, o_t_fault, o_t_broken, o_t_brokenAt, o_t_spot, o_t_here, o_t_token, o_t_value, o_t_cuts, o_t_letters, o_t_plain, o_t_rules, o_t_words, o_t_shorts, o_t_guards, o_t_readRules, o_t_readTable, o_t_readWords, o_t_readShorts, o_t_readGuards, o_t_toldOnes, .ref a_t_state, .int u1_t_isAwake, o_t_sums, o_t_tongue, o_t_bestTable, o_t_may, o_t_mouth, o_t_mouthThen, o_t_isKept, .ref a_t_lanes, .ref a_t_lengths, .ref a_t_cells, .int t_torn])), (a_t_state, .inl (g.1 1, 192, .inl u1_t_state)), (a_t_cells, .inl (g.1 1, 160, .inl t_cells)), (a_t_lanes, .inl (g.1 1, 4, .inl t_lanes)), (a_t_lengths, .inl (g.1 1, 4, .inl t_lengths))] H := hP.sub [0, 1, 2, 3, 4] rfl
      have hD : va_D A [(a_t, .inr (12, [o_t_tape, o_t_taped, o_t_fault, o_t_broken, o_t_brokenAt, o_t_spot, o_t_here, o_t_token, o_t_value, o_t_cuts, o_t_letters, o_t_plain, o_t_rules, o_t_words, o_t_shorts, o_t_guards, o_t_readRules, o_t_readTable, o_t_readWords, o_t_readShorts, o_t_readGuards, o_t_toldOnes, .ref a_t_state, .int u1_t_isAwake, o_t_sums, o_t_tongue, o_t_bestTable, o_t_may, o_t_mouth, o_t_mouthThen, o_t_isKept, .ref a_t_lanes, .ref a_t_lengths, .ref a_t_cells, .int t_torn])), (a_t_state, .inl (g.1 1, 192, .inl u1_t_state)), (a_t_cells, .inl (g.1 1, 160, .inl t_cells)), (a_t_lanes, .inl (g.1 1, 4, .inl t_lanes)), (a_t_lengths, .inl (g.1 1, 4, .inl t_lengths))] := hD.sub [0, 1, 2, 3, 4] (by decide) rfl
      refine lv_if_ne (tgt := 43) hx hb dX12_read_38 (by decide) (fun c7 => ?_) (fun c7 => ?_)
      · have h := h.1 c7
        refine lv_iconst (v := 0) hx hb dX12_read_43 (by decide) ?_
        refine lv_istore (lv' := [(5, .int 0), (0, .ref a_t), (1, .int x1), (2, .int x2), (3, .int x3), (4, .int x4)]) hx hb dX12_read_44 hl (by decide) rfl (fun ls hl => ?_)
        refine lv_iconst (v := 0) hx hb dX12_read_46 (by decide) ?_
        refine lv_istore (lv' := [(6, .int 0), (5, .int 0), (0, .ref a_t), (1, .int x1), (2, .int x2), (3, .int x3), (4, .int x4)]) hx hb dX12_read_47 hl (by decide) rfl (fun ls hl => ?_)
        refine lv_iconst (v := 0) hx hb dX12_read_49 (by decide) ?_
        refine lv_istore (lv' := [(7, .int 0), (6, .int 0), (5, .int 0), (0, .ref a_t), (1, .int x1), (2, .int x2), (3, .int x3), (4, .int x4)]) hx hb dX12_read_50 hl (by decide) rfl (fun ls hl => ?_)
        obtain ⟨n9, h⟩ := h
        exact L52 x1 x2 x3 x4 u1_t_isAwake t_torn u1_t_state n9 0 0 0 h _ _ hP hD hS _ (lv_sub hl [3, 4, 5, 6, 7, 2, 1, 0] rfl)
      · have h := h.2 c7
        refine lv_iconst (v := (-1)) hx hb dX12_read_41 (by decide) ?_
        exact hret ((-1)) _ _ _ _ _ ⟨u1_t_isAwake, t_torn, u1_t_state, rfl, h⟩ hP hD hS dX12_read_42
theorem hdX12_torn : yX12_torn.cls = RX12 ∧ yX12_torn.cls ≠ "java/lang/invoke/MethodHandle" ∧ yX12_torn.cls ≠ "java/lang/invoke/VarHandle" ∧ (parseMethodDescriptor yX12_torn.desc).map (fun d => d.parameters.length) = some 0 := by decide +kernel
abbrev rmX12_torn : Room := { frames := 1, cells := 0, slots := 0, locals := 100 }
set_option maxHeartbeats 4000000 in
set_option maxRecDepth 100000 in
theorem c_X12_torn (l : Launch) (D : va_G) (g : gE) (a_t : Nat) (o_t_tape : Value) (o_t_taped : Value) (o_t_fault : Value) (o_t_broken : Value) (o_t_brokenAt : Value) (o_t_spot : Value) (o_t_here : Value) (o_t_token : Value) (o_t_value : Value) (o_t_cuts : Value) (o_t_letters : Value) (o_t_plain : Value) (o_t_rules : Value) (o_t_words : Value) (o_t_shorts : Value) (o_t_guards : Value) (o_t_readRules : Value) (o_t_readTable : Value) (o_t_readWords : Value) (o_t_readShorts : Value) (o_t_readGuards : Value) (o_t_toldOnes : Value) (o_t_state : Value) (o_t_isAwake : Value) (o_t_sums : Value) (o_t_tongue : Value) (o_t_bestTable : Value) (o_t_may : Value) (o_t_mouth : Value) (o_t_mouthThen : Value) (o_t_isKept : Value) (o_t_lanes : Value) (o_t_lengths : Value) (o_t_cells : Value) (t_torn : Int32) (post : Int32 → Prop) (h : wp_X12_torn t_torn post) : Ci l D g yX12_torn (.code yX12_torn cX12_torn 1 (some .int) :: wsL_law) rmX12_torn [.ref a_t] [(a_t, .inr (12, [o_t_tape, o_t_taped, o_t_fault, o_t_broken, o_t_brokenAt, o_t_spot, o_t_here, o_t_token, o_t_value, o_t_cuts, o_t_letters, o_t_plain, o_t_rules, o_t_words, o_t_shorts, o_t_guards, o_t_readRules, o_t_readTable, o_t_readWords, o_t_readShorts, o_t_readGuards, o_t_toldOnes, o_t_state, o_t_isAwake, o_t_sums, o_t_tongue, o_t_bestTable, o_t_may, o_t_mouth, o_t_mouthThen, o_t_isKept, o_t_lanes, o_t_lengths, o_t_cells, .int t_torn]))] (fun r W' => W' = [(a_t, .inr (12, [o_t_tape, o_t_taped, o_t_fault, o_t_broken, o_t_brokenAt, o_t_spot, o_t_here, o_t_token, o_t_value, o_t_cuts, o_t_letters, o_t_plain, o_t_rules, o_t_words, o_t_shorts, o_t_guards, o_t_readRules, o_t_readTable, o_t_readWords, o_t_readShorts, o_t_readGuards, o_t_toldOnes, o_t_state, o_t_isAwake, o_t_sums, o_t_tongue, o_t_bestTable, o_t_may, o_t_mouth, o_t_mouthThen, o_t_isKept, o_t_lanes, o_t_lengths, o_t_cells, .int t_torn]))] ∧ post r) := by
  refine Ci.of (cc := cX12_torn) (maxL := 1) (by decide) rfl (Nat.le_of_ble_eq_true rfl) ?_
  intro p e s m args below meth c A Q hx hb hml hts hown hA H locs hP hD hS hG ls hl hret
  have hown : s.vm.findClass RX12 = some m.cls := hown
  have hl : lv_has ls 1 [(0, .ref a_t)] := hl
  have lk0 := hts (.fieldLink RX12 311 "KnockWallModel" "torn" "I") (List.mem_cons_of_mem _ (inR_51 (List.mem_of_getElem? (i := 14) rfl)))
  unfold wp_X12_torn at h
  try dsimp only at h
  refine lv_aload_n hx hb dX12_torn_0 rfl (lv_at hl 0 rfl) ?_
  refine va_get (ci := 12) (v := .int t_torn) (C := RX12) (T := TX12) (N := 35) hx hb hts icX12 hown hG.k hP 0 rfl rfl 34 (by decide) lk0 (fun _ h9 => h9) rfl dX12_torn_1 ?_
  exact hret t_torn _ _ _ _ _ ⟨rfl, h⟩ hP hD hS dX12_torn_4
theorem hdX12_count : yX12_count.cls = RX12 ∧ yX12_count.cls ≠ "java/lang/invoke/MethodHandle" ∧ yX12_count.cls ≠ "java/lang/invoke/VarHandle" ∧ (parseMethodDescriptor yX12_count.desc).map (fun d => d.parameters.length) = some 1 := by decide +kernel
abbrev rmX12_count : Room := { frames := 4, cells := 0, slots := 0, locals := 400 }
set_option maxHeartbeats 4000000 in
set_option maxRecDepth 100000 in
theorem c_X12_count (l : Launch) (D : va_G) (g : gE) (a_t : Nat) (a_t_lanes : Nat) (a_t_lengths : Nat) (a_t_isKept : Nat) (a_t_rules : Nat) (a_t_words : Nat) (a_t_state : Nat) (a_t_guards : Nat) (o_t_tape : Value) (o_t_fault : Value) (o_t_broken : Value) (o_t_brokenAt : Value) (o_t_spot : Value) (o_t_here : Value) (o_t_token : Value) (o_t_value : Value) (o_t_cuts : Value) (o_t_letters : Value) (o_t_plain : Value) (o_t_shorts : Value) (o_t_readRules : Value) (o_t_readTable : Value) (o_t_readWords : Value) (o_t_readShorts : Value) (o_t_readGuards : Value) (o_t_toldOnes : Value) (o_t_isAwake : Value) (o_t_sums : Value) (o_t_tongue : Value) (o_t_bestTable : Value) (o_t_may : Value) (o_t_mouth : Value) (o_t_mouthThen : Value) (o_t_cells : Value) (o_t_torn : Value) (t_taped : Int32) (t_lanes : Nat → Int32) (t_lengths : Nat → Int32) (t_isKept : Nat → Int32) (t_rules : Nat → Int32) (t_words : Nat → Int32) (t_state : Nat → Int32) (t_guards : Nat → Int32) (x1 : Int32) (post : Int32 → Prop) (h : wp_X12_count t_taped t_lanes t_lengths t_isKept t_rules t_words t_state t_guards x1 post) : Ci l D g yX12_count (.code yX12_count cX12_count 4 (some .int) :: wsL_law) rmX12_count [.ref a_t, .int x1] [(a_t, .inr (12, [o_t_tape, .int t_taped, o_t_fault, o_t_broken, o_t_brokenAt, o_t_spot, o_t_here, o_t_token, o_t_value, o_t_cuts, o_t_letters, o_t_plain, .ref a_t_rules, .ref a_t_words, o_t_shorts, .ref a_t_guards, o_t_readRules, o_t_readTable, o_t_readWords, o_t_readShorts, o_t_readGuards, o_t_toldOnes, .ref a_t_state, o_t_isAwake, o_t_sums, o_t_tongue, o_t_bestTable, o_t_may, o_t_mouth, o_t_mouthThen, .ref a_t_isKept, .ref a_t_lanes, .ref a_t_lengths, o_t_cells, o_t_torn])), (a_t_lanes, .inl (g.1 1, 4, .inl t_lanes)), (a_t_lengths, .inl (g.1 1, 4, .inl t_lengths)), (a_t_isKept, .inl (g.1 3, 2, .inl t_isKept)), (a_t_rules, .inl (g.1 1, 8, .inl t_rules)), (a_t_words, .inl (g.1 1, 100, .inl t_words)), (a_t_state, .inl (g.1 1, 192, .inl t_state)), (a_t_guards, .inl (g.1 1, 12, .inl t_guards))] (fun r W' => W' = [(a_t, .inr (12, [o_t_tape, .int t_taped, o_t_fault, o_t_broken, o_t_brokenAt, o_t_spot, o_t_here, o_t_token, o_t_value, o_t_cuts, o_t_letters, o_t_plain, .ref a_t_rules, .ref a_t_words, o_t_shorts, .ref a_t_guards, o_t_readRules, o_t_readTable, o_t_readWords, o_t_readShorts, o_t_readGuards, o_t_toldOnes, .ref a_t_state, o_t_isAwake, o_t_sums, o_t_tongue, o_t_bestTable, o_t_may, o_t_mouth, o_t_mouthThen, .ref a_t_isKept, .ref a_t_lanes, .ref a_t_lengths, o_t_cells, o_t_torn])), (a_t_lanes, .inl (g.1 1, 4, .inl t_lanes)), (a_t_lengths, .inl (g.1 1, 4, .inl t_lengths)), (a_t_isKept, .inl (g.1 3, 2, .inl t_isKept)), (a_t_rules, .inl (g.1 1, 8, .inl t_rules)), (a_t_words, .inl (g.1 1, 100, .inl t_words)), (a_t_state, .inl (g.1 1, 192, .inl t_state)), (a_t_guards, .inl (g.1 1, 12, .inl t_guards))] ∧ post r) := by
  refine Ci.of (cc := cX12_count) (maxL := 4) (by decide) rfl (Nat.le_of_ble_eq_true rfl) ?_
  intro p e s m args below meth c A Q hx hb hml hts hown hA H locs hP hD hS hG ls hl hret
  have hown : s.vm.findClass RX12 = some m.cls := hown
  have hl : lv_has ls 4 [(0, .ref a_t), (1, .int x1)] := hl
  have lk0 := hts (.fieldLink RX12 49 "KnockWallModel" "state" "[I") (List.mem_cons_of_mem _ (inR_8 (List.mem_of_getElem? (i := 14) rfl)))
  have lk1 := hts (.fieldLink RX12 71 "KnockWallModel" "isKept" "[Z") (List.mem_cons_of_mem _ (inR_8 (List.mem_of_getElem? (i := 22) rfl)))
  have lk2 := hts (.fieldLink RX12 84 "KnockWallModel" "taped" "I") (List.mem_cons_of_mem _ (inR_9 (List.mem_of_getElem? (i := 16) rfl)))
  have lk3 := hts (.fieldLink RX12 75 "KnockWallModel" "lanes" "[I") (List.mem_cons_of_mem _ (inR_8 (List.mem_of_getElem? (i := 23) rfl)))
  have lk4 := hts (.fieldLink RX12 78 "KnockWallModel" "lengths" "[I") (List.mem_cons_of_mem _ (inR_9 (List.mem_of_getElem? (i := 0) rfl)))
  have L104 : ∀ (z0 : Int32), B_X12_count_104 t_isKept z0 post → ∀ (H : Heap) (locs : List Loc), va_P D vwCl [(a_t, .inr (12, [o_t_tape, .int t_taped, o_t_fault, o_t_broken, o_t_brokenAt, o_t_spot, o_t_here, o_t_token, o_t_value, o_t_cuts, o_t_letters, o_t_plain, .ref a_t_rules, .ref a_t_words, o_t_shorts, .ref a_t_guards, o_t_readRules, o_t_readTable, o_t_readWords, o_t_readShorts, o_t_readGuards, o_t_toldOnes, .ref a_t_state, o_t_isAwake, o_t_sums, o_t_tongue, o_t_bestTable, o_t_may, o_t_mouth, o_t_mouthThen, .ref a_t_isKept, .ref a_t_lanes, .ref a_t_lengths, o_t_cells, o_t_torn])), (a_t_lanes, .inl (g.1 1, 4, .inl t_lanes)), (a_t_lengths, .inl (g.1 1, 4, .inl t_lengths)), (a_t_isKept, .inl (g.1 3, 2, .inl t_isKept)), (a_t_rules, .inl (g.1 1, 8, .inl t_rules)), (a_t_words, .inl (g.1 1, 100, .inl t_words)), (a_t_state, .inl (g.1 1, 192, .inl t_state)), (a_t_guards, .inl (g.1 1, 12, .inl t_guards))] H → va_D A [(a_t, .inr (12, [o_t_tape, .int t_taped, o_t_fault, o_t_broken, o_t_brokenAt, o_t_spot, o_t_here, o_t_token, o_t_value, o_t_cuts, o_t_letters, o_t_plain, .ref a_t_rules, .ref a_t_words, o_t_shorts, .ref a_t_guards, o_t_readRules, o_t_readTable, o_t_readWords, o_t_readShorts, o_t_readGuards, o_t_toldOnes, .ref a_t_state, o_t_isAwake, o_t_sums, o_t_tongue, o_t_bestTable, o_t_may, o_t_mouth, o_t_mouthThen, .ref a_t_isKept, .ref a_t_lanes, .ref a_t_lengths, o_t_cells, o_t_torn])), (a_t_lanes, .inl (g.1 1, 4, .inl t_lanes)), (a_t_lengths, .inl (g.1 1, 4, .inl t_lengths)), (a_t_isKept, .inl (g.1 3, 2, .inl t_isKept)), (a_t_rules, .inl (g.1 1, 8, .inl t_rules)), (a_t_words, .inl (g.1 1, 100, .inl t_words)), (a_t_state, .inl (g.1 1, 192, .inl t_state)), (a_t_guards, .inl (g.1 1, 12, .inl t_guards))] → va_S A s.heap H locs → ∀ (ls : Array Slot), lv_has ls 4 [(0, .ref a_t)] → W p l e rmX12_count s m args below meth c H locs 0 0 Q (F0 m 104 ls [.int z0]) := by
    intro z0
    intro h H locs hP hD hS ls hl
    unfold B_X12_count_104 at h
    try dsimp only at h
    refine lv_aload_n hx hb dX12_count_104 rfl (lv_at hl 0 rfl) ?_
    refine va_get (ci := 12) (v := .ref a_t_isKept) (C := RX12) (T := TX12) (N := 35) hx hb hts icX12 hown hG.k hP 0 rfl rfl 30 (by decide) lk1 (fun _ h9 => h9) rfl dX12_count_105 ?_
    refine lv_iconst (v := 1) hx hb dX12_count_108 (by decide) ?_
    obtain ⟨hv11, h⟩ := h
    refine va_zald hx hb hG.k hP 3 3 rfl rfl hv11 dX12_count_109 ?_
    refine lv_if_eq (tgt := 117) hx hb dX12_count_110 (by decide) (fun c12 => ?_) (fun c12 => ?_)
    · have h := h.1 c12
      refine lv_iconst (v := 0) hx hb dX12_count_117 (by decide) ?_
      refine lv_iadd hx hb dX12_count_118 ?_
      exact hret (z0 + 0) _ _ _ _ _ ⟨rfl, h⟩ hP hD hS dX12_count_119
    · have h := h.2 c12
      refine lv_iconst (v := 1) hx hb dX12_count_113 (by decide) ?_
      refine lv_goto (tgt := 118) hx hb dX12_count_114 (by decide) ?_
      refine lv_iadd hx hb dX12_count_118 ?_
      exact hret (z0 + 1) _ _ _ _ _ ⟨rfl, h⟩ hP hD hS dX12_count_119
  have L4 : ∀ (x1 : Int32), ∀ (n : Nat) (x2 : Int32) (x3 : Int32), fixN (F_X12_count_4 t_taped t_lanes t_lengths t_isKept t_rules t_words t_state t_guards x1 post) n (x2, x3) → ∀ (H : Heap) (locs : List Loc), va_P D vwCl [(a_t, .inr (12, [o_t_tape, .int t_taped, o_t_fault, o_t_broken, o_t_brokenAt, o_t_spot, o_t_here, o_t_token, o_t_value, o_t_cuts, o_t_letters, o_t_plain, .ref a_t_rules, .ref a_t_words, o_t_shorts, .ref a_t_guards, o_t_readRules, o_t_readTable, o_t_readWords, o_t_readShorts, o_t_readGuards, o_t_toldOnes, .ref a_t_state, o_t_isAwake, o_t_sums, o_t_tongue, o_t_bestTable, o_t_may, o_t_mouth, o_t_mouthThen, .ref a_t_isKept, .ref a_t_lanes, .ref a_t_lengths, o_t_cells, o_t_torn])), (a_t_lanes, .inl (g.1 1, 4, .inl t_lanes)), (a_t_lengths, .inl (g.1 1, 4, .inl t_lengths)), (a_t_isKept, .inl (g.1 3, 2, .inl t_isKept)), (a_t_rules, .inl (g.1 1, 8, .inl t_rules)), (a_t_words, .inl (g.1 1, 100, .inl t_words)), (a_t_state, .inl (g.1 1, 192, .inl t_state)), (a_t_guards, .inl (g.1 1, 12, .inl t_guards))] H → va_D A [(a_t, .inr (12, [o_t_tape, .int t_taped, o_t_fault, o_t_broken, o_t_brokenAt, o_t_spot, o_t_here, o_t_token, o_t_value, o_t_cuts, o_t_letters, o_t_plain, .ref a_t_rules, .ref a_t_words, o_t_shorts, .ref a_t_guards, o_t_readRules, o_t_readTable, o_t_readWords, o_t_readShorts, o_t_readGuards, o_t_toldOnes, .ref a_t_state, o_t_isAwake, o_t_sums, o_t_tongue, o_t_bestTable, o_t_may, o_t_mouth, o_t_mouthThen, .ref a_t_isKept, .ref a_t_lanes, .ref a_t_lengths, o_t_cells, o_t_torn])), (a_t_lanes, .inl (g.1 1, 4, .inl t_lanes)), (a_t_lengths, .inl (g.1 1, 4, .inl t_lengths)), (a_t_isKept, .inl (g.1 3, 2, .inl t_isKept)), (a_t_rules, .inl (g.1 1, 8, .inl t_rules)), (a_t_words, .inl (g.1 1, 100, .inl t_words)), (a_t_state, .inl (g.1 1, 192, .inl t_state)), (a_t_guards, .inl (g.1 1, 12, .inl t_guards))] → va_S A s.heap H locs → ∀ (ls : Array Slot), lv_has ls 4 [(0, .ref a_t), (1, .int x1), (2, .int x2), (3, .int x3)] → W p l e rmX12_count s m args below meth c H locs 0 0 Q (F0 m 4 ls []) := by
    intro x1
    intro n
    induction n with
    | zero => intro x2 x3 h; exact h.elim
    | succ n ih =>
      intro x2 x3 h H locs hP hD hS ls hl
      have h : F_X12_count_4 t_taped t_lanes t_lengths t_isKept t_rules t_words t_state t_guards x1 post (fixN (F_X12_count_4 t_taped t_lanes t_lengths t_isKept t_rules t_words t_state t_guards x1 post) n) (x2, x3) := h
      unfold F_X12_count_4 at h
      try dsimp only at h
      refine lv_iload_n hx hb dX12_count_4 rfl (lv_at hl 3 rfl) ?_
      refine lv_sipush (v := 600) hx hb dX12_count_5 (by decide) ?_
      refine lv_icmp_ge (tgt := 33) hx hb dX12_count_8 (by decide) (fun c1 => ?_) (fun c1 => ?_)
      · have h := h.1 c1
        refine lv_iload_n hx hb dX12_count_33 rfl (lv_at hl 1 rfl) ?_
        by_cases e2 : (x1 : Int32) = 0
        · have h := h.1 e2
          refine lv_tableIn (off := 38) (tgt := 72) hx hb dX12_count_34 (by rw [e2]; decide) (by rw [e2]; decide) (by rw [e2]; rfl) (by decide) ?_
          refine lv_aload_n hx hb dX12_count_72 rfl (lv_at hl 0 rfl) ?_
          refine va_get (ci := 12) (v := .ref a_t_state) (C := RX12) (T := TX12) (N := 35) hx hb hts icX12 hown hG.k hP 0 rfl rfl 22 (by decide) lk0 (fun _ h9 => h9) rfl dX12_count_73 ?_
          refine lv_bipush (v := 49) hx hb dX12_count_76 (by decide) ?_
          obtain ⟨hv3, h⟩ := h
          refine va_iald hx hb hG.k hP 6 1 rfl rfl hv3 dX12_count_78 ?_
          exact hret (t_state (49 : Int32).toNatClampNeg) _ _ _ _ _ ⟨rfl, h⟩ hP hD hS dX12_count_79
        · have h := h.2
          by_cases e4 : (x1 : Int32) = 1
          · have h := h.1 e4
            refine lv_tableIn (off := 46) (tgt := 80) hx hb dX12_count_34 (by rw [e4]; decide) (by rw [e4]; decide) (by rw [e4]; rfl) (by decide) ?_
            refine lv_aload_n hx hb dX12_count_80 rfl (lv_at hl 0 rfl) ?_
            refine k_i (wr := [(a_t_lanes, .inl (g.1 1, 4, .inl t_lanes)), (a_t_lengths, .inl (g.1 1, 4, .inl t_lengths)), (a_t_isKept, .inl (g.1 3, 2, .inl t_isKept)), (a_t_state, .inl (g.1 1, 192, .inl t_state)), (a_t_guards, .inl (g.1 1, 12, .inl t_guards))]) hA hP hD hS [0, 4, 5] [1, 2, 3, 6, 7] rfl rfl (by decide) (by decide) (va_runV (As := []) (rest := []) ⟨hx, hb, hml, hown, hts⟩ (c_X12_allLetters l D g a_t a_t_rules a_t_words (o_t_tape) (.int t_taped) (o_t_fault) (o_t_broken) (o_t_brokenAt) (o_t_spot) (o_t_here) (o_t_token) (o_t_value) (o_t_cuts) (o_t_letters) (o_t_plain) (o_t_shorts) (.ref a_t_guards) (o_t_readRules) (o_t_readTable) (o_t_readWords) (o_t_readShorts) (o_t_readGuards) (o_t_toldOnes) (.ref a_t_state) (o_t_isAwake) (o_t_sums) (o_t_tongue) (o_t_bestTable) (o_t_may) (o_t_mouth) (o_t_mouthThen) (.ref a_t_isKept) (.ref a_t_lanes) (.ref a_t_lengths) (o_t_cells) (o_t_torn) t_rules t_words _ h H.size) (cwV 0 hts (gdV (inR_46 (List.mem_of_getElem? (i := 1) rfl)) (inR_46 (List.mem_of_getElem? (i := 2) rfl)) (inR_46 (List.mem_of_getElem? (i := 3) rfl)) (inR_1 (List.mem_of_getElem? (i := 5) rfl)) (inR_46 (List.mem_of_getElem? (i := 4) rfl))) rfl rfl rfl hdX12_allLetters ⟨Nat.le_of_ble_eq_true rfl, Nat.le_of_ble_eq_true rfl⟩) (k_preV (q0 := 0) hG hA hP hD hS [0, 4, 5] rfl (by decide) rfl rfl) rfl rfl hl.1 rfl (lv_room (Nat.le_of_ble_eq_true rfl)) dX12_count_81 ⟨Nat.zero_le _, Nat.zero_le _⟩) (fun r5 W' H locs h hP hD hS => ?_)
            obtain ⟨rfl, h⟩ := h
            have hP : va_P D vwCl [(a_t, .inr (12, [o_t_tape, .int t_taped, o_t_fault, o_t_broken, o_t_brokenAt, o_t_spot, o_t_here, o_t_token, o_t_value, o_t_cuts, o_t_letters, o_t_plain, .ref a_t_rules, .ref a_t_words, o_t_shorts, .ref a_t_guards, o_t_readRules, o_t_readTable, o_t_readWords, o_t_readShorts, o_t_readGuards, o_t_toldOnes, .ref a_t_state, o_t_isAwake, o_t_sums, o_t_tongue, o_t_bestTable, o_t_may, o_t_mouth, o_t_mouthThen, .ref a_t_isKept, .ref a_t_lanes, .ref a_t_lengths, o_t_cells, o_t_torn])), (a_t_lanes, .inl (g.1 1, 4, .inl t_lanes)), (a_t_lengths, .inl (g.1 1, 4, .inl t_lengths)), (a_t_isKept, .inl (g.1 3, 2, .inl t_isKept)), (a_t_rules, .inl (g.1 1, 8, .inl t_rules)), (a_t_words, .inl (g.1 1, 100, .inl t_words)), (a_t_state, .inl (g.1 1, 192, .inl t_state)), (a_t_guards, .inl (g.1 1, 12, .inl t_guards))] H := hP.sub [5, 0, 1, 2, 6, 7, 3, 4] rfl
            have hD : va_D A [(a_t, .inr (12, [o_t_tape, .int t_taped, o_t_fault, o_t_broken, o_t_brokenAt, o_t_spot, o_t_here, o_t_token, o_t_value, o_t_cuts, o_t_letters, o_t_plain, .ref a_t_rules, .ref a_t_words, o_t_shorts, .ref a_t_guards, o_t_readRules, o_t_readTable, o_t_readWords, o_t_readShorts, o_t_readGuards, o_t_toldOnes, .ref a_t_state, o_t_isAwake, o_t_sums, o_t_tongue, o_t_bestTable, o_t_may, o_t_mouth, o_t_mouthThen, .ref a_t_isKept, .ref a_t_lanes, .ref a_t_lengths, o_t_cells, o_t_torn])), (a_t_lanes, .inl (g.1 1, 4, .inl t_lanes)), (a_t_lengths, .inl (g.1 1, 4, .inl t_lengths)), (a_t_isKept, .inl (g.1 3, 2, .inl t_isKept)), (a_t_rules, .inl (g.1 1, 8, .inl t_rules)), (a_t_words, .inl (g.1 1, 100, .inl t_words)), (a_t_state, .inl (g.1 1, 192, .inl t_state)), (a_t_guards, .inl (g.1 1, 12, .inl t_guards))] := hD.sub [5, 0, 1, 2, 6, 7, 3, 4] (by decide) rfl
            refine k_i (wr := [(a_t, .inr (12, [o_t_tape, .int t_taped, o_t_fault, o_t_broken, o_t_brokenAt, o_t_spot, o_t_here, o_t_token, o_t_value, o_t_cuts, o_t_letters, o_t_plain, .ref a_t_rules, .ref a_t_words, o_t_shorts, .ref a_t_guards, o_t_readRules, o_t_readTable, o_t_readWords, o_t_readShorts, o_t_readGuards, o_t_toldOnes, .ref a_t_state, o_t_isAwake, o_t_sums, o_t_tongue, o_t_bestTable, o_t_may, o_t_mouth, o_t_mouthThen, .ref a_t_isKept, .ref a_t_lanes, .ref a_t_lengths, o_t_cells, o_t_torn])), (a_t_lanes, .inl (g.1 1, 4, .inl t_lanes)), (a_t_lengths, .inl (g.1 1, 4, .inl t_lengths)), (a_t_isKept, .inl (g.1 3, 2, .inl t_isKept)), (a_t_rules, .inl (g.1 1, 8, .inl t_rules)), (a_t_words, .inl (g.1 1, 100, .inl t_words)), (a_t_state, .inl (g.1 1, 192, .inl t_state)), (a_t_guards, .inl (g.1 1, 12, .inl t_guards))]) hA hP hD hS [] [0, 1, 2, 3, 4, 5, 6, 7] rfl rfl (by decide) (by decide) (va_runS (As := [.int r5]) (rest := []) ⟨hx, hb, hml, hown, hts⟩ (c_X12_bitsOf l D g r5 _ h H.size) (va_cwS 1 hts (gdS (inR_46 (List.mem_of_getElem? (i := 9) rfl)) (inR_46 (List.mem_of_getElem? (i := 10) rfl)) (inR_1 (List.mem_of_getElem? (i := 5) rfl)) (inR_46 (List.mem_of_getElem? (i := 11) rfl))) rfl rfl rfl hdX12_bitsOf.2 ⟨Nat.le_of_ble_eq_true rfl, Nat.le_of_ble_eq_true rfl⟩) (k_preS hG hA hP hD hS [] rfl (by decide)) rfl rfl hl.1 rfl (lv_room (Nat.le_of_ble_eq_true rfl)) dX12_count_84 ⟨Nat.zero_le _, Nat.zero_le _⟩) (fun r6 W' H locs h hP hD hS => ?_)
            obtain ⟨rfl, h⟩ := h
            have hP : va_P D vwCl [(a_t, .inr (12, [o_t_tape, .int t_taped, o_t_fault, o_t_broken, o_t_brokenAt, o_t_spot, o_t_here, o_t_token, o_t_value, o_t_cuts, o_t_letters, o_t_plain, .ref a_t_rules, .ref a_t_words, o_t_shorts, .ref a_t_guards, o_t_readRules, o_t_readTable, o_t_readWords, o_t_readShorts, o_t_readGuards, o_t_toldOnes, .ref a_t_state, o_t_isAwake, o_t_sums, o_t_tongue, o_t_bestTable, o_t_may, o_t_mouth, o_t_mouthThen, .ref a_t_isKept, .ref a_t_lanes, .ref a_t_lengths, o_t_cells, o_t_torn])), (a_t_lanes, .inl (g.1 1, 4, .inl t_lanes)), (a_t_lengths, .inl (g.1 1, 4, .inl t_lengths)), (a_t_isKept, .inl (g.1 3, 2, .inl t_isKept)), (a_t_rules, .inl (g.1 1, 8, .inl t_rules)), (a_t_words, .inl (g.1 1, 100, .inl t_words)), (a_t_state, .inl (g.1 1, 192, .inl t_state)), (a_t_guards, .inl (g.1 1, 12, .inl t_guards))] H := hP.sub [0, 1, 2, 3, 4, 5, 6, 7] rfl
            have hD : va_D A [(a_t, .inr (12, [o_t_tape, .int t_taped, o_t_fault, o_t_broken, o_t_brokenAt, o_t_spot, o_t_here, o_t_token, o_t_value, o_t_cuts, o_t_letters, o_t_plain, .ref a_t_rules, .ref a_t_words, o_t_shorts, .ref a_t_guards, o_t_readRules, o_t_readTable, o_t_readWords, o_t_readShorts, o_t_readGuards, o_t_toldOnes, .ref a_t_state, o_t_isAwake, o_t_sums, o_t_tongue, o_t_bestTable, o_t_may, o_t_mouth, o_t_mouthThen, .ref a_t_isKept, .ref a_t_lanes, .ref a_t_lengths, o_t_cells, o_t_torn])), (a_t_lanes, .inl (g.1 1, 4, .inl t_lanes)), (a_t_lengths, .inl (g.1 1, 4, .inl t_lengths)), (a_t_isKept, .inl (g.1 3, 2, .inl t_isKept)), (a_t_rules, .inl (g.1 1, 8, .inl t_rules)), (a_t_words, .inl (g.1 1, 100, .inl t_words)), (a_t_state, .inl (g.1 1, 192, .inl t_state)), (a_t_guards, .inl (g.1 1, 12, .inl t_guards))] := hD.sub [0, 1, 2, 3, 4, 5, 6, 7] (by decide) rfl
            exact hret r6 _ _ _ _ _ ⟨rfl, h⟩ hP hD hS dX12_count_87
          · have h := h.2
            by_cases e7 : (x1 : Int32) = 2
            · have h := h.1 e7
              refine lv_tableIn (off := 54) (tgt := 88) hx hb dX12_count_34 (by rw [e7]; decide) (by rw [e7]; decide) (by rw [e7]; rfl) (by decide) ?_
              refine lv_iload_n hx hb dX12_count_88 rfl (lv_at hl 2 rfl) ?_
              exact hret x2 _ _ _ _ _ ⟨rfl, h⟩ hP hD hS dX12_count_89
            · have h := h.2
              by_cases e8 : (x1 : Int32) = 3
              · have h := h.1 e8
                refine lv_tableIn (off := 56) (tgt := 90) hx hb dX12_count_34 (by rw [e8]; decide) (by rw [e8]; decide) (by rw [e8]; rfl) (by decide) ?_
                refine lv_aload_n hx hb dX12_count_90 rfl (lv_at hl 0 rfl) ?_
                refine va_get (ci := 12) (v := .ref a_t_isKept) (C := RX12) (T := TX12) (N := 35) hx hb hts icX12 hown hG.k hP 0 rfl rfl 30 (by decide) lk1 (fun _ h9 => h9) rfl dX12_count_91 ?_
                refine lv_iconst (v := 0) hx hb dX12_count_94 (by decide) ?_
                obtain ⟨hv9, h⟩ := h
                refine va_zald hx hb hG.k hP 3 3 rfl rfl hv9 dX12_count_95 ?_
                refine lv_if_eq (tgt := 103) hx hb dX12_count_96 (by decide) (fun c10 => ?_) (fun c10 => ?_)
                · have h := h.1 c10
                  refine lv_iconst (v := 0) hx hb dX12_count_103 (by decide) ?_
                  exact L104 0 h _ _ hP hD hS _ (lv_sub hl [0] rfl)
                · have h := h.2 c10
                  refine lv_iconst (v := 1) hx hb dX12_count_99 (by decide) ?_
                  refine lv_goto (tgt := 104) hx hb dX12_count_100 (by decide) ?_
                  exact L104 1 h _ _ hP hD hS _ (lv_sub hl [0] rfl)
              · have h := h.2
                by_cases e13 : (x1 : Int32) = 4
                · have h := h.1 e13
                  refine lv_tableIn (off := 86) (tgt := 120) hx hb dX12_count_34 (by rw [e13]; decide) (by rw [e13]; decide) (by rw [e13]; rfl) (by decide) ?_
                  refine lv_aload_n hx hb dX12_count_120 rfl (lv_at hl 0 rfl) ?_
                  refine va_get (ci := 12) (v := .int t_taped) (C := RX12) (T := TX12) (N := 35) hx hb hts icX12 hown hG.k hP 0 rfl rfl 1 (by decide) lk2 (fun _ h9 => h9) rfl dX12_count_121 ?_
                  exact hret t_taped _ _ _ _ _ ⟨rfl, h⟩ hP hD hS dX12_count_124
                · have h := h.2
                  by_cases e14 : (x1 : Int32) = 5
                  · have h := h.1 e14
                    refine lv_tableIn (off := 91) (tgt := 125) hx hb dX12_count_34 (by rw [e14]; decide) (by rw [e14]; decide) (by rw [e14]; rfl) (by decide) ?_
                    refine lv_aload_n hx hb dX12_count_125 rfl (lv_at hl 0 rfl) ?_
                    refine va_get (ci := 12) (v := .ref a_t_lanes) (C := RX12) (T := TX12) (N := 35) hx hb hts icX12 hown hG.k hP 0 rfl rfl 31 (by decide) lk3 (fun _ h9 => h9) rfl dX12_count_126 ?_
                    refine lv_iconst (v := 0) hx hb dX12_count_129 (by decide) ?_
                    obtain ⟨hv15, h⟩ := h
                    refine va_iald hx hb hG.k hP 1 1 rfl rfl hv15 dX12_count_130 ?_
                    refine lv_bipush (v := (-4)) hx hb dX12_count_131 (by decide) ?_
                    refine lv_icmp_ne (tgt := 141) hx hb dX12_count_133 (by decide) (fun c16 => ?_) (fun c16 => ?_)
                    · have h := h.1 c16
                      refine lv_aload_n hx hb dX12_count_141 rfl (lv_at hl 0 rfl) ?_
                      refine va_get (ci := 12) (v := .ref a_t_lengths) (C := RX12) (T := TX12) (N := 35) hx hb hts icX12 hown hG.k hP 0 rfl rfl 32 (by decide) lk4 (fun _ h9 => h9) rfl dX12_count_142 ?_
                      refine lv_iconst (v := 0) hx hb dX12_count_145 (by decide) ?_
                      obtain ⟨hv17, h⟩ := h
                      refine va_iald hx hb hG.k hP 2 1 rfl rfl hv17 dX12_count_146 ?_
                      exact hret (t_lengths (0 : Int32).toNatClampNeg) _ _ _ _ _ ⟨rfl, h⟩ hP hD hS dX12_count_147
                    · have h := h.2 c16
                      refine lv_bipush (v := (-4)) hx hb dX12_count_136 (by decide) ?_
                      refine lv_goto (tgt := 147) hx hb dX12_count_138 (by decide) ?_
                      exact hret ((-4)) _ _ _ _ _ ⟨rfl, h⟩ hP hD hS dX12_count_147
                  · have h := h.2
                    have h := h e2 e4 e7 e8 e13 e14
                    have we2 : ¬ (x1 : Int32).toInt = 0 := fun z => e2 (Int32.toInt_inj.mp (z.trans (by decide)))
                    have we4 : ¬ (x1 : Int32).toInt = 1 := fun z => e4 (Int32.toInt_inj.mp (z.trans (by decide)))
                    have we7 : ¬ (x1 : Int32).toInt = 2 := fun z => e7 (Int32.toInt_inj.mp (z.trans (by decide)))
                    have we8 : ¬ (x1 : Int32).toInt = 3 := fun z => e8 (Int32.toInt_inj.mp (z.trans (by decide)))
                    have we13 : ¬ (x1 : Int32).toInt = 4 := fun z => e13 (Int32.toInt_inj.mp (z.trans (by decide)))
                    have we14 : ¬ (x1 : Int32).toInt = 5 := fun z => e14 (Int32.toInt_inj.mp (z.trans (by decide)))
                    refine lv_tableOut (tgt := 148) hx hb dX12_count_34 (by omega) (by decide) ?_
                    refine lv_iconst (v := (-1)) hx hb dX12_count_148 (by decide) ?_
                    exact hret ((-1)) _ _ _ _ _ ⟨rfl, h⟩ hP hD hS dX12_count_149
      · have h := h.2 c1
        refine lv_iload_n hx hb dX12_count_11 rfl (lv_at hl 2 rfl) ?_
        refine lv_aload_n hx hb dX12_count_12 rfl (lv_at hl 0 rfl) ?_
        refine lv_iload_n hx hb dX12_count_13 rfl (lv_at hl 3 rfl) ?_
        refine k_i (wr := [(a_t_lanes, .inl (g.1 1, 4, .inl t_lanes)), (a_t_lengths, .inl (g.1 1, 4, .inl t_lengths)), (a_t_isKept, .inl (g.1 3, 2, .inl t_isKept)), (a_t_words, .inl (g.1 1, 100, .inl t_words)), (a_t_state, .inl (g.1 1, 192, .inl t_state))]) hA hP hD hS [0, 4, 7] [1, 2, 3, 5, 6] rfl rfl (by decide) (by decide) (va_runV (As := [.int x3]) (rest := [.int x2]) ⟨hx, hb, hml, hown, hts⟩ (c_X12_isStill l D g a_t a_t_rules a_t_guards (o_t_tape) (.int t_taped) (o_t_fault) (o_t_broken) (o_t_brokenAt) (o_t_spot) (o_t_here) (o_t_token) (o_t_value) (o_t_cuts) (o_t_letters) (o_t_plain) (.ref a_t_words) (o_t_shorts) (o_t_readRules) (o_t_readTable) (o_t_readWords) (o_t_readShorts) (o_t_readGuards) (o_t_toldOnes) (.ref a_t_state) (o_t_isAwake) (o_t_sums) (o_t_tongue) (o_t_bestTable) (o_t_may) (o_t_mouth) (o_t_mouthThen) (.ref a_t_isKept) (.ref a_t_lanes) (.ref a_t_lengths) (o_t_cells) (o_t_torn) t_rules t_guards x3 _ h H.size) (cwV 1 hts (gdV (inR_43 (List.mem_of_getElem? (i := 9) rfl)) (inR_43 (List.mem_of_getElem? (i := 10) rfl)) (inR_43 (List.mem_of_getElem? (i := 11) rfl)) (inR_1 (List.mem_of_getElem? (i := 5) rfl)) (inR_43 (List.mem_of_getElem? (i := 12) rfl))) rfl rfl rfl hdX12_isStill ⟨Nat.le_of_ble_eq_true rfl, Nat.le_of_ble_eq_true rfl⟩) (k_preV (q0 := 0) hG hA hP hD hS [0, 4, 7] rfl (by decide) rfl rfl) rfl rfl hl.1 rfl (lv_room (Nat.le_of_ble_eq_true rfl)) dX12_count_14 ⟨Nat.zero_le _, Nat.zero_le _⟩) (fun r18 W' H locs h hP hD hS => ?_)
        obtain ⟨rfl, h⟩ := h
        have hP : va_P D vwCl [(a_t, .inr (12, [o_t_tape, .int t_taped, o_t_fault, o_t_broken, o_t_brokenAt, o_t_spot, o_t_here, o_t_token, o_t_value, o_t_cuts, o_t_letters, o_t_plain, .ref a_t_rules, .ref a_t_words, o_t_shorts, .ref a_t_guards, o_t_readRules, o_t_readTable, o_t_readWords, o_t_readShorts, o_t_readGuards, o_t_toldOnes, .ref a_t_state, o_t_isAwake, o_t_sums, o_t_tongue, o_t_bestTable, o_t_may, o_t_mouth, o_t_mouthThen, .ref a_t_isKept, .ref a_t_lanes, .ref a_t_lengths, o_t_cells, o_t_torn])), (a_t_lanes, .inl (g.1 1, 4, .inl t_lanes)), (a_t_lengths, .inl (g.1 1, 4, .inl t_lengths)), (a_t_isKept, .inl (g.1 3, 2, .inl t_isKept)), (a_t_rules, .inl (g.1 1, 8, .inl t_rules)), (a_t_words, .inl (g.1 1, 100, .inl t_words)), (a_t_state, .inl (g.1 1, 192, .inl t_state)), (a_t_guards, .inl (g.1 1, 12, .inl t_guards))] H := hP.sub [5, 0, 1, 2, 6, 3, 4, 7] rfl
        have hD : va_D A [(a_t, .inr (12, [o_t_tape, .int t_taped, o_t_fault, o_t_broken, o_t_brokenAt, o_t_spot, o_t_here, o_t_token, o_t_value, o_t_cuts, o_t_letters, o_t_plain, .ref a_t_rules, .ref a_t_words, o_t_shorts, .ref a_t_guards, o_t_readRules, o_t_readTable, o_t_readWords, o_t_readShorts, o_t_readGuards, o_t_toldOnes, .ref a_t_state, o_t_isAwake, o_t_sums, o_t_tongue, o_t_bestTable, o_t_may, o_t_mouth, o_t_mouthThen, .ref a_t_isKept, .ref a_t_lanes, .ref a_t_lengths, o_t_cells, o_t_torn])), (a_t_lanes, .inl (g.1 1, 4, .inl t_lanes)), (a_t_lengths, .inl (g.1 1, 4, .inl t_lengths)), (a_t_isKept, .inl (g.1 3, 2, .inl t_isKept)), (a_t_rules, .inl (g.1 1, 8, .inl t_rules)), (a_t_words, .inl (g.1 1, 100, .inl t_words)), (a_t_state, .inl (g.1 1, 192, .inl t_state)), (a_t_guards, .inl (g.1 1, 12, .inl t_guards))] := hD.sub [5, 0, 1, 2, 6, 3, 4, 7] (by decide) rfl
        refine lv_if_eq (tgt := 24) hx hb dX12_count_17 (by decide) (fun c19 => ?_) (fun c19 => ?_)
        · have h := h.1 c19
          refine lv_iconst (v := 0) hx hb dX12_count_24 (by decide) ?_
          refine lv_iadd hx hb dX12_count_25 ?_
          refine lv_istore_n (lv' := [(2, .int (x2 + 0)), (0, .ref a_t), (1, .int x1), (3, .int x3)]) hx hb dX12_count_26 rfl hl (by decide) rfl (fun ls hl => ?_)
          refine lv_iinc (v := x3 + 1) (lv' := [(3, .int (x3 + 1)), (2, .int (x2 + 0)), (0, .ref a_t), (1, .int x1)]) hx hb dX12_count_27 hl (k := 3) rfl rfl (by decide) rfl (fun ls hl => ?_)
          refine lv_goto (tgt := 4) hx hb dX12_count_30 (by decide) ?_
          exact ih (x2 + 0) (x3 + 1) h _ _ hP hD hS _ (lv_sub hl [2, 3, 1, 0] rfl)
        · have h := h.2 c19
          refine lv_iconst (v := 1) hx hb dX12_count_20 (by decide) ?_
          refine lv_goto (tgt := 25) hx hb dX12_count_21 (by decide) ?_
          refine lv_iadd hx hb dX12_count_25 ?_
          refine lv_istore_n (lv' := [(2, .int (x2 + 1)), (0, .ref a_t), (1, .int x1), (3, .int x3)]) hx hb dX12_count_26 rfl hl (by decide) rfl (fun ls hl => ?_)
          refine lv_iinc (v := x3 + 1) (lv' := [(3, .int (x3 + 1)), (2, .int (x2 + 1)), (0, .ref a_t), (1, .int x1)]) hx hb dX12_count_27 hl (k := 3) rfl rfl (by decide) rfl (fun ls hl => ?_)
          refine lv_goto (tgt := 4) hx hb dX12_count_30 (by decide) ?_
          exact ih (x2 + 1) (x3 + 1) h _ _ hP hD hS _ (lv_sub hl [2, 3, 1, 0] rfl)
  unfold wp_X12_count at h
  try dsimp only at h
  refine lv_iconst (v := 0) hx hb dX12_count_0 (by decide) ?_
  refine lv_istore_n (lv' := [(2, .int 0), (0, .ref a_t), (1, .int x1)]) hx hb dX12_count_1 rfl hl (by decide) rfl (fun ls hl => ?_)
  refine lv_iconst (v := 0) hx hb dX12_count_2 (by decide) ?_
  refine lv_istore_n (lv' := [(3, .int 0), (2, .int 0), (0, .ref a_t), (1, .int x1)]) hx hb dX12_count_3 rfl hl (by decide) rfl (fun ls hl => ?_)
  obtain ⟨n9, h⟩ := h
  exact L4 x1 n9 0 0 h _ _ hP hD hS _ (lv_sub hl [2, 3, 1, 0] rfl)
