theorem hdX12_isStill : yX12_isStill.cls = RX12 ∧ yX12_isStill.cls ≠ "java/lang/invoke/MethodHandle" ∧ yX12_isStill.cls ≠ "java/lang/invoke/VarHandle" ∧ (parseMethodDescriptor yX12_isStill.desc).map (fun d => d.parameters.length) = some 1 := by decide +kernel
abbrev rmX12_isStill : Room := { frames := 2, cells := 0, slots := 0, locals := 200 }
set_option maxHeartbeats 4000000 in
set_option maxRecDepth 100000 in
theorem c_X12_isStill (l : Launch) (D : va_G) (g : gE) (a_t : Nat) (a_t_rules : Nat) (a_t_guards : Nat) (o_t_tape : Value) (o_t_taped : Value) (o_t_fault : Value) (o_t_broken : Value) (o_t_brokenAt : Value) (o_t_spot : Value) (o_t_here : Value) (o_t_token : Value) (o_t_value : Value) (o_t_cuts : Value) (o_t_letters : Value) (o_t_plain : Value) (o_t_words : Value) (o_t_shorts : Value) (o_t_readRules : Value) (o_t_readTable : Value) (o_t_readWords : Value) (o_t_readShorts : Value) (o_t_readGuards : Value) (o_t_toldOnes : Value) (o_t_state : Value) (o_t_isAwake : Value) (o_t_sums : Value) (o_t_tongue : Value) (o_t_bestTable : Value) (o_t_may : Value) (o_t_mouth : Value) (o_t_mouthThen : Value) (o_t_isKept : Value) (o_t_lanes : Value) (o_t_lengths : Value) (o_t_cells : Value) (o_t_torn : Value) (t_rules : Nat → Int32) (t_guards : Nat → Int32) (x1 : Int32) (post : Int32 → Prop) (h : wp_X12_isStill t_rules t_guards x1 post) : Ci l D g yX12_isStill (.code yX12_isStill cX12_isStill 4 (some .boolean) :: wsL_law) rmX12_isStill [.ref a_t, .int x1] [(a_t, .inr (12, [o_t_tape, o_t_taped, o_t_fault, o_t_broken, o_t_brokenAt, o_t_spot, o_t_here, o_t_token, o_t_value, o_t_cuts, o_t_letters, o_t_plain, .ref a_t_rules, o_t_words, o_t_shorts, .ref a_t_guards, o_t_readRules, o_t_readTable, o_t_readWords, o_t_readShorts, o_t_readGuards, o_t_toldOnes, o_t_state, o_t_isAwake, o_t_sums, o_t_tongue, o_t_bestTable, o_t_may, o_t_mouth, o_t_mouthThen, o_t_isKept, o_t_lanes, o_t_lengths, o_t_cells, o_t_torn])), (a_t_rules, .inl (g.1 1, 8, .inl t_rules)), (a_t_guards, .inl (g.1 1, 12, .inl t_guards))] (fun r W' => W' = [(a_t, .inr (12, [o_t_tape, o_t_taped, o_t_fault, o_t_broken, o_t_brokenAt, o_t_spot, o_t_here, o_t_token, o_t_value, o_t_cuts, o_t_letters, o_t_plain, .ref a_t_rules, o_t_words, o_t_shorts, .ref a_t_guards, o_t_readRules, o_t_readTable, o_t_readWords, o_t_readShorts, o_t_readGuards, o_t_toldOnes, o_t_state, o_t_isAwake, o_t_sums, o_t_tongue, o_t_bestTable, o_t_may, o_t_mouth, o_t_mouthThen, o_t_isKept, o_t_lanes, o_t_lengths, o_t_cells, o_t_torn])), (a_t_rules, .inl (g.1 1, 8, .inl t_rules)), (a_t_guards, .inl (g.1 1, 12, .inl t_guards))] ∧ post r) := by
  refine Cz.of (cc := cX12_isStill) (maxL := 4) (by decide) rfl (Nat.le_of_ble_eq_true rfl) ?_
  intro p e s m args below meth c A Q hx hb hml hts hown hA H locs hP hD hS hG ls hl hret
  have hown : s.vm.findClass RX12 = some m.cls := hown
  have hl : lv_has ls 4 [(0, .ref a_t), (1, .int x1)] := hl
  have lk0 := hts (.fieldLink RX12 22 "KnockWallModel" "rules" "[I") (List.mem_cons_of_mem _ (inR_8 (List.mem_of_getElem? (i := 5) rfl)))
  have lk1 := hts (.fieldLink RX12 31 "KnockWallModel" "guards" "[I") (List.mem_cons_of_mem _ (inR_8 (List.mem_of_getElem? (i := 8) rfl)))
  have L4 : ∀ (x1 : Int32), ∀ (n : Nat) (x2 : Int32) (x3 : Int32), fixN (F_X12_isStill_4 t_rules t_guards x1 post) n (x2, x3) → ∀ (H : Heap) (locs : List Loc), va_P D vwCl [(a_t, .inr (12, [o_t_tape, o_t_taped, o_t_fault, o_t_broken, o_t_brokenAt, o_t_spot, o_t_here, o_t_token, o_t_value, o_t_cuts, o_t_letters, o_t_plain, .ref a_t_rules, o_t_words, o_t_shorts, .ref a_t_guards, o_t_readRules, o_t_readTable, o_t_readWords, o_t_readShorts, o_t_readGuards, o_t_toldOnes, o_t_state, o_t_isAwake, o_t_sums, o_t_tongue, o_t_bestTable, o_t_may, o_t_mouth, o_t_mouthThen, o_t_isKept, o_t_lanes, o_t_lengths, o_t_cells, o_t_torn])), (a_t_rules, .inl (g.1 1, 8, .inl t_rules)), (a_t_guards, .inl (g.1 1, 12, .inl t_guards))] H → va_D A [(a_t, .inr (12, [o_t_tape, o_t_taped, o_t_fault, o_t_broken, o_t_brokenAt, o_t_spot, o_t_here, o_t_token, o_t_value, o_t_cuts, o_t_letters, o_t_plain, .ref a_t_rules, o_t_words, o_t_shorts, .ref a_t_guards, o_t_readRules, o_t_readTable, o_t_readWords, o_t_readShorts, o_t_readGuards, o_t_toldOnes, o_t_state, o_t_isAwake, o_t_sums, o_t_tongue, o_t_bestTable, o_t_may, o_t_mouth, o_t_mouthThen, o_t_isKept, o_t_lanes, o_t_lengths, o_t_cells, o_t_torn])), (a_t_rules, .inl (g.1 1, 8, .inl t_rules)), (a_t_guards, .inl (g.1 1, 12, .inl t_guards))] → va_S A s.heap H locs → ∀ (ls : Array Slot), lv_has ls 4 [(0, .ref a_t), (1, .int x1), (2, .int x2), (3, .int x3)] → W p l e rmX12_isStill s m args below meth c H locs 0 0 Q (F0 m 4 ls []) := by
    intro x1
    intro n
    induction n with
    | zero => intro x2 x3 h; exact h.elim
    | succ n ih =>
      intro x2 x3 h H locs hP hD hS ls hl
      have h : F_X12_isStill_4 t_rules t_guards x1 post (fixN (F_X12_isStill_4 t_rules t_guards x1 post) n) (x2, x3) := h
      unfold F_X12_isStill_4 at h
      try dsimp only at h
      refine lv_iload_n hx hb dX12_isStill_4 rfl (lv_at hl 3 rfl) ?_
      refine lv_aload_n hx hb dX12_isStill_5 rfl (lv_at hl 0 rfl) ?_
      refine va_get (ci := 12) (v := .ref a_t_rules) (C := RX12) (T := TX12) (N := 35) hx hb hts icX12 hown hG.k hP 0 rfl rfl 12 (by decide) lk0 (fun _ h9 => h9) rfl dX12_isStill_6 ?_
      refine lv_bipush (v := 7) hx hb dX12_isStill_9 (by decide) ?_
      obtain ⟨hv1, h⟩ := h
      refine va_iald hx hb hG.k hP 1 1 rfl rfl hv1 dX12_isStill_11 ?_
      refine lv_icmp_ge (tgt := 70) hx hb dX12_isStill_12 (by decide) (fun c2 => ?_) (fun c2 => ?_)
      · have h := h.1 c2
        refine lv_iload_n hx hb dX12_isStill_70 rfl (lv_at hl 2 rfl) ?_
        obtain ⟨hzb, h⟩ := h
        exact hret x2 _ _ _ _ _ hzb ⟨rfl, h⟩ hP hD hS dX12_isStill_71
      · have h := h.2 c2
        refine lv_iload_n hx hb dX12_isStill_15 rfl (lv_at hl 2 rfl) ?_
        refine lv_if_ne (tgt := 58) hx hb dX12_isStill_16 (by decide) (fun c3 => ?_) (fun c3 => ?_)
        · have h := h.1 c3
          refine lv_iconst (v := 1) hx hb dX12_isStill_58 (by decide) ?_
          refine lv_goto (tgt := 63) hx hb dX12_isStill_59 (by decide) ?_
          refine lv_istore_n (lv' := [(2, .int 1), (0, .ref a_t), (1, .int x1), (3, .int x3)]) hx hb dX12_isStill_63 rfl hl (by decide) rfl (fun ls hl => ?_)
          refine lv_iinc (v := x3 + 1) (lv' := [(3, .int (x3 + 1)), (2, .int 1), (0, .ref a_t), (1, .int x1)]) hx hb dX12_isStill_64 hl (k := 3) rfl rfl (by decide) rfl (fun ls hl => ?_)
          refine lv_goto (tgt := 4) hx hb dX12_isStill_67 (by decide) ?_
          exact ih 1 (x3 + 1) h _ _ hP hD hS _ (lv_sub hl [2, 3, 1, 0] rfl)
        · have h := h.2 c3
          refine lv_iload_n hx hb dX12_isStill_19 rfl (lv_at hl 1 rfl) ?_
          refine lv_i2l hx hb dX12_isStill_20 rfl ?_
          refine lv_aload_n hx hb dX12_isStill_21 rfl (lv_at hl 0 rfl) ?_
          refine va_get (ci := 12) (v := .ref a_t_guards) (C := RX12) (T := TX12) (N := 35) hx hb hts icX12 hown hG.k hP 0 rfl rfl 15 (by decide) lk1 (fun _ h9 => h9) rfl dX12_isStill_22 ?_
          refine lv_iconst (v := 2) hx hb dX12_isStill_25 (by decide) ?_
          refine lv_iload_n hx hb dX12_isStill_26 rfl (lv_at hl 3 rfl) ?_
          refine lv_imul hx hb dX12_isStill_27 ?_
          obtain ⟨hv4, h⟩ := h
          refine va_iald hx hb hG.k hP 2 1 rfl rfl hv4 dX12_isStill_28 ?_
          refine lv_i2l hx hb dX12_isStill_29 rfl ?_
          refine lv_aload_n hx hb dX12_isStill_30 rfl (lv_at hl 0 rfl) ?_
          refine va_get (ci := 12) (v := .ref a_t_guards) (C := RX12) (T := TX12) (N := 35) hx hb hts icX12 hown hG.k hP 0 rfl rfl 15 (by decide) lk1 (fun _ h9 => h9) rfl dX12_isStill_31 ?_
          refine lv_iconst (v := 2) hx hb dX12_isStill_34 (by decide) ?_
          refine lv_iload_n hx hb dX12_isStill_35 rfl (lv_at hl 3 rfl) ?_
          refine lv_imul hx hb dX12_isStill_36 ?_
          obtain ⟨hv5, h⟩ := h
          refine va_iald hx hb hG.k hP 2 1 rfl rfl hv5 dX12_isStill_37 ?_
          refine lv_aload_n hx hb dX12_isStill_38 rfl (lv_at hl 0 rfl) ?_
          refine va_get (ci := 12) (v := .ref a_t_guards) (C := RX12) (T := TX12) (N := 35) hx hb hts icX12 hown hG.k hP 0 rfl rfl 15 (by decide) lk1 (fun _ h9 => h9) rfl dX12_isStill_39 ?_
          refine lv_iconst (v := 2) hx hb dX12_isStill_42 (by decide) ?_
          refine lv_iload_n hx hb dX12_isStill_43 rfl (lv_at hl 3 rfl) ?_
          refine lv_imul hx hb dX12_isStill_44 ?_
          refine lv_iconst (v := 1) hx hb dX12_isStill_45 (by decide) ?_
          refine lv_iadd hx hb dX12_isStill_46 ?_
          obtain ⟨hv6, h⟩ := h
          refine va_iald hx hb hG.k hP 2 1 rfl rfl hv6 dX12_isStill_47 ?_
          refine lv_iadd hx hb dX12_isStill_48 ?_
          refine lv_iconst (v := 1) hx hb dX12_isStill_49 (by decide) ?_
          refine lv_isub hx hb dX12_isStill_50 ?_
          refine lv_i2l hx hb dX12_isStill_51 rfl ?_
          refine k_i (wr := [(a_t, .inr (12, [o_t_tape, o_t_taped, o_t_fault, o_t_broken, o_t_brokenAt, o_t_spot, o_t_here, o_t_token, o_t_value, o_t_cuts, o_t_letters, o_t_plain, .ref a_t_rules, o_t_words, o_t_shorts, .ref a_t_guards, o_t_readRules, o_t_readTable, o_t_readWords, o_t_readShorts, o_t_readGuards, o_t_toldOnes, o_t_state, o_t_isAwake, o_t_sums, o_t_tongue, o_t_bestTable, o_t_may, o_t_mouth, o_t_mouthThen, o_t_isKept, o_t_lanes, o_t_lengths, o_t_cells, o_t_torn])), (a_t_rules, .inl (g.1 1, 8, .inl t_rules)), (a_t_guards, .inl (g.1 1, 12, .inl t_guards))]) hA hP hD hS [] [0, 1, 2] rfl rfl (by decide) (by decide) (va_runS (As := [.long x1.toInt64, .long ((t_guards (2 * x3).toNatClampNeg).toInt64), .long ((((t_guards (2 * x3).toNatClampNeg) + (t_guards ((2 * x3) + 1).toNatClampNeg)) - 1).toInt64)]) (rest := []) ⟨hx, hb, hml, hown, hts⟩ (c_X12_in l D g x1.toInt64 ((t_guards (2 * x3).toNatClampNeg).toInt64) ((((t_guards (2 * x3).toNatClampNeg) + (t_guards ((2 * x3) + 1).toNatClampNeg)) - 1).toInt64) _ h H.size) (va_cwS 3 hts (gdS (inR_10 (List.mem_of_getElem? (i := 1) rfl)) (inR_10 (List.mem_of_getElem? (i := 2) rfl)) (inR_1 (List.mem_of_getElem? (i := 5) rfl)) (inR_10 (List.mem_of_getElem? (i := 3) rfl))) rfl rfl rfl hdX12_in.2 ⟨Nat.le_of_ble_eq_true rfl, Nat.le_of_ble_eq_true rfl⟩) (k_preS hG hA hP hD hS [] rfl (by decide)) rfl rfl hl.1 rfl (lv_room (Nat.le_of_ble_eq_true rfl)) dX12_isStill_52 ⟨Nat.zero_le _, Nat.zero_le _⟩) (fun r7 W' H locs h hP hD hS => ?_)
          obtain ⟨rfl, h⟩ := h
          have hP : va_P D vwCl [(a_t, .inr (12, [o_t_tape, o_t_taped, o_t_fault, o_t_broken, o_t_brokenAt, o_t_spot, o_t_here, o_t_token, o_t_value, o_t_cuts, o_t_letters, o_t_plain, .ref a_t_rules, o_t_words, o_t_shorts, .ref a_t_guards, o_t_readRules, o_t_readTable, o_t_readWords, o_t_readShorts, o_t_readGuards, o_t_toldOnes, o_t_state, o_t_isAwake, o_t_sums, o_t_tongue, o_t_bestTable, o_t_may, o_t_mouth, o_t_mouthThen, o_t_isKept, o_t_lanes, o_t_lengths, o_t_cells, o_t_torn])), (a_t_rules, .inl (g.1 1, 8, .inl t_rules)), (a_t_guards, .inl (g.1 1, 12, .inl t_guards))] H := hP.sub [0, 1, 2] rfl
          have hD : va_D A [(a_t, .inr (12, [o_t_tape, o_t_taped, o_t_fault, o_t_broken, o_t_brokenAt, o_t_spot, o_t_here, o_t_token, o_t_value, o_t_cuts, o_t_letters, o_t_plain, .ref a_t_rules, o_t_words, o_t_shorts, .ref a_t_guards, o_t_readRules, o_t_readTable, o_t_readWords, o_t_readShorts, o_t_readGuards, o_t_toldOnes, o_t_state, o_t_isAwake, o_t_sums, o_t_tongue, o_t_bestTable, o_t_may, o_t_mouth, o_t_mouthThen, o_t_isKept, o_t_lanes, o_t_lengths, o_t_cells, o_t_torn])), (a_t_rules, .inl (g.1 1, 8, .inl t_rules)), (a_t_guards, .inl (g.1 1, 12, .inl t_guards))] := hD.sub [0, 1, 2] (by decide) rfl
          refine lv_if_eq (tgt := 62) hx hb dX12_isStill_55 (by decide) (fun c8 => ?_) (fun c8 => ?_)
          · have h := h.1 c8
            refine lv_iconst (v := 0) hx hb dX12_isStill_62 (by decide) ?_
            refine lv_istore_n (lv' := [(2, .int 0), (0, .ref a_t), (1, .int x1), (3, .int x3)]) hx hb dX12_isStill_63 rfl hl (by decide) rfl (fun ls hl => ?_)
            refine lv_iinc (v := x3 + 1) (lv' := [(3, .int (x3 + 1)), (2, .int 0), (0, .ref a_t), (1, .int x1)]) hx hb dX12_isStill_64 hl (k := 3) rfl rfl (by decide) rfl (fun ls hl => ?_)
            refine lv_goto (tgt := 4) hx hb dX12_isStill_67 (by decide) ?_
            exact ih 0 (x3 + 1) h _ _ hP hD hS _ (lv_sub hl [2, 3, 1, 0] rfl)
          · have h := h.2 c8
            refine lv_iconst (v := 1) hx hb dX12_isStill_58 (by decide) ?_
            refine lv_goto (tgt := 63) hx hb dX12_isStill_59 (by decide) ?_
            refine lv_istore_n (lv' := [(2, .int 1), (0, .ref a_t), (1, .int x1), (3, .int x3)]) hx hb dX12_isStill_63 rfl hl (by decide) rfl (fun ls hl => ?_)
            refine lv_iinc (v := x3 + 1) (lv' := [(3, .int (x3 + 1)), (2, .int 1), (0, .ref a_t), (1, .int x1)]) hx hb dX12_isStill_64 hl (k := 3) rfl rfl (by decide) rfl (fun ls hl => ?_)
            refine lv_goto (tgt := 4) hx hb dX12_isStill_67 (by decide) ?_
            exact ih 1 (x3 + 1) h _ _ hP hD hS _ (lv_sub hl [2, 3, 1, 0] rfl)
  unfold wp_X12_isStill at h
  try dsimp only at h
  refine lv_iconst (v := 0) hx hb dX12_isStill_0 (by decide) ?_
  refine lv_istore_n (lv' := [(2, .int 0), (0, .ref a_t), (1, .int x1)]) hx hb dX12_isStill_1 rfl hl (by decide) rfl (fun ls hl => ?_)
  refine lv_iconst (v := 0) hx hb dX12_isStill_2 (by decide) ?_
  refine lv_istore_n (lv' := [(3, .int 0), (2, .int 0), (0, .ref a_t), (1, .int x1)]) hx hb dX12_isStill_3 rfl hl (by decide) rfl (fun ls hl => ?_)
  obtain ⟨n9, h⟩ := h
  exact L4 x1 n9 0 0 h _ _ hP hD hS _ (lv_sub hl [2, 3, 1, 0] rfl)
theorem hdX12_still : yX12_still.cls = RX12 ∧ yX12_still.cls ≠ "java/lang/invoke/MethodHandle" ∧ yX12_still.cls ≠ "java/lang/invoke/VarHandle" ∧ (parseMethodDescriptor yX12_still.desc).map (fun d => d.parameters.length) = some 2 := by decide +kernel
abbrev rmX12_still : Room := { frames := 3, cells := 0, slots := 0, locals := 300 }
set_option maxHeartbeats 4000000 in
set_option maxRecDepth 100000 in
theorem c_X12_still (l : Launch) (D : va_G) (g : gE) (a_t : Nat) (a_t_rules : Nat) (a_t_guards : Nat) (o_t_tape : Value) (o_t_taped : Value) (o_t_fault : Value) (o_t_broken : Value) (o_t_brokenAt : Value) (o_t_spot : Value) (o_t_here : Value) (o_t_token : Value) (o_t_value : Value) (o_t_cuts : Value) (o_t_letters : Value) (o_t_plain : Value) (o_t_words : Value) (o_t_shorts : Value) (o_t_readRules : Value) (o_t_readTable : Value) (o_t_readWords : Value) (o_t_readShorts : Value) (o_t_readGuards : Value) (o_t_toldOnes : Value) (o_t_state : Value) (o_t_isAwake : Value) (o_t_sums : Value) (o_t_tongue : Value) (o_t_bestTable : Value) (o_t_may : Value) (o_t_mouth : Value) (o_t_mouthThen : Value) (o_t_isKept : Value) (o_t_lanes : Value) (o_t_lengths : Value) (o_t_cells : Value) (o_t_torn : Value) (t_rules : Nat → Int32) (t_guards : Nat → Int32) (x1 : Int32) (x2 : Int32) (post : Int32 → Prop) (h : wp_X12_still t_rules t_guards x1 x2 post) : Ci l D g yX12_still (.code yX12_still cX12_still 4 (some .int) :: wsL_law) rmX12_still [.ref a_t, .int x1, .int x2] [(a_t, .inr (12, [o_t_tape, o_t_taped, o_t_fault, o_t_broken, o_t_brokenAt, o_t_spot, o_t_here, o_t_token, o_t_value, o_t_cuts, o_t_letters, o_t_plain, .ref a_t_rules, o_t_words, o_t_shorts, .ref a_t_guards, o_t_readRules, o_t_readTable, o_t_readWords, o_t_readShorts, o_t_readGuards, o_t_toldOnes, o_t_state, o_t_isAwake, o_t_sums, o_t_tongue, o_t_bestTable, o_t_may, o_t_mouth, o_t_mouthThen, o_t_isKept, o_t_lanes, o_t_lengths, o_t_cells, o_t_torn])), (a_t_rules, .inl (g.1 1, 8, .inl t_rules)), (a_t_guards, .inl (g.1 1, 12, .inl t_guards))] (fun r W' => W' = [(a_t, .inr (12, [o_t_tape, o_t_taped, o_t_fault, o_t_broken, o_t_brokenAt, o_t_spot, o_t_here, o_t_token, o_t_value, o_t_cuts, o_t_letters, o_t_plain, .ref a_t_rules, o_t_words, o_t_shorts, .ref a_t_guards, o_t_readRules, o_t_readTable, o_t_readWords, o_t_readShorts, o_t_readGuards, o_t_toldOnes, o_t_state, o_t_isAwake, o_t_sums, o_t_tongue, o_t_bestTable, o_t_may, o_t_mouth, o_t_mouthThen, o_t_isKept, o_t_lanes, o_t_lengths, o_t_cells, o_t_torn])), (a_t_rules, .inl (g.1 1, 8, .inl t_rules)), (a_t_guards, .inl (g.1 1, 12, .inl t_guards))] ∧ post r) := by
  refine Ci.of (cc := cX12_still) (maxL := 4) (by decide) rfl (Nat.le_of_ble_eq_true rfl) ?_
  intro p e s m args below meth c A Q hx hb hml hts hown hA H locs hP hD hS hG ls hl hret
  have hown : s.vm.findClass RX12 = some m.cls := hown
  have hl : lv_has ls 4 [(0, .ref a_t), (1, .int x1), (2, .int x2)] := hl
  have lk0 := hts (.constantLong RX12 288 (599)) (List.mem_cons_of_mem _ (inR_43 (List.mem_of_getElem? (i := 7) rfl)))
  have lk1 := hts (.constantLong RX12 290 (2)) (List.mem_cons_of_mem _ (inR_43 (List.mem_of_getElem? (i := 8) rfl)))
  have L46 : ∀ (x2 : Int32), ∀ (n : Nat) (x3 : Int32), fixN (F_X12_still_46 t_rules t_guards x2 post) n x3 → ∀ (H : Heap) (locs : List Loc), va_P D vwCl [(a_t, .inr (12, [o_t_tape, o_t_taped, o_t_fault, o_t_broken, o_t_brokenAt, o_t_spot, o_t_here, o_t_token, o_t_value, o_t_cuts, o_t_letters, o_t_plain, .ref a_t_rules, o_t_words, o_t_shorts, .ref a_t_guards, o_t_readRules, o_t_readTable, o_t_readWords, o_t_readShorts, o_t_readGuards, o_t_toldOnes, o_t_state, o_t_isAwake, o_t_sums, o_t_tongue, o_t_bestTable, o_t_may, o_t_mouth, o_t_mouthThen, o_t_isKept, o_t_lanes, o_t_lengths, o_t_cells, o_t_torn])), (a_t_rules, .inl (g.1 1, 8, .inl t_rules)), (a_t_guards, .inl (g.1 1, 12, .inl t_guards))] H → va_D A [(a_t, .inr (12, [o_t_tape, o_t_taped, o_t_fault, o_t_broken, o_t_brokenAt, o_t_spot, o_t_here, o_t_token, o_t_value, o_t_cuts, o_t_letters, o_t_plain, .ref a_t_rules, o_t_words, o_t_shorts, .ref a_t_guards, o_t_readRules, o_t_readTable, o_t_readWords, o_t_readShorts, o_t_readGuards, o_t_toldOnes, o_t_state, o_t_isAwake, o_t_sums, o_t_tongue, o_t_bestTable, o_t_may, o_t_mouth, o_t_mouthThen, o_t_isKept, o_t_lanes, o_t_lengths, o_t_cells, o_t_torn])), (a_t_rules, .inl (g.1 1, 8, .inl t_rules)), (a_t_guards, .inl (g.1 1, 12, .inl t_guards))] → va_S A s.heap H locs → ∀ (ls : Array Slot), lv_has ls 4 [(0, .ref a_t), (2, .int x2), (3, .int x3)] → W p l e rmX12_still s m args below meth c H locs 0 0 Q (F0 m 46 ls []) := by
    intro x2
    intro n
    induction n with
    | zero => intro x3 h; exact h.elim
    | succ n ih =>
      intro x3 h H locs hP hD hS ls hl
      have h : F_X12_still_46 t_rules t_guards x2 post (fixN (F_X12_still_46 t_rules t_guards x2 post) n) x3 := h
      unfold F_X12_still_46 at h
      try dsimp only at h
      refine lv_iload_n hx hb dX12_still_46 rfl (lv_at hl 2 rfl) ?_
      refine lv_sipush (v := 600) hx hb dX12_still_47 (by decide) ?_
      refine lv_icmp_ge (tgt := 79) hx hb dX12_still_50 (by decide) (fun c6 => ?_) (fun c6 => ?_)
      · have h := h.1 c6
        refine lv_bipush (v := (-4)) hx hb dX12_still_79 (by decide) ?_
        exact hret ((-4)) _ _ _ _ _ ⟨rfl, h⟩ hP hD hS dX12_still_81
      · have h := h.2 c6
        refine lv_aload_n hx hb dX12_still_53 rfl (lv_at hl 0 rfl) ?_
        refine lv_iload_n hx hb dX12_still_54 rfl (lv_at hl 2 rfl) ?_
        refine k_i (wr := []) hA hP hD hS [0, 1, 2] [] rfl rfl (by decide) (by decide) (va_runV (As := [.int x3]) (rest := []) ⟨hx, hb, hml, hown, hts⟩ (c_X12_isStill l D g a_t a_t_rules a_t_guards (o_t_tape) (o_t_taped) (o_t_fault) (o_t_broken) (o_t_brokenAt) (o_t_spot) (o_t_here) (o_t_token) (o_t_value) (o_t_cuts) (o_t_letters) (o_t_plain) (o_t_words) (o_t_shorts) (o_t_readRules) (o_t_readTable) (o_t_readWords) (o_t_readShorts) (o_t_readGuards) (o_t_toldOnes) (o_t_state) (o_t_isAwake) (o_t_sums) (o_t_tongue) (o_t_bestTable) (o_t_may) (o_t_mouth) (o_t_mouthThen) (o_t_isKept) (o_t_lanes) (o_t_lengths) (o_t_cells) (o_t_torn) t_rules t_guards x3 _ h H.size) (cwV 1 hts (gdV (inR_43 (List.mem_of_getElem? (i := 9) rfl)) (inR_43 (List.mem_of_getElem? (i := 10) rfl)) (inR_43 (List.mem_of_getElem? (i := 11) rfl)) (inR_1 (List.mem_of_getElem? (i := 5) rfl)) (inR_43 (List.mem_of_getElem? (i := 12) rfl))) rfl rfl rfl hdX12_isStill ⟨Nat.le_of_ble_eq_true rfl, Nat.le_of_ble_eq_true rfl⟩) (k_preV (q0 := 0) hG hA hP hD hS [0, 1, 2] rfl (by decide) rfl rfl) rfl rfl hl.1 rfl (lv_room (Nat.le_of_ble_eq_true rfl)) dX12_still_55 ⟨Nat.zero_le _, Nat.zero_le _⟩) (fun r7 W' H locs h hP hD hS => ?_)
        obtain ⟨rfl, h⟩ := h
        have hP : va_P D vwCl [(a_t, .inr (12, [o_t_tape, o_t_taped, o_t_fault, o_t_broken, o_t_brokenAt, o_t_spot, o_t_here, o_t_token, o_t_value, o_t_cuts, o_t_letters, o_t_plain, .ref a_t_rules, o_t_words, o_t_shorts, .ref a_t_guards, o_t_readRules, o_t_readTable, o_t_readWords, o_t_readShorts, o_t_readGuards, o_t_toldOnes, o_t_state, o_t_isAwake, o_t_sums, o_t_tongue, o_t_bestTable, o_t_may, o_t_mouth, o_t_mouthThen, o_t_isKept, o_t_lanes, o_t_lengths, o_t_cells, o_t_torn])), (a_t_rules, .inl (g.1 1, 8, .inl t_rules)), (a_t_guards, .inl (g.1 1, 12, .inl t_guards))] H := hP.sub [0, 1, 2] rfl
        have hD : va_D A [(a_t, .inr (12, [o_t_tape, o_t_taped, o_t_fault, o_t_broken, o_t_brokenAt, o_t_spot, o_t_here, o_t_token, o_t_value, o_t_cuts, o_t_letters, o_t_plain, .ref a_t_rules, o_t_words, o_t_shorts, .ref a_t_guards, o_t_readRules, o_t_readTable, o_t_readWords, o_t_readShorts, o_t_readGuards, o_t_toldOnes, o_t_state, o_t_isAwake, o_t_sums, o_t_tongue, o_t_bestTable, o_t_may, o_t_mouth, o_t_mouthThen, o_t_isKept, o_t_lanes, o_t_lengths, o_t_cells, o_t_torn])), (a_t_rules, .inl (g.1 1, 8, .inl t_rules)), (a_t_guards, .inl (g.1 1, 12, .inl t_guards))] := hD.sub [0, 1, 2] (by decide) rfl
        refine lv_iload_n hx hb dX12_still_58 rfl (lv_at hl 1 rfl) ?_
        refine lv_iconst (v := 2) hx hb dX12_still_59 (by decide) ?_
        refine lv_icmp_ne (tgt := 67) hx hb dX12_still_60 (by decide) (fun c8 => ?_) (fun c8 => ?_)
        · have h := h.1 c8
          refine lv_iconst (v := 0) hx hb dX12_still_67 (by decide) ?_
          refine lv_icmp_ne (tgt := 73) hx hb dX12_still_68 (by decide) (fun c9 => ?_) (fun c9 => ?_)
          · have h := h.1 c9
            refine lv_iinc (v := x3 + 1) (lv' := [(3, .int (x3 + 1)), (0, .ref a_t), (2, .int x2)]) hx hb dX12_still_73 hl (k := 2) rfl rfl (by decide) rfl (fun ls hl => ?_)
            refine lv_goto (tgt := 46) hx hb dX12_still_76 (by decide) ?_
            exact ih (x3 + 1) h _ _ hP hD hS _ (lv_sub hl [1, 2, 0] rfl)
          · have h := h.2 c9
            refine lv_iload_n hx hb dX12_still_71 rfl (lv_at hl 2 rfl) ?_
            exact hret x3 _ _ _ _ _ ⟨rfl, h⟩ hP hD hS dX12_still_72
        · have h := h.2 c8
          refine lv_iconst (v := 1) hx hb dX12_still_63 (by decide) ?_
          refine lv_goto (tgt := 68) hx hb dX12_still_64 (by decide) ?_
          refine lv_icmp_ne (tgt := 73) hx hb dX12_still_68 (by decide) (fun c10 => ?_) (fun c10 => ?_)
          · have h := h.1 c10
            refine lv_iinc (v := x3 + 1) (lv' := [(3, .int (x3 + 1)), (0, .ref a_t), (2, .int x2)]) hx hb dX12_still_73 hl (k := 2) rfl rfl (by decide) rfl (fun ls hl => ?_)
            refine lv_goto (tgt := 46) hx hb dX12_still_76 (by decide) ?_
            exact ih (x3 + 1) h _ _ hP hD hS _ (lv_sub hl [1, 2, 0] rfl)
          · have h := h.2 c10
            refine lv_iload_n hx hb dX12_still_71 rfl (lv_at hl 2 rfl) ?_
            exact hret x3 _ _ _ _ _ ⟨rfl, h⟩ hP hD hS dX12_still_72
  unfold wp_X12_still at h
  try dsimp only at h
  refine lv_iload_n hx hb dX12_still_0 rfl (lv_at hl 1 rfl) ?_
  refine lv_i2l hx hb dX12_still_1 rfl ?_
  refine lv_lconst (v := 0) hx hb dX12_still_2 (by decide) ?_
  refine lv_ldc2 hx hb hown lk0 dX12_still_3 ?_
  refine k_i (wr := [(a_t, .inr (12, [o_t_tape, o_t_taped, o_t_fault, o_t_broken, o_t_brokenAt, o_t_spot, o_t_here, o_t_token, o_t_value, o_t_cuts, o_t_letters, o_t_plain, .ref a_t_rules, o_t_words, o_t_shorts, .ref a_t_guards, o_t_readRules, o_t_readTable, o_t_readWords, o_t_readShorts, o_t_readGuards, o_t_toldOnes, o_t_state, o_t_isAwake, o_t_sums, o_t_tongue, o_t_bestTable, o_t_may, o_t_mouth, o_t_mouthThen, o_t_isKept, o_t_lanes, o_t_lengths, o_t_cells, o_t_torn])), (a_t_rules, .inl (g.1 1, 8, .inl t_rules)), (a_t_guards, .inl (g.1 1, 12, .inl t_guards))]) hA hP hD hS [] [0, 1, 2] rfl rfl (by decide) (by decide) (va_runS (As := [.long x1.toInt64, .long 0, .long ((599))]) (rest := []) ⟨hx, hb, hml, hown, hts⟩ (c_X12_in l D g x1.toInt64 0 ((599)) _ h H.size) (va_cwS 3 hts (gdS (inR_10 (List.mem_of_getElem? (i := 1) rfl)) (inR_10 (List.mem_of_getElem? (i := 2) rfl)) (inR_1 (List.mem_of_getElem? (i := 5) rfl)) (inR_10 (List.mem_of_getElem? (i := 3) rfl))) rfl rfl rfl hdX12_in.2 ⟨Nat.le_of_ble_eq_true rfl, Nat.le_of_ble_eq_true rfl⟩) (k_preS hG hA hP hD hS [] rfl (by decide)) rfl rfl hl.1 rfl (lv_room (Nat.le_of_ble_eq_true rfl)) dX12_still_6 ⟨Nat.zero_le _, Nat.zero_le _⟩) (fun r1 W' H locs h hP hD hS => ?_)
  obtain ⟨rfl, h⟩ := h
  have hP : va_P D vwCl [(a_t, .inr (12, [o_t_tape, o_t_taped, o_t_fault, o_t_broken, o_t_brokenAt, o_t_spot, o_t_here, o_t_token, o_t_value, o_t_cuts, o_t_letters, o_t_plain, .ref a_t_rules, o_t_words, o_t_shorts, .ref a_t_guards, o_t_readRules, o_t_readTable, o_t_readWords, o_t_readShorts, o_t_readGuards, o_t_toldOnes, o_t_state, o_t_isAwake, o_t_sums, o_t_tongue, o_t_bestTable, o_t_may, o_t_mouth, o_t_mouthThen, o_t_isKept, o_t_lanes, o_t_lengths, o_t_cells, o_t_torn])), (a_t_rules, .inl (g.1 1, 8, .inl t_rules)), (a_t_guards, .inl (g.1 1, 12, .inl t_guards))] H := hP.sub [0, 1, 2] rfl
  have hD : va_D A [(a_t, .inr (12, [o_t_tape, o_t_taped, o_t_fault, o_t_broken, o_t_brokenAt, o_t_spot, o_t_here, o_t_token, o_t_value, o_t_cuts, o_t_letters, o_t_plain, .ref a_t_rules, o_t_words, o_t_shorts, .ref a_t_guards, o_t_readRules, o_t_readTable, o_t_readWords, o_t_readShorts, o_t_readGuards, o_t_toldOnes, o_t_state, o_t_isAwake, o_t_sums, o_t_tongue, o_t_bestTable, o_t_may, o_t_mouth, o_t_mouthThen, o_t_isKept, o_t_lanes, o_t_lengths, o_t_cells, o_t_torn])), (a_t_rules, .inl (g.1 1, 8, .inl t_rules)), (a_t_guards, .inl (g.1 1, 12, .inl t_guards))] := hD.sub [0, 1, 2] (by decide) rfl
  refine lv_if_eq (tgt := 24) hx hb dX12_still_9 (by decide) (fun c2 => ?_) (fun c2 => ?_)
  · have h := h.1 c2
    refine lv_iconst (v := (-1)) hx hb dX12_still_24 (by decide) ?_
    exact hret ((-1)) _ _ _ _ _ ⟨rfl, h⟩ hP hD hS dX12_still_25
  · have h := h.2 c2
    refine lv_iload_n hx hb dX12_still_12 rfl (lv_at hl 2 rfl) ?_
    refine lv_i2l hx hb dX12_still_13 rfl ?_
    refine lv_lconst (v := 0) hx hb dX12_still_14 (by decide) ?_
    refine lv_ldc2 hx hb hown lk1 dX12_still_15 ?_
    refine k_i (wr := [(a_t, .inr (12, [o_t_tape, o_t_taped, o_t_fault, o_t_broken, o_t_brokenAt, o_t_spot, o_t_here, o_t_token, o_t_value, o_t_cuts, o_t_letters, o_t_plain, .ref a_t_rules, o_t_words, o_t_shorts, .ref a_t_guards, o_t_readRules, o_t_readTable, o_t_readWords, o_t_readShorts, o_t_readGuards, o_t_toldOnes, o_t_state, o_t_isAwake, o_t_sums, o_t_tongue, o_t_bestTable, o_t_may, o_t_mouth, o_t_mouthThen, o_t_isKept, o_t_lanes, o_t_lengths, o_t_cells, o_t_torn])), (a_t_rules, .inl (g.1 1, 8, .inl t_rules)), (a_t_guards, .inl (g.1 1, 12, .inl t_guards))]) hA hP hD hS [] [0, 1, 2] rfl rfl (by decide) (by decide) (va_runS (As := [.long x2.toInt64, .long 0, .long ((2))]) (rest := []) ⟨hx, hb, hml, hown, hts⟩ (c_X12_in l D g x2.toInt64 0 ((2)) _ h H.size) (va_cwS 3 hts (gdS (inR_10 (List.mem_of_getElem? (i := 1) rfl)) (inR_10 (List.mem_of_getElem? (i := 2) rfl)) (inR_1 (List.mem_of_getElem? (i := 5) rfl)) (inR_10 (List.mem_of_getElem? (i := 3) rfl))) rfl rfl rfl hdX12_in.2 ⟨Nat.le_of_ble_eq_true rfl, Nat.le_of_ble_eq_true rfl⟩) (k_preS hG hA hP hD hS [] rfl (by decide)) rfl rfl hl.1 rfl (lv_room (Nat.le_of_ble_eq_true rfl)) dX12_still_18 ⟨Nat.zero_le _, Nat.zero_le _⟩) (fun r3 W' H locs h hP hD hS => ?_)
    obtain ⟨rfl, h⟩ := h
    have hP : va_P D vwCl [(a_t, .inr (12, [o_t_tape, o_t_taped, o_t_fault, o_t_broken, o_t_brokenAt, o_t_spot, o_t_here, o_t_token, o_t_value, o_t_cuts, o_t_letters, o_t_plain, .ref a_t_rules, o_t_words, o_t_shorts, .ref a_t_guards, o_t_readRules, o_t_readTable, o_t_readWords, o_t_readShorts, o_t_readGuards, o_t_toldOnes, o_t_state, o_t_isAwake, o_t_sums, o_t_tongue, o_t_bestTable, o_t_may, o_t_mouth, o_t_mouthThen, o_t_isKept, o_t_lanes, o_t_lengths, o_t_cells, o_t_torn])), (a_t_rules, .inl (g.1 1, 8, .inl t_rules)), (a_t_guards, .inl (g.1 1, 12, .inl t_guards))] H := hP.sub [0, 1, 2] rfl
    have hD : va_D A [(a_t, .inr (12, [o_t_tape, o_t_taped, o_t_fault, o_t_broken, o_t_brokenAt, o_t_spot, o_t_here, o_t_token, o_t_value, o_t_cuts, o_t_letters, o_t_plain, .ref a_t_rules, o_t_words, o_t_shorts, .ref a_t_guards, o_t_readRules, o_t_readTable, o_t_readWords, o_t_readShorts, o_t_readGuards, o_t_toldOnes, o_t_state, o_t_isAwake, o_t_sums, o_t_tongue, o_t_bestTable, o_t_may, o_t_mouth, o_t_mouthThen, o_t_isKept, o_t_lanes, o_t_lengths, o_t_cells, o_t_torn])), (a_t_rules, .inl (g.1 1, 8, .inl t_rules)), (a_t_guards, .inl (g.1 1, 12, .inl t_guards))] := hD.sub [0, 1, 2] (by decide) rfl
    refine lv_if_ne (tgt := 26) hx hb dX12_still_21 (by decide) (fun c4 => ?_) (fun c4 => ?_)
    · have h := h.1 c4
      refine lv_iload_n hx hb dX12_still_26 rfl (lv_at hl 2 rfl) ?_
      refine lv_if_ne (tgt := 44) hx hb dX12_still_27 (by decide) (fun c5 => ?_) (fun c5 => ?_)
      · have h := h.1 c5
        refine lv_iload_n hx hb dX12_still_44 rfl (lv_at hl 1 rfl) ?_
        refine lv_istore_n (lv' := [(3, .int x1), (0, .ref a_t), (1, .int x1), (2, .int x2)]) hx hb dX12_still_45 rfl hl (by decide) rfl (fun ls hl => ?_)
        obtain ⟨n9, h⟩ := h
        exact L46 x2 n9 x1 h _ _ hP hD hS _ (lv_sub hl [1, 3, 0] rfl)
      · have h := h.2 c5
        refine lv_aload_n hx hb dX12_still_30 rfl (lv_at hl 0 rfl) ?_
        refine lv_iload_n hx hb dX12_still_31 rfl (lv_at hl 1 rfl) ?_
        refine k_i (wr := []) hA hP hD hS [0, 1, 2] [] rfl rfl (by decide) (by decide) (va_runV (As := [.int x1]) (rest := []) ⟨hx, hb, hml, hown, hts⟩ (c_X12_isStill l D g a_t a_t_rules a_t_guards (o_t_tape) (o_t_taped) (o_t_fault) (o_t_broken) (o_t_brokenAt) (o_t_spot) (o_t_here) (o_t_token) (o_t_value) (o_t_cuts) (o_t_letters) (o_t_plain) (o_t_words) (o_t_shorts) (o_t_readRules) (o_t_readTable) (o_t_readWords) (o_t_readShorts) (o_t_readGuards) (o_t_toldOnes) (o_t_state) (o_t_isAwake) (o_t_sums) (o_t_tongue) (o_t_bestTable) (o_t_may) (o_t_mouth) (o_t_mouthThen) (o_t_isKept) (o_t_lanes) (o_t_lengths) (o_t_cells) (o_t_torn) t_rules t_guards x1 _ h H.size) (cwV 1 hts (gdV (inR_43 (List.mem_of_getElem? (i := 9) rfl)) (inR_43 (List.mem_of_getElem? (i := 10) rfl)) (inR_43 (List.mem_of_getElem? (i := 11) rfl)) (inR_1 (List.mem_of_getElem? (i := 5) rfl)) (inR_43 (List.mem_of_getElem? (i := 12) rfl))) rfl rfl rfl hdX12_isStill ⟨Nat.le_of_ble_eq_true rfl, Nat.le_of_ble_eq_true rfl⟩) (k_preV (q0 := 0) hG hA hP hD hS [0, 1, 2] rfl (by decide) rfl rfl) rfl rfl hl.1 rfl (lv_room (Nat.le_of_ble_eq_true rfl)) dX12_still_32 ⟨Nat.zero_le _, Nat.zero_le _⟩) (fun r11 W' H locs h hP hD hS => ?_)
        obtain ⟨rfl, h⟩ := h
        have hP : va_P D vwCl [(a_t, .inr (12, [o_t_tape, o_t_taped, o_t_fault, o_t_broken, o_t_brokenAt, o_t_spot, o_t_here, o_t_token, o_t_value, o_t_cuts, o_t_letters, o_t_plain, .ref a_t_rules, o_t_words, o_t_shorts, .ref a_t_guards, o_t_readRules, o_t_readTable, o_t_readWords, o_t_readShorts, o_t_readGuards, o_t_toldOnes, o_t_state, o_t_isAwake, o_t_sums, o_t_tongue, o_t_bestTable, o_t_may, o_t_mouth, o_t_mouthThen, o_t_isKept, o_t_lanes, o_t_lengths, o_t_cells, o_t_torn])), (a_t_rules, .inl (g.1 1, 8, .inl t_rules)), (a_t_guards, .inl (g.1 1, 12, .inl t_guards))] H := hP.sub [0, 1, 2] rfl
        have hD : va_D A [(a_t, .inr (12, [o_t_tape, o_t_taped, o_t_fault, o_t_broken, o_t_brokenAt, o_t_spot, o_t_here, o_t_token, o_t_value, o_t_cuts, o_t_letters, o_t_plain, .ref a_t_rules, o_t_words, o_t_shorts, .ref a_t_guards, o_t_readRules, o_t_readTable, o_t_readWords, o_t_readShorts, o_t_readGuards, o_t_toldOnes, o_t_state, o_t_isAwake, o_t_sums, o_t_tongue, o_t_bestTable, o_t_may, o_t_mouth, o_t_mouthThen, o_t_isKept, o_t_lanes, o_t_lengths, o_t_cells, o_t_torn])), (a_t_rules, .inl (g.1 1, 8, .inl t_rules)), (a_t_guards, .inl (g.1 1, 12, .inl t_guards))] := hD.sub [0, 1, 2] (by decide) rfl
        refine lv_if_eq (tgt := 42) hx hb dX12_still_35 (by decide) (fun c12 => ?_) (fun c12 => ?_)
        · have h := h.1 c12
          refine lv_iconst (v := 0) hx hb dX12_still_42 (by decide) ?_
          exact hret 0 _ _ _ _ _ ⟨rfl, h⟩ hP hD hS dX12_still_43
        · have h := h.2 c12
          refine lv_iconst (v := 1) hx hb dX12_still_38 (by decide) ?_
          refine lv_goto (tgt := 43) hx hb dX12_still_39 (by decide) ?_
          exact hret 1 _ _ _ _ _ ⟨rfl, h⟩ hP hD hS dX12_still_43
    · have h := h.2 c4
      refine lv_iconst (v := (-1)) hx hb dX12_still_24 (by decide) ?_
      exact hret ((-1)) _ _ _ _ _ ⟨rfl, h⟩ hP hD hS dX12_still_25
theorem hdX12_begin : yX12_begin.cls = RX12 ∧ yX12_begin.cls ≠ "java/lang/invoke/MethodHandle" ∧ yX12_begin.cls ≠ "java/lang/invoke/VarHandle" ∧ (parseMethodDescriptor yX12_begin.desc).map (fun d => d.parameters.length) = some 2 := by decide +kernel
abbrev rmX12_begin : Room := { frames := 3, cells := 0, slots := 0, locals := 300 }
set_option maxHeartbeats 4000000 in
set_option maxRecDepth 100000 in
theorem c_X12_begin (l : Launch) (D : va_G) (g : gE) (a_t : Nat) (a_t_rules : Nat) (a_t_guards : Nat) (o_t_tape : Value) (o_t_taped : Value) (o_t_fault : Value) (o_t_broken : Value) (o_t_brokenAt : Value) (o_t_spot : Value) (o_t_here : Value) (o_t_token : Value) (o_t_value : Value) (o_t_cuts : Value) (o_t_letters : Value) (o_t_plain : Value) (o_t_words : Value) (o_t_shorts : Value) (o_t_readRules : Value) (o_t_readTable : Value) (o_t_readWords : Value) (o_t_readShorts : Value) (o_t_readGuards : Value) (o_t_toldOnes : Value) (o_t_state : Value) (o_t_isAwake : Value) (o_t_sums : Value) (o_t_tongue : Value) (o_t_bestTable : Value) (o_t_may : Value) (o_t_mouth : Value) (o_t_mouthThen : Value) (o_t_isKept : Value) (o_t_lanes : Value) (o_t_lengths : Value) (o_t_cells : Value) (o_t_torn : Value) (t_rules : Nat → Int32) (t_guards : Nat → Int32) (x1 : Int32) (x2 : Int32) (post : Int32 → Prop) (h : wp_X12_begin t_rules t_guards x1 x2 post) : Ci l D g yX12_begin (.code yX12_begin cX12_begin 5 (some .int) :: wsL_law) rmX12_begin [.ref a_t, .int x1, .int x2] [(a_t, .inr (12, [o_t_tape, o_t_taped, o_t_fault, o_t_broken, o_t_brokenAt, o_t_spot, o_t_here, o_t_token, o_t_value, o_t_cuts, o_t_letters, o_t_plain, .ref a_t_rules, o_t_words, o_t_shorts, .ref a_t_guards, o_t_readRules, o_t_readTable, o_t_readWords, o_t_readShorts, o_t_readGuards, o_t_toldOnes, o_t_state, o_t_isAwake, o_t_sums, o_t_tongue, o_t_bestTable, o_t_may, o_t_mouth, o_t_mouthThen, o_t_isKept, o_t_lanes, o_t_lengths, o_t_cells, o_t_torn])), (a_t_rules, .inl (g.1 1, 8, .inl t_rules)), (a_t_guards, .inl (g.1 1, 12, .inl t_guards))] (fun r W' => W' = [(a_t, .inr (12, [o_t_tape, o_t_taped, o_t_fault, o_t_broken, o_t_brokenAt, o_t_spot, o_t_here, o_t_token, o_t_value, o_t_cuts, o_t_letters, o_t_plain, .ref a_t_rules, o_t_words, o_t_shorts, .ref a_t_guards, o_t_readRules, o_t_readTable, o_t_readWords, o_t_readShorts, o_t_readGuards, o_t_toldOnes, o_t_state, o_t_isAwake, o_t_sums, o_t_tongue, o_t_bestTable, o_t_may, o_t_mouth, o_t_mouthThen, o_t_isKept, o_t_lanes, o_t_lengths, o_t_cells, o_t_torn])), (a_t_rules, .inl (g.1 1, 8, .inl t_rules)), (a_t_guards, .inl (g.1 1, 12, .inl t_guards))] ∧ post r) := by
  refine Ci.of (cc := cX12_begin) (maxL := 5) (by decide) rfl (Nat.le_of_ble_eq_true rfl) ?_
  intro p e s m args below meth c A Q hx hb hml hts hown hA H locs hP hD hS hG ls hl hret
  have hown : s.vm.findClass RX12 = some m.cls := hown
  have hl : lv_has ls 5 [(0, .ref a_t), (1, .int x1), (2, .int x2)] := hl
  have lk0 := hts (.constantLong RX12 288 (599)) (List.mem_cons_of_mem _ (inR_43 (List.mem_of_getElem? (i := 7) rfl)))
  have lk1 := hts (.constantLong RX12 295 (600)) (List.mem_cons_of_mem _ (inR_44 (List.mem_of_getElem? (i := 4) rfl)))
  have L55 : ∀ (x2 : Int32) (x4 : Int32) (z0 : Int32) (K_31 : (Int32 × Int32) → Prop) (hK_31 : ∀ (x3 : Int32) (x4 : Int32), K_31 (x3, x4) → ∀ (H : Heap) (locs : List Loc), va_P D vwCl [(a_t, .inr (12, [o_t_tape, o_t_taped, o_t_fault, o_t_broken, o_t_brokenAt, o_t_spot, o_t_here, o_t_token, o_t_value, o_t_cuts, o_t_letters, o_t_plain, .ref a_t_rules, o_t_words, o_t_shorts, .ref a_t_guards, o_t_readRules, o_t_readTable, o_t_readWords, o_t_readShorts, o_t_readGuards, o_t_toldOnes, o_t_state, o_t_isAwake, o_t_sums, o_t_tongue, o_t_bestTable, o_t_may, o_t_mouth, o_t_mouthThen, o_t_isKept, o_t_lanes, o_t_lengths, o_t_cells, o_t_torn])), (a_t_rules, .inl (g.1 1, 8, .inl t_rules)), (a_t_guards, .inl (g.1 1, 12, .inl t_guards))] H → va_D A [(a_t, .inr (12, [o_t_tape, o_t_taped, o_t_fault, o_t_broken, o_t_brokenAt, o_t_spot, o_t_here, o_t_token, o_t_value, o_t_cuts, o_t_letters, o_t_plain, .ref a_t_rules, o_t_words, o_t_shorts, .ref a_t_guards, o_t_readRules, o_t_readTable, o_t_readWords, o_t_readShorts, o_t_readGuards, o_t_toldOnes, o_t_state, o_t_isAwake, o_t_sums, o_t_tongue, o_t_bestTable, o_t_may, o_t_mouth, o_t_mouthThen, o_t_isKept, o_t_lanes, o_t_lengths, o_t_cells, o_t_torn])), (a_t_rules, .inl (g.1 1, 8, .inl t_rules)), (a_t_guards, .inl (g.1 1, 12, .inl t_guards))] → va_S A s.heap H locs → ∀ (ls : Array Slot), lv_has ls 5 [(0, .ref a_t), (2, .int x2), (3, .int x3), (4, .int x4)] → W p l e rmX12_begin s m args below meth c H locs 0 0 Q (F0 m 31 ls [])), B_X12_begin_55 x2 x4 z0 post K_31 → ∀ (H : Heap) (locs : List Loc), va_P D vwCl [(a_t, .inr (12, [o_t_tape, o_t_taped, o_t_fault, o_t_broken, o_t_brokenAt, o_t_spot, o_t_here, o_t_token, o_t_value, o_t_cuts, o_t_letters, o_t_plain, .ref a_t_rules, o_t_words, o_t_shorts, .ref a_t_guards, o_t_readRules, o_t_readTable, o_t_readWords, o_t_readShorts, o_t_readGuards, o_t_toldOnes, o_t_state, o_t_isAwake, o_t_sums, o_t_tongue, o_t_bestTable, o_t_may, o_t_mouth, o_t_mouthThen, o_t_isKept, o_t_lanes, o_t_lengths, o_t_cells, o_t_torn])), (a_t_rules, .inl (g.1 1, 8, .inl t_rules)), (a_t_guards, .inl (g.1 1, 12, .inl t_guards))] H → va_D A [(a_t, .inr (12, [o_t_tape, o_t_taped, o_t_fault, o_t_broken, o_t_brokenAt, o_t_spot, o_t_here, o_t_token, o_t_value, o_t_cuts, o_t_letters, o_t_plain, .ref a_t_rules, o_t_words, o_t_shorts, .ref a_t_guards, o_t_readRules, o_t_readTable, o_t_readWords, o_t_readShorts, o_t_readGuards, o_t_toldOnes, o_t_state, o_t_isAwake, o_t_sums, o_t_tongue, o_t_bestTable, o_t_may, o_t_mouth, o_t_mouthThen, o_t_isKept, o_t_lanes, o_t_lengths, o_t_cells, o_t_torn])), (a_t_rules, .inl (g.1 1, 8, .inl t_rules)), (a_t_guards, .inl (g.1 1, 12, .inl t_guards))] → va_S A s.heap H locs → ∀ (ls : Array Slot), lv_has ls 5 [(0, .ref a_t), (2, .int x2), (4, .int x4)] → W p l e rmX12_begin s m args below meth c H locs 0 0 Q (F0 m 55 ls [.int z0]) := by
    intro x2 x4 z0 K_31 hK_31
    intro h H locs hP hD hS ls hl
    unfold B_X12_begin_55 at h
    try dsimp only at h
    refine lv_istore_n (lv' := [(3, .int z0), (0, .ref a_t), (2, .int x2), (4, .int x4)]) hx hb dX12_begin_55 rfl hl (by decide) rfl (fun ls hl => ?_)
    refine lv_iload_n hx hb dX12_begin_56 rfl (lv_at hl 0 rfl) ?_
    refine lv_iload_n hx hb dX12_begin_57 rfl (lv_at hl 2 rfl) ?_
    refine lv_icmp_ne (tgt := 68) hx hb dX12_begin_58 (by decide) (fun c8 => ?_) (fun c8 => ?_)
    · have h := h.1 c8
      refine lv_iinc (v := x4 + 1) (lv' := [(4, .int (x4 + 1)), (3, .int z0), (0, .ref a_t), (2, .int x2)]) hx hb dX12_begin_68 hl (k := 3) rfl rfl (by decide) rfl (fun ls hl => ?_)
      refine lv_goto (tgt := 31) hx hb dX12_begin_71 (by decide) ?_
      exact hK_31 z0 (x4 + 1) h _ _ hP hD hS _ (lv_sub hl [2, 3, 1, 0] rfl)
    · have h := h.2 c8
      refine lv_iload hx hb dX12_begin_61 (lv_at hl 3 rfl) ?_
      refine lv_iload_n hx hb dX12_begin_63 rfl (lv_at hl 2 rfl) ?_
      refine lv_isub hx hb dX12_begin_64 ?_
      refine lv_iconst (v := 1) hx hb dX12_begin_65 (by decide) ?_
      refine lv_iadd hx hb dX12_begin_66 ?_
      exact hret ((x4 - x2) + 1) _ _ _ _ _ ⟨rfl, h⟩ hP hD hS dX12_begin_67
  have L31 : ∀ (x2 : Int32), ∀ (n : Nat) (x3 : Int32) (x4 : Int32), fixN (F_X12_begin_31 t_rules t_guards x2 post) n (x3, x4) → ∀ (H : Heap) (locs : List Loc), va_P D vwCl [(a_t, .inr (12, [o_t_tape, o_t_taped, o_t_fault, o_t_broken, o_t_brokenAt, o_t_spot, o_t_here, o_t_token, o_t_value, o_t_cuts, o_t_letters, o_t_plain, .ref a_t_rules, o_t_words, o_t_shorts, .ref a_t_guards, o_t_readRules, o_t_readTable, o_t_readWords, o_t_readShorts, o_t_readGuards, o_t_toldOnes, o_t_state, o_t_isAwake, o_t_sums, o_t_tongue, o_t_bestTable, o_t_may, o_t_mouth, o_t_mouthThen, o_t_isKept, o_t_lanes, o_t_lengths, o_t_cells, o_t_torn])), (a_t_rules, .inl (g.1 1, 8, .inl t_rules)), (a_t_guards, .inl (g.1 1, 12, .inl t_guards))] H → va_D A [(a_t, .inr (12, [o_t_tape, o_t_taped, o_t_fault, o_t_broken, o_t_brokenAt, o_t_spot, o_t_here, o_t_token, o_t_value, o_t_cuts, o_t_letters, o_t_plain, .ref a_t_rules, o_t_words, o_t_shorts, .ref a_t_guards, o_t_readRules, o_t_readTable, o_t_readWords, o_t_readShorts, o_t_readGuards, o_t_toldOnes, o_t_state, o_t_isAwake, o_t_sums, o_t_tongue, o_t_bestTable, o_t_may, o_t_mouth, o_t_mouthThen, o_t_isKept, o_t_lanes, o_t_lengths, o_t_cells, o_t_torn])), (a_t_rules, .inl (g.1 1, 8, .inl t_rules)), (a_t_guards, .inl (g.1 1, 12, .inl t_guards))] → va_S A s.heap H locs → ∀ (ls : Array Slot), lv_has ls 5 [(0, .ref a_t), (2, .int x2), (3, .int x3), (4, .int x4)] → W p l e rmX12_begin s m args below meth c H locs 0 0 Q (F0 m 31 ls []) := by
    intro x2
    intro n
    induction n with
    | zero => intro x3 x4 h; exact h.elim
    | succ n ih =>
      intro x3 x4 h H locs hP hD hS ls hl
      have h : F_X12_begin_31 t_rules t_guards x2 post (fixN (F_X12_begin_31 t_rules t_guards x2 post) n) (x3, x4) := h
      unfold F_X12_begin_31 at h
      try dsimp only at h
      refine lv_iload hx hb dX12_begin_31 (lv_at hl 3 rfl) ?_
      refine lv_sipush (v := 600) hx hb dX12_begin_33 (by decide) ?_
      refine lv_icmp_ge (tgt := 74) hx hb dX12_begin_36 (by decide) (fun c5 => ?_) (fun c5 => ?_)
      · have h := h.1 c5
        refine lv_bipush (v := (-4)) hx hb dX12_begin_74 (by decide) ?_
        exact hret ((-4)) _ _ _ _ _ ⟨rfl, h⟩ hP hD hS dX12_begin_76
      · have h := h.2 c5
        refine lv_aload_n hx hb dX12_begin_39 rfl (lv_at hl 0 rfl) ?_
        refine lv_iload hx hb dX12_begin_40 (lv_at hl 3 rfl) ?_
        refine k_i (wr := []) hA hP hD hS [0, 1, 2] [] rfl rfl (by decide) (by decide) (va_runV (As := [.int x4]) (rest := []) ⟨hx, hb, hml, hown, hts⟩ (c_X12_isStill l D g a_t a_t_rules a_t_guards (o_t_tape) (o_t_taped) (o_t_fault) (o_t_broken) (o_t_brokenAt) (o_t_spot) (o_t_here) (o_t_token) (o_t_value) (o_t_cuts) (o_t_letters) (o_t_plain) (o_t_words) (o_t_shorts) (o_t_readRules) (o_t_readTable) (o_t_readWords) (o_t_readShorts) (o_t_readGuards) (o_t_toldOnes) (o_t_state) (o_t_isAwake) (o_t_sums) (o_t_tongue) (o_t_bestTable) (o_t_may) (o_t_mouth) (o_t_mouthThen) (o_t_isKept) (o_t_lanes) (o_t_lengths) (o_t_cells) (o_t_torn) t_rules t_guards x4 _ h H.size) (cwV 1 hts (gdV (inR_43 (List.mem_of_getElem? (i := 9) rfl)) (inR_43 (List.mem_of_getElem? (i := 10) rfl)) (inR_43 (List.mem_of_getElem? (i := 11) rfl)) (inR_1 (List.mem_of_getElem? (i := 5) rfl)) (inR_43 (List.mem_of_getElem? (i := 12) rfl))) rfl rfl rfl hdX12_isStill ⟨Nat.le_of_ble_eq_true rfl, Nat.le_of_ble_eq_true rfl⟩) (k_preV (q0 := 0) hG hA hP hD hS [0, 1, 2] rfl (by decide) rfl rfl) rfl rfl hl.1 rfl (lv_room (Nat.le_of_ble_eq_true rfl)) dX12_begin_42 ⟨Nat.zero_le _, Nat.zero_le _⟩) (fun r6 W' H locs h hP hD hS => ?_)
        obtain ⟨rfl, h⟩ := h
        have hP : va_P D vwCl [(a_t, .inr (12, [o_t_tape, o_t_taped, o_t_fault, o_t_broken, o_t_brokenAt, o_t_spot, o_t_here, o_t_token, o_t_value, o_t_cuts, o_t_letters, o_t_plain, .ref a_t_rules, o_t_words, o_t_shorts, .ref a_t_guards, o_t_readRules, o_t_readTable, o_t_readWords, o_t_readShorts, o_t_readGuards, o_t_toldOnes, o_t_state, o_t_isAwake, o_t_sums, o_t_tongue, o_t_bestTable, o_t_may, o_t_mouth, o_t_mouthThen, o_t_isKept, o_t_lanes, o_t_lengths, o_t_cells, o_t_torn])), (a_t_rules, .inl (g.1 1, 8, .inl t_rules)), (a_t_guards, .inl (g.1 1, 12, .inl t_guards))] H := hP.sub [0, 1, 2] rfl
        have hD : va_D A [(a_t, .inr (12, [o_t_tape, o_t_taped, o_t_fault, o_t_broken, o_t_brokenAt, o_t_spot, o_t_here, o_t_token, o_t_value, o_t_cuts, o_t_letters, o_t_plain, .ref a_t_rules, o_t_words, o_t_shorts, .ref a_t_guards, o_t_readRules, o_t_readTable, o_t_readWords, o_t_readShorts, o_t_readGuards, o_t_toldOnes, o_t_state, o_t_isAwake, o_t_sums, o_t_tongue, o_t_bestTable, o_t_may, o_t_mouth, o_t_mouthThen, o_t_isKept, o_t_lanes, o_t_lengths, o_t_cells, o_t_torn])), (a_t_rules, .inl (g.1 1, 8, .inl t_rules)), (a_t_guards, .inl (g.1 1, 12, .inl t_guards))] := hD.sub [0, 1, 2] (by decide) rfl
        refine lv_if_eq (tgt := 52) hx hb dX12_begin_45 (by decide) (fun c7 => ?_) (fun c7 => ?_)
        · have h := h.1 c7
          refine lv_iload_n hx hb dX12_begin_52 rfl (lv_at hl 2 rfl) ?_
          refine lv_iconst (v := 1) hx hb dX12_begin_53 (by decide) ?_
          refine lv_iadd hx hb dX12_begin_54 ?_
          exact L55 x2 x4 (x3 + 1) _ ih h _ _ hP hD hS _ (lv_sub hl [0, 1, 3] rfl)
        · have h := h.2 c7
          refine lv_iconst (v := 0) hx hb dX12_begin_48 (by decide) ?_
          refine lv_goto (tgt := 55) hx hb dX12_begin_49 (by decide) ?_
          exact L55 x2 x4 0 _ ih h _ _ hP hD hS _ (lv_sub hl [0, 1, 3] rfl)
  unfold wp_X12_begin at h
  try dsimp only at h
  refine lv_iload_n hx hb dX12_begin_0 rfl (lv_at hl 1 rfl) ?_
  refine lv_i2l hx hb dX12_begin_1 rfl ?_
  refine lv_lconst (v := 0) hx hb dX12_begin_2 (by decide) ?_
  refine lv_ldc2 hx hb hown lk0 dX12_begin_3 ?_
  refine k_i (wr := [(a_t, .inr (12, [o_t_tape, o_t_taped, o_t_fault, o_t_broken, o_t_brokenAt, o_t_spot, o_t_here, o_t_token, o_t_value, o_t_cuts, o_t_letters, o_t_plain, .ref a_t_rules, o_t_words, o_t_shorts, .ref a_t_guards, o_t_readRules, o_t_readTable, o_t_readWords, o_t_readShorts, o_t_readGuards, o_t_toldOnes, o_t_state, o_t_isAwake, o_t_sums, o_t_tongue, o_t_bestTable, o_t_may, o_t_mouth, o_t_mouthThen, o_t_isKept, o_t_lanes, o_t_lengths, o_t_cells, o_t_torn])), (a_t_rules, .inl (g.1 1, 8, .inl t_rules)), (a_t_guards, .inl (g.1 1, 12, .inl t_guards))]) hA hP hD hS [] [0, 1, 2] rfl rfl (by decide) (by decide) (va_runS (As := [.long x1.toInt64, .long 0, .long ((599))]) (rest := []) ⟨hx, hb, hml, hown, hts⟩ (c_X12_in l D g x1.toInt64 0 ((599)) _ h H.size) (va_cwS 3 hts (gdS (inR_10 (List.mem_of_getElem? (i := 1) rfl)) (inR_10 (List.mem_of_getElem? (i := 2) rfl)) (inR_1 (List.mem_of_getElem? (i := 5) rfl)) (inR_10 (List.mem_of_getElem? (i := 3) rfl))) rfl rfl rfl hdX12_in.2 ⟨Nat.le_of_ble_eq_true rfl, Nat.le_of_ble_eq_true rfl⟩) (k_preS hG hA hP hD hS [] rfl (by decide)) rfl rfl hl.1 rfl (lv_room (Nat.le_of_ble_eq_true rfl)) dX12_begin_6 ⟨Nat.zero_le _, Nat.zero_le _⟩) (fun r1 W' H locs h hP hD hS => ?_)
  obtain ⟨rfl, h⟩ := h
  have hP : va_P D vwCl [(a_t, .inr (12, [o_t_tape, o_t_taped, o_t_fault, o_t_broken, o_t_brokenAt, o_t_spot, o_t_here, o_t_token, o_t_value, o_t_cuts, o_t_letters, o_t_plain, .ref a_t_rules, o_t_words, o_t_shorts, .ref a_t_guards, o_t_readRules, o_t_readTable, o_t_readWords, o_t_readShorts, o_t_readGuards, o_t_toldOnes, o_t_state, o_t_isAwake, o_t_sums, o_t_tongue, o_t_bestTable, o_t_may, o_t_mouth, o_t_mouthThen, o_t_isKept, o_t_lanes, o_t_lengths, o_t_cells, o_t_torn])), (a_t_rules, .inl (g.1 1, 8, .inl t_rules)), (a_t_guards, .inl (g.1 1, 12, .inl t_guards))] H := hP.sub [0, 1, 2] rfl
  have hD : va_D A [(a_t, .inr (12, [o_t_tape, o_t_taped, o_t_fault, o_t_broken, o_t_brokenAt, o_t_spot, o_t_here, o_t_token, o_t_value, o_t_cuts, o_t_letters, o_t_plain, .ref a_t_rules, o_t_words, o_t_shorts, .ref a_t_guards, o_t_readRules, o_t_readTable, o_t_readWords, o_t_readShorts, o_t_readGuards, o_t_toldOnes, o_t_state, o_t_isAwake, o_t_sums, o_t_tongue, o_t_bestTable, o_t_may, o_t_mouth, o_t_mouthThen, o_t_isKept, o_t_lanes, o_t_lengths, o_t_cells, o_t_torn])), (a_t_rules, .inl (g.1 1, 8, .inl t_rules)), (a_t_guards, .inl (g.1 1, 12, .inl t_guards))] := hD.sub [0, 1, 2] (by decide) rfl
  refine lv_if_eq (tgt := 24) hx hb dX12_begin_9 (by decide) (fun c2 => ?_) (fun c2 => ?_)
  · have h := h.1 c2
    refine lv_iconst (v := (-1)) hx hb dX12_begin_24 (by decide) ?_
    exact hret ((-1)) _ _ _ _ _ ⟨rfl, h⟩ hP hD hS dX12_begin_25
  · have h := h.2 c2
    refine lv_iload_n hx hb dX12_begin_12 rfl (lv_at hl 2 rfl) ?_
    refine lv_i2l hx hb dX12_begin_13 rfl ?_
    refine lv_lconst (v := 1) hx hb dX12_begin_14 (by decide) ?_
    refine lv_ldc2 hx hb hown lk1 dX12_begin_15 ?_
    refine k_i (wr := [(a_t, .inr (12, [o_t_tape, o_t_taped, o_t_fault, o_t_broken, o_t_brokenAt, o_t_spot, o_t_here, o_t_token, o_t_value, o_t_cuts, o_t_letters, o_t_plain, .ref a_t_rules, o_t_words, o_t_shorts, .ref a_t_guards, o_t_readRules, o_t_readTable, o_t_readWords, o_t_readShorts, o_t_readGuards, o_t_toldOnes, o_t_state, o_t_isAwake, o_t_sums, o_t_tongue, o_t_bestTable, o_t_may, o_t_mouth, o_t_mouthThen, o_t_isKept, o_t_lanes, o_t_lengths, o_t_cells, o_t_torn])), (a_t_rules, .inl (g.1 1, 8, .inl t_rules)), (a_t_guards, .inl (g.1 1, 12, .inl t_guards))]) hA hP hD hS [] [0, 1, 2] rfl rfl (by decide) (by decide) (va_runS (As := [.long x2.toInt64, .long 1, .long ((600))]) (rest := []) ⟨hx, hb, hml, hown, hts⟩ (c_X12_in l D g x2.toInt64 1 ((600)) _ h H.size) (va_cwS 3 hts (gdS (inR_10 (List.mem_of_getElem? (i := 1) rfl)) (inR_10 (List.mem_of_getElem? (i := 2) rfl)) (inR_1 (List.mem_of_getElem? (i := 5) rfl)) (inR_10 (List.mem_of_getElem? (i := 3) rfl))) rfl rfl rfl hdX12_in.2 ⟨Nat.le_of_ble_eq_true rfl, Nat.le_of_ble_eq_true rfl⟩) (k_preS hG hA hP hD hS [] rfl (by decide)) rfl rfl hl.1 rfl (lv_room (Nat.le_of_ble_eq_true rfl)) dX12_begin_18 ⟨Nat.zero_le _, Nat.zero_le _⟩) (fun r3 W' H locs h hP hD hS => ?_)
    obtain ⟨rfl, h⟩ := h
    have hP : va_P D vwCl [(a_t, .inr (12, [o_t_tape, o_t_taped, o_t_fault, o_t_broken, o_t_brokenAt, o_t_spot, o_t_here, o_t_token, o_t_value, o_t_cuts, o_t_letters, o_t_plain, .ref a_t_rules, o_t_words, o_t_shorts, .ref a_t_guards, o_t_readRules, o_t_readTable, o_t_readWords, o_t_readShorts, o_t_readGuards, o_t_toldOnes, o_t_state, o_t_isAwake, o_t_sums, o_t_tongue, o_t_bestTable, o_t_may, o_t_mouth, o_t_mouthThen, o_t_isKept, o_t_lanes, o_t_lengths, o_t_cells, o_t_torn])), (a_t_rules, .inl (g.1 1, 8, .inl t_rules)), (a_t_guards, .inl (g.1 1, 12, .inl t_guards))] H := hP.sub [0, 1, 2] rfl
    have hD : va_D A [(a_t, .inr (12, [o_t_tape, o_t_taped, o_t_fault, o_t_broken, o_t_brokenAt, o_t_spot, o_t_here, o_t_token, o_t_value, o_t_cuts, o_t_letters, o_t_plain, .ref a_t_rules, o_t_words, o_t_shorts, .ref a_t_guards, o_t_readRules, o_t_readTable, o_t_readWords, o_t_readShorts, o_t_readGuards, o_t_toldOnes, o_t_state, o_t_isAwake, o_t_sums, o_t_tongue, o_t_bestTable, o_t_may, o_t_mouth, o_t_mouthThen, o_t_isKept, o_t_lanes, o_t_lengths, o_t_cells, o_t_torn])), (a_t_rules, .inl (g.1 1, 8, .inl t_rules)), (a_t_guards, .inl (g.1 1, 12, .inl t_guards))] := hD.sub [0, 1, 2] (by decide) rfl
    refine lv_if_ne (tgt := 26) hx hb dX12_begin_21 (by decide) (fun c4 => ?_) (fun c4 => ?_)
    · have h := h.1 c4
      refine lv_iconst (v := 0) hx hb dX12_begin_26 (by decide) ?_
      refine lv_istore_n (lv' := [(3, .int 0), (0, .ref a_t), (1, .int x1), (2, .int x2)]) hx hb dX12_begin_27 rfl hl (by decide) rfl (fun ls hl => ?_)
      refine lv_iload_n hx hb dX12_begin_28 rfl (lv_at hl 2 rfl) ?_
      refine lv_istore (lv' := [(4, .int x1), (3, .int 0), (0, .ref a_t), (1, .int x1), (2, .int x2)]) hx hb dX12_begin_29 hl (by decide) rfl (fun ls hl => ?_)
      obtain ⟨n9, h⟩ := h
      exact L31 x2 n9 0 x1 h _ _ hP hD hS _ (lv_sub hl [2, 4, 1, 0] rfl)
    · have h := h.2 c4
      refine lv_iconst (v := (-1)) hx hb dX12_begin_24 (by decide) ?_
      exact hret ((-1)) _ _ _ _ _ ⟨rfl, h⟩ hP hD hS dX12_begin_25
theorem hdX12_nights : yX12_nights.cls = RX12 ∧ yX12_nights.cls ≠ "java/lang/invoke/MethodHandle" ∧ yX12_nights.cls ≠ "java/lang/invoke/VarHandle" ∧ (parseMethodDescriptor yX12_nights.desc).map (fun d => d.parameters.length) = some 1 := by decide +kernel
abbrev rmX12_nights : Room := { frames := 3, cells := 0, slots := 0, locals := 300 }
set_option maxHeartbeats 4000000 in
set_option maxRecDepth 100000 in
theorem c_X12_nights (l : Launch) (D : va_G) (g : gE) (a_t : Nat) (a_t_rules : Nat) (a_t_guards : Nat) (o_t_tape : Value) (o_t_taped : Value) (o_t_fault : Value) (o_t_broken : Value) (o_t_brokenAt : Value) (o_t_spot : Value) (o_t_here : Value) (o_t_token : Value) (o_t_value : Value) (o_t_cuts : Value) (o_t_letters : Value) (o_t_plain : Value) (o_t_words : Value) (o_t_shorts : Value) (o_t_readRules : Value) (o_t_readTable : Value) (o_t_readWords : Value) (o_t_readShorts : Value) (o_t_readGuards : Value) (o_t_toldOnes : Value) (o_t_state : Value) (o_t_isAwake : Value) (o_t_sums : Value) (o_t_tongue : Value) (o_t_bestTable : Value) (o_t_may : Value) (o_t_mouth : Value) (o_t_mouthThen : Value) (o_t_isKept : Value) (o_t_lanes : Value) (o_t_lengths : Value) (o_t_cells : Value) (o_t_torn : Value) (t_rules : Nat → Int32) (t_guards : Nat → Int32) (x1 : Int32) (post : Int32 → Prop) (h : wp_X12_nights t_rules t_guards x1 post) : Ci l D g yX12_nights (.code yX12_nights cX12_nights 5 (some .int) :: wsL_law) rmX12_nights [.ref a_t, .int x1] [(a_t, .inr (12, [o_t_tape, o_t_taped, o_t_fault, o_t_broken, o_t_brokenAt, o_t_spot, o_t_here, o_t_token, o_t_value, o_t_cuts, o_t_letters, o_t_plain, .ref a_t_rules, o_t_words, o_t_shorts, .ref a_t_guards, o_t_readRules, o_t_readTable, o_t_readWords, o_t_readShorts, o_t_readGuards, o_t_toldOnes, o_t_state, o_t_isAwake, o_t_sums, o_t_tongue, o_t_bestTable, o_t_may, o_t_mouth, o_t_mouthThen, o_t_isKept, o_t_lanes, o_t_lengths, o_t_cells, o_t_torn])), (a_t_rules, .inl (g.1 1, 8, .inl t_rules)), (a_t_guards, .inl (g.1 1, 12, .inl t_guards))] (fun r W' => W' = [(a_t, .inr (12, [o_t_tape, o_t_taped, o_t_fault, o_t_broken, o_t_brokenAt, o_t_spot, o_t_here, o_t_token, o_t_value, o_t_cuts, o_t_letters, o_t_plain, .ref a_t_rules, o_t_words, o_t_shorts, .ref a_t_guards, o_t_readRules, o_t_readTable, o_t_readWords, o_t_readShorts, o_t_readGuards, o_t_toldOnes, o_t_state, o_t_isAwake, o_t_sums, o_t_tongue, o_t_bestTable, o_t_may, o_t_mouth, o_t_mouthThen, o_t_isKept, o_t_lanes, o_t_lengths, o_t_cells, o_t_torn])), (a_t_rules, .inl (g.1 1, 8, .inl t_rules)), (a_t_guards, .inl (g.1 1, 12, .inl t_guards))] ∧ post r) := by
  refine Ci.of (cc := cX12_nights) (maxL := 5) (by decide) rfl (Nat.le_of_ble_eq_true rfl) ?_
  intro p e s m args below meth c A Q hx hb hml hts hown hA H locs hP hD hS hG ls hl hret
  have hown : s.vm.findClass RX12 = some m.cls := hown
  have hl : lv_has ls 5 [(0, .ref a_t), (1, .int x1)] := hl
  have lk0 := hts (.constantLong RX12 295 (600)) (List.mem_cons_of_mem _ (inR_44 (List.mem_of_getElem? (i := 4) rfl)))
  have L45 : ∀ (x1 : Int32) (x3 : Int32) (x4 : Int32) (z0 : Int32) (K_21 : (Int32 × Int32 × Int32) → Prop) (hK_21 : ∀ (x2 : Int32) (x3 : Int32) (x4 : Int32), K_21 (x2, x3, x4) → ∀ (H : Heap) (locs : List Loc), va_P D vwCl [(a_t, .inr (12, [o_t_tape, o_t_taped, o_t_fault, o_t_broken, o_t_brokenAt, o_t_spot, o_t_here, o_t_token, o_t_value, o_t_cuts, o_t_letters, o_t_plain, .ref a_t_rules, o_t_words, o_t_shorts, .ref a_t_guards, o_t_readRules, o_t_readTable, o_t_readWords, o_t_readShorts, o_t_readGuards, o_t_toldOnes, o_t_state, o_t_isAwake, o_t_sums, o_t_tongue, o_t_bestTable, o_t_may, o_t_mouth, o_t_mouthThen, o_t_isKept, o_t_lanes, o_t_lengths, o_t_cells, o_t_torn])), (a_t_rules, .inl (g.1 1, 8, .inl t_rules)), (a_t_guards, .inl (g.1 1, 12, .inl t_guards))] H → va_D A [(a_t, .inr (12, [o_t_tape, o_t_taped, o_t_fault, o_t_broken, o_t_brokenAt, o_t_spot, o_t_here, o_t_token, o_t_value, o_t_cuts, o_t_letters, o_t_plain, .ref a_t_rules, o_t_words, o_t_shorts, .ref a_t_guards, o_t_readRules, o_t_readTable, o_t_readWords, o_t_readShorts, o_t_readGuards, o_t_toldOnes, o_t_state, o_t_isAwake, o_t_sums, o_t_tongue, o_t_bestTable, o_t_may, o_t_mouth, o_t_mouthThen, o_t_isKept, o_t_lanes, o_t_lengths, o_t_cells, o_t_torn])), (a_t_rules, .inl (g.1 1, 8, .inl t_rules)), (a_t_guards, .inl (g.1 1, 12, .inl t_guards))] → va_S A s.heap H locs → ∀ (ls : Array Slot), lv_has ls 5 [(0, .ref a_t), (1, .int x1), (2, .int x2), (3, .int x3), (4, .int x4)] → W p l e rmX12_nights s m args below meth c H locs 0 0 Q (F0 m 21 ls [])), B_X12_nights_45 x1 x3 x4 z0 K_21 → ∀ (H : Heap) (locs : List Loc), va_P D vwCl [(a_t, .inr (12, [o_t_tape, o_t_taped, o_t_fault, o_t_broken, o_t_brokenAt, o_t_spot, o_t_here, o_t_token, o_t_value, o_t_cuts, o_t_letters, o_t_plain, .ref a_t_rules, o_t_words, o_t_shorts, .ref a_t_guards, o_t_readRules, o_t_readTable, o_t_readWords, o_t_readShorts, o_t_readGuards, o_t_toldOnes, o_t_state, o_t_isAwake, o_t_sums, o_t_tongue, o_t_bestTable, o_t_may, o_t_mouth, o_t_mouthThen, o_t_isKept, o_t_lanes, o_t_lengths, o_t_cells, o_t_torn])), (a_t_rules, .inl (g.1 1, 8, .inl t_rules)), (a_t_guards, .inl (g.1 1, 12, .inl t_guards))] H → va_D A [(a_t, .inr (12, [o_t_tape, o_t_taped, o_t_fault, o_t_broken, o_t_brokenAt, o_t_spot, o_t_here, o_t_token, o_t_value, o_t_cuts, o_t_letters, o_t_plain, .ref a_t_rules, o_t_words, o_t_shorts, .ref a_t_guards, o_t_readRules, o_t_readTable, o_t_readWords, o_t_readShorts, o_t_readGuards, o_t_toldOnes, o_t_state, o_t_isAwake, o_t_sums, o_t_tongue, o_t_bestTable, o_t_may, o_t_mouth, o_t_mouthThen, o_t_isKept, o_t_lanes, o_t_lengths, o_t_cells, o_t_torn])), (a_t_rules, .inl (g.1 1, 8, .inl t_rules)), (a_t_guards, .inl (g.1 1, 12, .inl t_guards))] → va_S A s.heap H locs → ∀ (ls : Array Slot), lv_has ls 5 [(0, .ref a_t), (1, .int x1), (3, .int x3), (4, .int x4)] → W p l e rmX12_nights s m args below meth c H locs 0 0 Q (F0 m 45 ls [.int z0]) := by
    intro x1 x3 x4 z0 K_21 hK_21
    intro h H locs hP hD hS ls hl
    unfold B_X12_nights_45 at h
    try dsimp only at h
    refine lv_istore_n (lv' := [(2, .int z0), (0, .ref a_t), (1, .int x1), (3, .int x3), (4, .int x4)]) hx hb dX12_nights_45 rfl hl (by decide) rfl (fun ls hl => ?_)
    refine lv_iload_n hx hb dX12_nights_46 rfl (lv_at hl 0 rfl) ?_
    refine lv_iload_n hx hb dX12_nights_47 rfl (lv_at hl 2 rfl) ?_
    refine lv_icmp_ne (tgt := 56) hx hb dX12_nights_48 (by decide) (fun c6 => ?_) (fun c6 => ?_)
    · have h := h.1 c6
      refine lv_iinc (v := x4 + 1) (lv' := [(4, .int (x4 + 1)), (2, .int z0), (0, .ref a_t), (1, .int x1), (3, .int x3)]) hx hb dX12_nights_56 hl (k := 4) rfl rfl (by decide) rfl (fun ls hl => ?_)
      refine lv_goto (tgt := 21) hx hb dX12_nights_59 (by decide) ?_
      exact hK_21 z0 x3 (x4 + 1) h _ _ hP hD hS _ (lv_sub hl [2, 3, 1, 4, 0] rfl)
    · have h := h.2 c6
      refine lv_iinc (v := x3 + 1) (lv' := [(3, .int (x3 + 1)), (2, .int z0), (0, .ref a_t), (1, .int x1), (4, .int x4)]) hx hb dX12_nights_51 hl (k := 3) rfl rfl (by decide) rfl (fun ls hl => ?_)
      refine lv_iconst (v := 0) hx hb dX12_nights_54 (by decide) ?_
      refine lv_istore_n (lv' := [(2, .int 0), (3, .int (x3 + 1)), (0, .ref a_t), (1, .int x1), (4, .int x4)]) hx hb dX12_nights_55 rfl hl (by decide) rfl (fun ls hl => ?_)
      refine lv_iinc (v := x4 + 1) (lv' := [(4, .int (x4 + 1)), (2, .int 0), (3, .int (x3 + 1)), (0, .ref a_t), (1, .int x1)]) hx hb dX12_nights_56 hl (k := 4) rfl rfl (by decide) rfl (fun ls hl => ?_)
      refine lv_goto (tgt := 21) hx hb dX12_nights_59 (by decide) ?_
      exact hK_21 0 (x3 + 1) (x4 + 1) h _ _ hP hD hS _ (lv_sub hl [3, 4, 1, 2, 0] rfl)
  have L21 : ∀ (x1 : Int32), ∀ (n : Nat) (x2 : Int32) (x3 : Int32) (x4 : Int32), fixN (F_X12_nights_21 t_rules t_guards x1 post) n (x2, x3, x4) → ∀ (H : Heap) (locs : List Loc), va_P D vwCl [(a_t, .inr (12, [o_t_tape, o_t_taped, o_t_fault, o_t_broken, o_t_brokenAt, o_t_spot, o_t_here, o_t_token, o_t_value, o_t_cuts, o_t_letters, o_t_plain, .ref a_t_rules, o_t_words, o_t_shorts, .ref a_t_guards, o_t_readRules, o_t_readTable, o_t_readWords, o_t_readShorts, o_t_readGuards, o_t_toldOnes, o_t_state, o_t_isAwake, o_t_sums, o_t_tongue, o_t_bestTable, o_t_may, o_t_mouth, o_t_mouthThen, o_t_isKept, o_t_lanes, o_t_lengths, o_t_cells, o_t_torn])), (a_t_rules, .inl (g.1 1, 8, .inl t_rules)), (a_t_guards, .inl (g.1 1, 12, .inl t_guards))] H → va_D A [(a_t, .inr (12, [o_t_tape, o_t_taped, o_t_fault, o_t_broken, o_t_brokenAt, o_t_spot, o_t_here, o_t_token, o_t_value, o_t_cuts, o_t_letters, o_t_plain, .ref a_t_rules, o_t_words, o_t_shorts, .ref a_t_guards, o_t_readRules, o_t_readTable, o_t_readWords, o_t_readShorts, o_t_readGuards, o_t_toldOnes, o_t_state, o_t_isAwake, o_t_sums, o_t_tongue, o_t_bestTable, o_t_may, o_t_mouth, o_t_mouthThen, o_t_isKept, o_t_lanes, o_t_lengths, o_t_cells, o_t_torn])), (a_t_rules, .inl (g.1 1, 8, .inl t_rules)), (a_t_guards, .inl (g.1 1, 12, .inl t_guards))] → va_S A s.heap H locs → ∀ (ls : Array Slot), lv_has ls 5 [(0, .ref a_t), (1, .int x1), (2, .int x2), (3, .int x3), (4, .int x4)] → W p l e rmX12_nights s m args below meth c H locs 0 0 Q (F0 m 21 ls []) := by
    intro x1
    intro n
    induction n with
    | zero => intro x2 x3 x4 h; exact h.elim
    | succ n ih =>
      intro x2 x3 x4 h H locs hP hD hS ls hl
      have h : F_X12_nights_21 t_rules t_guards x1 post (fixN (F_X12_nights_21 t_rules t_guards x1 post) n) (x2, x3, x4) := h
      unfold F_X12_nights_21 at h
      try dsimp only at h
      refine lv_iload hx hb dX12_nights_21 (lv_at hl 4 rfl) ?_
      refine lv_sipush (v := 600) hx hb dX12_nights_23 (by decide) ?_
      refine lv_icmp_ge (tgt := 62) hx hb dX12_nights_26 (by decide) (fun c3 => ?_) (fun c3 => ?_)
      · have h := h.1 c3
        refine lv_iload_n hx hb dX12_nights_62 rfl (lv_at hl 3 rfl) ?_
        exact hret x3 _ _ _ _ _ ⟨rfl, h⟩ hP hD hS dX12_nights_63
      · have h := h.2 c3
        refine lv_aload_n hx hb dX12_nights_29 rfl (lv_at hl 0 rfl) ?_
        refine lv_iload hx hb dX12_nights_30 (lv_at hl 4 rfl) ?_
        refine k_i (wr := []) hA hP hD hS [0, 1, 2] [] rfl rfl (by decide) (by decide) (va_runV (As := [.int x4]) (rest := []) ⟨hx, hb, hml, hown, hts⟩ (c_X12_isStill l D g a_t a_t_rules a_t_guards (o_t_tape) (o_t_taped) (o_t_fault) (o_t_broken) (o_t_brokenAt) (o_t_spot) (o_t_here) (o_t_token) (o_t_value) (o_t_cuts) (o_t_letters) (o_t_plain) (o_t_words) (o_t_shorts) (o_t_readRules) (o_t_readTable) (o_t_readWords) (o_t_readShorts) (o_t_readGuards) (o_t_toldOnes) (o_t_state) (o_t_isAwake) (o_t_sums) (o_t_tongue) (o_t_bestTable) (o_t_may) (o_t_mouth) (o_t_mouthThen) (o_t_isKept) (o_t_lanes) (o_t_lengths) (o_t_cells) (o_t_torn) t_rules t_guards x4 _ h H.size) (cwV 1 hts (gdV (inR_43 (List.mem_of_getElem? (i := 9) rfl)) (inR_43 (List.mem_of_getElem? (i := 10) rfl)) (inR_43 (List.mem_of_getElem? (i := 11) rfl)) (inR_1 (List.mem_of_getElem? (i := 5) rfl)) (inR_43 (List.mem_of_getElem? (i := 12) rfl))) rfl rfl rfl hdX12_isStill ⟨Nat.le_of_ble_eq_true rfl, Nat.le_of_ble_eq_true rfl⟩) (k_preV (q0 := 0) hG hA hP hD hS [0, 1, 2] rfl (by decide) rfl rfl) rfl rfl hl.1 rfl (lv_room (Nat.le_of_ble_eq_true rfl)) dX12_nights_32 ⟨Nat.zero_le _, Nat.zero_le _⟩) (fun r4 W' H locs h hP hD hS => ?_)
        obtain ⟨rfl, h⟩ := h
        have hP : va_P D vwCl [(a_t, .inr (12, [o_t_tape, o_t_taped, o_t_fault, o_t_broken, o_t_brokenAt, o_t_spot, o_t_here, o_t_token, o_t_value, o_t_cuts, o_t_letters, o_t_plain, .ref a_t_rules, o_t_words, o_t_shorts, .ref a_t_guards, o_t_readRules, o_t_readTable, o_t_readWords, o_t_readShorts, o_t_readGuards, o_t_toldOnes, o_t_state, o_t_isAwake, o_t_sums, o_t_tongue, o_t_bestTable, o_t_may, o_t_mouth, o_t_mouthThen, o_t_isKept, o_t_lanes, o_t_lengths, o_t_cells, o_t_torn])), (a_t_rules, .inl (g.1 1, 8, .inl t_rules)), (a_t_guards, .inl (g.1 1, 12, .inl t_guards))] H := hP.sub [0, 1, 2] rfl
        have hD : va_D A [(a_t, .inr (12, [o_t_tape, o_t_taped, o_t_fault, o_t_broken, o_t_brokenAt, o_t_spot, o_t_here, o_t_token, o_t_value, o_t_cuts, o_t_letters, o_t_plain, .ref a_t_rules, o_t_words, o_t_shorts, .ref a_t_guards, o_t_readRules, o_t_readTable, o_t_readWords, o_t_readShorts, o_t_readGuards, o_t_toldOnes, o_t_state, o_t_isAwake, o_t_sums, o_t_tongue, o_t_bestTable, o_t_may, o_t_mouth, o_t_mouthThen, o_t_isKept, o_t_lanes, o_t_lengths, o_t_cells, o_t_torn])), (a_t_rules, .inl (g.1 1, 8, .inl t_rules)), (a_t_guards, .inl (g.1 1, 12, .inl t_guards))] := hD.sub [0, 1, 2] (by decide) rfl
        refine lv_if_eq (tgt := 42) hx hb dX12_nights_35 (by decide) (fun c5 => ?_) (fun c5 => ?_)
        · have h := h.1 c5
          refine lv_iload_n hx hb dX12_nights_42 rfl (lv_at hl 2 rfl) ?_
          refine lv_iconst (v := 1) hx hb dX12_nights_43 (by decide) ?_
          refine lv_iadd hx hb dX12_nights_44 ?_
          exact L45 x1 x3 x4 (x2 + 1) _ ih h _ _ hP hD hS _ (lv_sub hl [0, 1, 3, 4] rfl)
        · have h := h.2 c5
          refine lv_iconst (v := 0) hx hb dX12_nights_38 (by decide) ?_
          refine lv_goto (tgt := 45) hx hb dX12_nights_39 (by decide) ?_
          exact L45 x1 x3 x4 0 _ ih h _ _ hP hD hS _ (lv_sub hl [0, 1, 3, 4] rfl)
  unfold wp_X12_nights at h
  try dsimp only at h
  refine lv_iload_n hx hb dX12_nights_0 rfl (lv_at hl 1 rfl) ?_
  refine lv_i2l hx hb dX12_nights_1 rfl ?_
  refine lv_lconst (v := 1) hx hb dX12_nights_2 (by decide) ?_
  refine lv_ldc2 hx hb hown lk0 dX12_nights_3 ?_
  refine k_i (wr := [(a_t, .inr (12, [o_t_tape, o_t_taped, o_t_fault, o_t_broken, o_t_brokenAt, o_t_spot, o_t_here, o_t_token, o_t_value, o_t_cuts, o_t_letters, o_t_plain, .ref a_t_rules, o_t_words, o_t_shorts, .ref a_t_guards, o_t_readRules, o_t_readTable, o_t_readWords, o_t_readShorts, o_t_readGuards, o_t_toldOnes, o_t_state, o_t_isAwake, o_t_sums, o_t_tongue, o_t_bestTable, o_t_may, o_t_mouth, o_t_mouthThen, o_t_isKept, o_t_lanes, o_t_lengths, o_t_cells, o_t_torn])), (a_t_rules, .inl (g.1 1, 8, .inl t_rules)), (a_t_guards, .inl (g.1 1, 12, .inl t_guards))]) hA hP hD hS [] [0, 1, 2] rfl rfl (by decide) (by decide) (va_runS (As := [.long x1.toInt64, .long 1, .long ((600))]) (rest := []) ⟨hx, hb, hml, hown, hts⟩ (c_X12_in l D g x1.toInt64 1 ((600)) _ h H.size) (va_cwS 3 hts (gdS (inR_10 (List.mem_of_getElem? (i := 1) rfl)) (inR_10 (List.mem_of_getElem? (i := 2) rfl)) (inR_1 (List.mem_of_getElem? (i := 5) rfl)) (inR_10 (List.mem_of_getElem? (i := 3) rfl))) rfl rfl rfl hdX12_in.2 ⟨Nat.le_of_ble_eq_true rfl, Nat.le_of_ble_eq_true rfl⟩) (k_preS hG hA hP hD hS [] rfl (by decide)) rfl rfl hl.1 rfl (lv_room (Nat.le_of_ble_eq_true rfl)) dX12_nights_6 ⟨Nat.zero_le _, Nat.zero_le _⟩) (fun r1 W' H locs h hP hD hS => ?_)
  obtain ⟨rfl, h⟩ := h
  have hP : va_P D vwCl [(a_t, .inr (12, [o_t_tape, o_t_taped, o_t_fault, o_t_broken, o_t_brokenAt, o_t_spot, o_t_here, o_t_token, o_t_value, o_t_cuts, o_t_letters, o_t_plain, .ref a_t_rules, o_t_words, o_t_shorts, .ref a_t_guards, o_t_readRules, o_t_readTable, o_t_readWords, o_t_readShorts, o_t_readGuards, o_t_toldOnes, o_t_state, o_t_isAwake, o_t_sums, o_t_tongue, o_t_bestTable, o_t_may, o_t_mouth, o_t_mouthThen, o_t_isKept, o_t_lanes, o_t_lengths, o_t_cells, o_t_torn])), (a_t_rules, .inl (g.1 1, 8, .inl t_rules)), (a_t_guards, .inl (g.1 1, 12, .inl t_guards))] H := hP.sub [0, 1, 2] rfl
  have hD : va_D A [(a_t, .inr (12, [o_t_tape, o_t_taped, o_t_fault, o_t_broken, o_t_brokenAt, o_t_spot, o_t_here, o_t_token, o_t_value, o_t_cuts, o_t_letters, o_t_plain, .ref a_t_rules, o_t_words, o_t_shorts, .ref a_t_guards, o_t_readRules, o_t_readTable, o_t_readWords, o_t_readShorts, o_t_readGuards, o_t_toldOnes, o_t_state, o_t_isAwake, o_t_sums, o_t_tongue, o_t_bestTable, o_t_may, o_t_mouth, o_t_mouthThen, o_t_isKept, o_t_lanes, o_t_lengths, o_t_cells, o_t_torn])), (a_t_rules, .inl (g.1 1, 8, .inl t_rules)), (a_t_guards, .inl (g.1 1, 12, .inl t_guards))] := hD.sub [0, 1, 2] (by decide) rfl
  refine lv_if_ne (tgt := 14) hx hb dX12_nights_9 (by decide) (fun c2 => ?_) (fun c2 => ?_)
  · have h := h.1 c2
    refine lv_iconst (v := 0) hx hb dX12_nights_14 (by decide) ?_
    refine lv_istore_n (lv' := [(2, .int 0), (0, .ref a_t), (1, .int x1)]) hx hb dX12_nights_15 rfl hl (by decide) rfl (fun ls hl => ?_)
    refine lv_iconst (v := 0) hx hb dX12_nights_16 (by decide) ?_
    refine lv_istore_n (lv' := [(3, .int 0), (2, .int 0), (0, .ref a_t), (1, .int x1)]) hx hb dX12_nights_17 rfl hl (by decide) rfl (fun ls hl => ?_)
    refine lv_iconst (v := 0) hx hb dX12_nights_18 (by decide) ?_
    refine lv_istore (lv' := [(4, .int 0), (3, .int 0), (2, .int 0), (0, .ref a_t), (1, .int x1)]) hx hb dX12_nights_19 hl (by decide) rfl (fun ls hl => ?_)
    obtain ⟨n9, h⟩ := h
    exact L21 x1 n9 0 0 0 h _ _ hP hD hS _ (lv_sub hl [3, 4, 2, 1, 0] rfl)
  · have h := h.2 c2
    refine lv_iconst (v := (-1)) hx hb dX12_nights_12 (by decide) ?_
    exact hret ((-1)) _ _ _ _ _ ⟨rfl, h⟩ hP hD hS dX12_nights_13
theorem hdX12_longest : yX12_longest.cls = RX12 ∧ yX12_longest.cls ≠ "java/lang/invoke/MethodHandle" ∧ yX12_longest.cls ≠ "java/lang/invoke/VarHandle" ∧ (parseMethodDescriptor yX12_longest.desc).map (fun d => d.parameters.length) = some 1 := by decide +kernel
abbrev rmX12_longest : Room := { frames := 3, cells := 0, slots := 0, locals := 300 }
set_option maxHeartbeats 4000000 in
set_option maxRecDepth 100000 in
theorem c_X12_longest (l : Launch) (D : va_G) (g : gE) (a_t : Nat) (a_t_rules : Nat) (a_t_guards : Nat) (o_t_tape : Value) (o_t_taped : Value) (o_t_fault : Value) (o_t_broken : Value) (o_t_brokenAt : Value) (o_t_spot : Value) (o_t_here : Value) (o_t_token : Value) (o_t_value : Value) (o_t_cuts : Value) (o_t_letters : Value) (o_t_plain : Value) (o_t_words : Value) (o_t_shorts : Value) (o_t_readRules : Value) (o_t_readTable : Value) (o_t_readWords : Value) (o_t_readShorts : Value) (o_t_readGuards : Value) (o_t_toldOnes : Value) (o_t_state : Value) (o_t_isAwake : Value) (o_t_sums : Value) (o_t_tongue : Value) (o_t_bestTable : Value) (o_t_may : Value) (o_t_mouth : Value) (o_t_mouthThen : Value) (o_t_isKept : Value) (o_t_lanes : Value) (o_t_lengths : Value) (o_t_cells : Value) (o_t_torn : Value) (t_rules : Nat → Int32) (t_guards : Nat → Int32) (x1 : Int32) (post : Int32 → Prop) (h : wp_X12_longest t_rules t_guards x1 post) : Ci l D g yX12_longest (.code yX12_longest cX12_longest 6 (some .int) :: wsL_law) rmX12_longest [.ref a_t, .int x1] [(a_t, .inr (12, [o_t_tape, o_t_taped, o_t_fault, o_t_broken, o_t_brokenAt, o_t_spot, o_t_here, o_t_token, o_t_value, o_t_cuts, o_t_letters, o_t_plain, .ref a_t_rules, o_t_words, o_t_shorts, .ref a_t_guards, o_t_readRules, o_t_readTable, o_t_readWords, o_t_readShorts, o_t_readGuards, o_t_toldOnes, o_t_state, o_t_isAwake, o_t_sums, o_t_tongue, o_t_bestTable, o_t_may, o_t_mouth, o_t_mouthThen, o_t_isKept, o_t_lanes, o_t_lengths, o_t_cells, o_t_torn])), (a_t_rules, .inl (g.1 1, 8, .inl t_rules)), (a_t_guards, .inl (g.1 1, 12, .inl t_guards))] (fun r W' => W' = [(a_t, .inr (12, [o_t_tape, o_t_taped, o_t_fault, o_t_broken, o_t_brokenAt, o_t_spot, o_t_here, o_t_token, o_t_value, o_t_cuts, o_t_letters, o_t_plain, .ref a_t_rules, o_t_words, o_t_shorts, .ref a_t_guards, o_t_readRules, o_t_readTable, o_t_readWords, o_t_readShorts, o_t_readGuards, o_t_toldOnes, o_t_state, o_t_isAwake, o_t_sums, o_t_tongue, o_t_bestTable, o_t_may, o_t_mouth, o_t_mouthThen, o_t_isKept, o_t_lanes, o_t_lengths, o_t_cells, o_t_torn])), (a_t_rules, .inl (g.1 1, 8, .inl t_rules)), (a_t_guards, .inl (g.1 1, 12, .inl t_guards))] ∧ post r) := by
  refine Ci.of (cc := cX12_longest) (maxL := 6) (by decide) rfl (Nat.le_of_ble_eq_true rfl) ?_
  intro p e s m args below meth c A Q hx hb hml hts hown hA H locs hP hD hS hG ls hl hret
  have hown : s.vm.findClass RX12 = some m.cls := hown
  have hl : lv_has ls 6 [(0, .ref a_t), (1, .int x1)] := hl
  have L64 : ∀ (x1 : Int32) (x2 : Int32) (x3 : Int32) (x5 : Int32) (z0 : Int32) (K_23 : (Int32 × Int32 × Int32 × Int32) → Prop) (hK_23 : ∀ (x2 : Int32) (x3 : Int32) (x4 : Int32) (x5 : Int32), K_23 (x2, x3, x4, x5) → ∀ (H : Heap) (locs : List Loc), va_P D vwCl [(a_t, .inr (12, [o_t_tape, o_t_taped, o_t_fault, o_t_broken, o_t_brokenAt, o_t_spot, o_t_here, o_t_token, o_t_value, o_t_cuts, o_t_letters, o_t_plain, .ref a_t_rules, o_t_words, o_t_shorts, .ref a_t_guards, o_t_readRules, o_t_readTable, o_t_readWords, o_t_readShorts, o_t_readGuards, o_t_toldOnes, o_t_state, o_t_isAwake, o_t_sums, o_t_tongue, o_t_bestTable, o_t_may, o_t_mouth, o_t_mouthThen, o_t_isKept, o_t_lanes, o_t_lengths, o_t_cells, o_t_torn])), (a_t_rules, .inl (g.1 1, 8, .inl t_rules)), (a_t_guards, .inl (g.1 1, 12, .inl t_guards))] H → va_D A [(a_t, .inr (12, [o_t_tape, o_t_taped, o_t_fault, o_t_broken, o_t_brokenAt, o_t_spot, o_t_here, o_t_token, o_t_value, o_t_cuts, o_t_letters, o_t_plain, .ref a_t_rules, o_t_words, o_t_shorts, .ref a_t_guards, o_t_readRules, o_t_readTable, o_t_readWords, o_t_readShorts, o_t_readGuards, o_t_toldOnes, o_t_state, o_t_isAwake, o_t_sums, o_t_tongue, o_t_bestTable, o_t_may, o_t_mouth, o_t_mouthThen, o_t_isKept, o_t_lanes, o_t_lengths, o_t_cells, o_t_torn])), (a_t_rules, .inl (g.1 1, 8, .inl t_rules)), (a_t_guards, .inl (g.1 1, 12, .inl t_guards))] → va_S A s.heap H locs → ∀ (ls : Array Slot), lv_has ls 6 [(0, .ref a_t), (1, .int x1), (2, .int x2), (3, .int x3), (4, .int x4), (5, .int x5)] → W p l e rmX12_longest s m args below meth c H locs 0 0 Q (F0 m 23 ls [])), B_X12_longest_64 x2 x3 x5 z0 K_23 → ∀ (H : Heap) (locs : List Loc), va_P D vwCl [(a_t, .inr (12, [o_t_tape, o_t_taped, o_t_fault, o_t_broken, o_t_brokenAt, o_t_spot, o_t_here, o_t_token, o_t_value, o_t_cuts, o_t_letters, o_t_plain, .ref a_t_rules, o_t_words, o_t_shorts, .ref a_t_guards, o_t_readRules, o_t_readTable, o_t_readWords, o_t_readShorts, o_t_readGuards, o_t_toldOnes, o_t_state, o_t_isAwake, o_t_sums, o_t_tongue, o_t_bestTable, o_t_may, o_t_mouth, o_t_mouthThen, o_t_isKept, o_t_lanes, o_t_lengths, o_t_cells, o_t_torn])), (a_t_rules, .inl (g.1 1, 8, .inl t_rules)), (a_t_guards, .inl (g.1 1, 12, .inl t_guards))] H → va_D A [(a_t, .inr (12, [o_t_tape, o_t_taped, o_t_fault, o_t_broken, o_t_brokenAt, o_t_spot, o_t_here, o_t_token, o_t_value, o_t_cuts, o_t_letters, o_t_plain, .ref a_t_rules, o_t_words, o_t_shorts, .ref a_t_guards, o_t_readRules, o_t_readTable, o_t_readWords, o_t_readShorts, o_t_readGuards, o_t_toldOnes, o_t_state, o_t_isAwake, o_t_sums, o_t_tongue, o_t_bestTable, o_t_may, o_t_mouth, o_t_mouthThen, o_t_isKept, o_t_lanes, o_t_lengths, o_t_cells, o_t_torn])), (a_t_rules, .inl (g.1 1, 8, .inl t_rules)), (a_t_guards, .inl (g.1 1, 12, .inl t_guards))] → va_S A s.heap H locs → ∀ (ls : Array Slot), lv_has ls 6 [(0, .ref a_t), (1, .int x1), (2, .int x2), (3, .int x3), (5, .int x5)] → W p l e rmX12_longest s m args below meth c H locs 0 0 Q (F0 m 64 ls [.int z0]) := by
    intro x1 x2 x3 x5 z0 K_23 hK_23
    intro h H locs hP hD hS ls hl
    unfold B_X12_longest_64 at h
    try dsimp only at h
    refine lv_istore (lv' := [(4, .int z0), (0, .ref a_t), (1, .int x1), (2, .int x2), (3, .int x3), (5, .int x5)]) hx hb dX12_longest_64 hl (by decide) rfl (fun ls hl => ?_)
    refine lv_iload_n hx hb dX12_longest_66 rfl (lv_at hl 3 rfl) ?_
    refine lv_iload_n hx hb dX12_longest_67 rfl (lv_at hl 4 rfl) ?_
    refine lv_icmp_le (tgt := 75) hx hb dX12_longest_68 (by decide) (fun c8 => ?_) (fun c8 => ?_)
    · have h := h.1 c8
      refine lv_iload_n hx hb dX12_longest_75 rfl (lv_at hl 4 rfl) ?_
      refine lv_istore_n (lv' := [(3, .int x3), (4, .int z0), (0, .ref a_t), (1, .int x1), (2, .int x2), (5, .int x5)]) hx hb dX12_longest_76 rfl hl (by decide) rfl (fun ls hl => ?_)
      refine lv_iinc (v := x5 + 1) (lv' := [(5, .int (x5 + 1)), (3, .int x3), (4, .int z0), (0, .ref a_t), (1, .int x1), (2, .int x2)]) hx hb dX12_longest_77 hl (k := 5) rfl rfl (by decide) rfl (fun ls hl => ?_)
      refine lv_goto (tgt := 23) hx hb dX12_longest_80 (by decide) ?_
      exact hK_23 x2 x3 z0 (x5 + 1) h _ _ hP hD hS _ (lv_sub hl [3, 4, 5, 1, 2, 0] rfl)
    · have h := h.2 c8
      refine lv_iload_n hx hb dX12_longest_71 rfl (lv_at hl 3 rfl) ?_
      refine lv_goto (tgt := 76) hx hb dX12_longest_72 (by decide) ?_
      refine lv_istore_n (lv' := [(3, .int x2), (4, .int z0), (0, .ref a_t), (1, .int x1), (2, .int x2), (5, .int x5)]) hx hb dX12_longest_76 rfl hl (by decide) rfl (fun ls hl => ?_)
      refine lv_iinc (v := x5 + 1) (lv' := [(5, .int (x5 + 1)), (3, .int x2), (4, .int z0), (0, .ref a_t), (1, .int x1), (2, .int x2)]) hx hb dX12_longest_77 hl (k := 5) rfl rfl (by decide) rfl (fun ls hl => ?_)
      refine lv_goto (tgt := 23) hx hb dX12_longest_80 (by decide) ?_
      exact hK_23 x2 x2 z0 (x5 + 1) h _ _ hP hD hS _ (lv_sub hl [3, 4, 5, 1, 2, 0] rfl)
  have L47 : ∀ (x1 : Int32) (x3 : Int32) (x4 : Int32) (x5 : Int32) (z0 : Int32) (K_23 : (Int32 × Int32 × Int32 × Int32) → Prop) (hK_23 : ∀ (x2 : Int32) (x3 : Int32) (x4 : Int32) (x5 : Int32), K_23 (x2, x3, x4, x5) → ∀ (H : Heap) (locs : List Loc), va_P D vwCl [(a_t, .inr (12, [o_t_tape, o_t_taped, o_t_fault, o_t_broken, o_t_brokenAt, o_t_spot, o_t_here, o_t_token, o_t_value, o_t_cuts, o_t_letters, o_t_plain, .ref a_t_rules, o_t_words, o_t_shorts, .ref a_t_guards, o_t_readRules, o_t_readTable, o_t_readWords, o_t_readShorts, o_t_readGuards, o_t_toldOnes, o_t_state, o_t_isAwake, o_t_sums, o_t_tongue, o_t_bestTable, o_t_may, o_t_mouth, o_t_mouthThen, o_t_isKept, o_t_lanes, o_t_lengths, o_t_cells, o_t_torn])), (a_t_rules, .inl (g.1 1, 8, .inl t_rules)), (a_t_guards, .inl (g.1 1, 12, .inl t_guards))] H → va_D A [(a_t, .inr (12, [o_t_tape, o_t_taped, o_t_fault, o_t_broken, o_t_brokenAt, o_t_spot, o_t_here, o_t_token, o_t_value, o_t_cuts, o_t_letters, o_t_plain, .ref a_t_rules, o_t_words, o_t_shorts, .ref a_t_guards, o_t_readRules, o_t_readTable, o_t_readWords, o_t_readShorts, o_t_readGuards, o_t_toldOnes, o_t_state, o_t_isAwake, o_t_sums, o_t_tongue, o_t_bestTable, o_t_may, o_t_mouth, o_t_mouthThen, o_t_isKept, o_t_lanes, o_t_lengths, o_t_cells, o_t_torn])), (a_t_rules, .inl (g.1 1, 8, .inl t_rules)), (a_t_guards, .inl (g.1 1, 12, .inl t_guards))] → va_S A s.heap H locs → ∀ (ls : Array Slot), lv_has ls 6 [(0, .ref a_t), (1, .int x1), (2, .int x2), (3, .int x3), (4, .int x4), (5, .int x5)] → W p l e rmX12_longest s m args below meth c H locs 0 0 Q (F0 m 23 ls [])), B_X12_longest_47 x3 x4 x5 z0 K_23 → ∀ (H : Heap) (locs : List Loc), va_P D vwCl [(a_t, .inr (12, [o_t_tape, o_t_taped, o_t_fault, o_t_broken, o_t_brokenAt, o_t_spot, o_t_here, o_t_token, o_t_value, o_t_cuts, o_t_letters, o_t_plain, .ref a_t_rules, o_t_words, o_t_shorts, .ref a_t_guards, o_t_readRules, o_t_readTable, o_t_readWords, o_t_readShorts, o_t_readGuards, o_t_toldOnes, o_t_state, o_t_isAwake, o_t_sums, o_t_tongue, o_t_bestTable, o_t_may, o_t_mouth, o_t_mouthThen, o_t_isKept, o_t_lanes, o_t_lengths, o_t_cells, o_t_torn])), (a_t_rules, .inl (g.1 1, 8, .inl t_rules)), (a_t_guards, .inl (g.1 1, 12, .inl t_guards))] H → va_D A [(a_t, .inr (12, [o_t_tape, o_t_taped, o_t_fault, o_t_broken, o_t_brokenAt, o_t_spot, o_t_here, o_t_token, o_t_value, o_t_cuts, o_t_letters, o_t_plain, .ref a_t_rules, o_t_words, o_t_shorts, .ref a_t_guards, o_t_readRules, o_t_readTable, o_t_readWords, o_t_readShorts, o_t_readGuards, o_t_toldOnes, o_t_state, o_t_isAwake, o_t_sums, o_t_tongue, o_t_bestTable, o_t_may, o_t_mouth, o_t_mouthThen, o_t_isKept, o_t_lanes, o_t_lengths, o_t_cells, o_t_torn])), (a_t_rules, .inl (g.1 1, 8, .inl t_rules)), (a_t_guards, .inl (g.1 1, 12, .inl t_guards))] → va_S A s.heap H locs → ∀ (ls : Array Slot), lv_has ls 6 [(0, .ref a_t), (1, .int x1), (3, .int x3), (4, .int x4), (5, .int x5)] → W p l e rmX12_longest s m args below meth c H locs 0 0 Q (F0 m 47 ls [.int z0]) := by
    intro x1 x3 x4 x5 z0 K_23 hK_23
    intro h H locs hP hD hS ls hl
    unfold B_X12_longest_47 at h
    try dsimp only at h
    refine lv_istore_n (lv' := [(2, .int z0), (0, .ref a_t), (1, .int x1), (3, .int x3), (4, .int x4), (5, .int x5)]) hx hb dX12_longest_47 rfl hl (by decide) rfl (fun ls hl => ?_)
    refine lv_iload_n hx hb dX12_longest_48 rfl (lv_at hl 0 rfl) ?_
    refine lv_iload_n hx hb dX12_longest_49 rfl (lv_at hl 3 rfl) ?_
    refine lv_icmp_le (tgt := 62) hx hb dX12_longest_50 (by decide) (fun c7 => ?_) (fun c7 => ?_)
    · have h := h.1 c7
      refine lv_iload hx hb dX12_longest_62 (lv_at hl 4 rfl) ?_
      exact L64 x1 z0 x3 x5 x4 _ hK_23 h _ _ hP hD hS _ (lv_sub hl [1, 2, 0, 3, 5] rfl)
    · have h := h.2 c7
      refine lv_iload hx hb dX12_longest_53 (lv_at hl 5 rfl) ?_
      refine lv_iload_n hx hb dX12_longest_55 rfl (lv_at hl 0 rfl) ?_
      refine lv_isub hx hb dX12_longest_56 ?_
      refine lv_iconst (v := 1) hx hb dX12_longest_57 (by decide) ?_
      refine lv_iadd hx hb dX12_longest_58 ?_
      refine lv_goto (tgt := 64) hx hb dX12_longest_59 (by decide) ?_
      exact L64 x1 z0 x3 x5 ((x5 - z0) + 1) _ hK_23 h _ _ hP hD hS _ (lv_sub hl [1, 2, 0, 3, 5] rfl)
  have L23 : ∀ (x1 : Int32), ∀ (n : Nat) (x2 : Int32) (x3 : Int32) (x4 : Int32) (x5 : Int32), fixN (F_X12_longest_23 t_rules t_guards x1 post) n (x2, x3, x4, x5) → ∀ (H : Heap) (locs : List Loc), va_P D vwCl [(a_t, .inr (12, [o_t_tape, o_t_taped, o_t_fault, o_t_broken, o_t_brokenAt, o_t_spot, o_t_here, o_t_token, o_t_value, o_t_cuts, o_t_letters, o_t_plain, .ref a_t_rules, o_t_words, o_t_shorts, .ref a_t_guards, o_t_readRules, o_t_readTable, o_t_readWords, o_t_readShorts, o_t_readGuards, o_t_toldOnes, o_t_state, o_t_isAwake, o_t_sums, o_t_tongue, o_t_bestTable, o_t_may, o_t_mouth, o_t_mouthThen, o_t_isKept, o_t_lanes, o_t_lengths, o_t_cells, o_t_torn])), (a_t_rules, .inl (g.1 1, 8, .inl t_rules)), (a_t_guards, .inl (g.1 1, 12, .inl t_guards))] H → va_D A [(a_t, .inr (12, [o_t_tape, o_t_taped, o_t_fault, o_t_broken, o_t_brokenAt, o_t_spot, o_t_here, o_t_token, o_t_value, o_t_cuts, o_t_letters, o_t_plain, .ref a_t_rules, o_t_words, o_t_shorts, .ref a_t_guards, o_t_readRules, o_t_readTable, o_t_readWords, o_t_readShorts, o_t_readGuards, o_t_toldOnes, o_t_state, o_t_isAwake, o_t_sums, o_t_tongue, o_t_bestTable, o_t_may, o_t_mouth, o_t_mouthThen, o_t_isKept, o_t_lanes, o_t_lengths, o_t_cells, o_t_torn])), (a_t_rules, .inl (g.1 1, 8, .inl t_rules)), (a_t_guards, .inl (g.1 1, 12, .inl t_guards))] → va_S A s.heap H locs → ∀ (ls : Array Slot), lv_has ls 6 [(0, .ref a_t), (1, .int x1), (2, .int x2), (3, .int x3), (4, .int x4), (5, .int x5)] → W p l e rmX12_longest s m args below meth c H locs 0 0 Q (F0 m 23 ls []) := by
    intro x1
    intro n
    induction n with
    | zero => intro x2 x3 x4 x5 h; exact h.elim
    | succ n ih =>
      intro x2 x3 x4 x5 h H locs hP hD hS ls hl
      have h : F_X12_longest_23 t_rules t_guards x1 post (fixN (F_X12_longest_23 t_rules t_guards x1 post) n) (x2, x3, x4, x5) := h
      unfold F_X12_longest_23 at h
      try dsimp only at h
      refine lv_iload hx hb dX12_longest_23 (lv_at hl 5 rfl) ?_
      refine lv_sipush (v := 600) hx hb dX12_longest_25 (by decide) ?_
      refine lv_icmp_ge (tgt := 83) hx hb dX12_longest_28 (by decide) (fun c3 => ?_) (fun c3 => ?_)
      · have h := h.1 c3
        refine lv_iload_n hx hb dX12_longest_83 rfl (lv_at hl 1 rfl) ?_
        refine lv_if_ne (tgt := 91) hx hb dX12_longest_84 (by decide) (fun c4 => ?_) (fun c4 => ?_)
        · have h := h.1 c4
          refine lv_iload hx hb dX12_longest_91 (lv_at hl 4 rfl) ?_
          exact hret x4 _ _ _ _ _ ⟨rfl, h⟩ hP hD hS dX12_longest_93
        · have h := h.2 c4
          refine lv_iload_n hx hb dX12_longest_87 rfl (lv_at hl 3 rfl) ?_
          refine lv_goto (tgt := 93) hx hb dX12_longest_88 (by decide) ?_
          exact hret x3 _ _ _ _ _ ⟨rfl, h⟩ hP hD hS dX12_longest_93
      · have h := h.2 c3
        refine lv_aload_n hx hb dX12_longest_31 rfl (lv_at hl 0 rfl) ?_
        refine lv_iload hx hb dX12_longest_32 (lv_at hl 5 rfl) ?_
        refine k_i (wr := []) hA hP hD hS [0, 1, 2] [] rfl rfl (by decide) (by decide) (va_runV (As := [.int x5]) (rest := []) ⟨hx, hb, hml, hown, hts⟩ (c_X12_isStill l D g a_t a_t_rules a_t_guards (o_t_tape) (o_t_taped) (o_t_fault) (o_t_broken) (o_t_brokenAt) (o_t_spot) (o_t_here) (o_t_token) (o_t_value) (o_t_cuts) (o_t_letters) (o_t_plain) (o_t_words) (o_t_shorts) (o_t_readRules) (o_t_readTable) (o_t_readWords) (o_t_readShorts) (o_t_readGuards) (o_t_toldOnes) (o_t_state) (o_t_isAwake) (o_t_sums) (o_t_tongue) (o_t_bestTable) (o_t_may) (o_t_mouth) (o_t_mouthThen) (o_t_isKept) (o_t_lanes) (o_t_lengths) (o_t_cells) (o_t_torn) t_rules t_guards x5 _ h H.size) (cwV 1 hts (gdV (inR_43 (List.mem_of_getElem? (i := 9) rfl)) (inR_43 (List.mem_of_getElem? (i := 10) rfl)) (inR_43 (List.mem_of_getElem? (i := 11) rfl)) (inR_1 (List.mem_of_getElem? (i := 5) rfl)) (inR_43 (List.mem_of_getElem? (i := 12) rfl))) rfl rfl rfl hdX12_isStill ⟨Nat.le_of_ble_eq_true rfl, Nat.le_of_ble_eq_true rfl⟩) (k_preV (q0 := 0) hG hA hP hD hS [0, 1, 2] rfl (by decide) rfl rfl) rfl rfl hl.1 rfl (lv_room (Nat.le_of_ble_eq_true rfl)) dX12_longest_34 ⟨Nat.zero_le _, Nat.zero_le _⟩) (fun r5 W' H locs h hP hD hS => ?_)
        obtain ⟨rfl, h⟩ := h
        have hP : va_P D vwCl [(a_t, .inr (12, [o_t_tape, o_t_taped, o_t_fault, o_t_broken, o_t_brokenAt, o_t_spot, o_t_here, o_t_token, o_t_value, o_t_cuts, o_t_letters, o_t_plain, .ref a_t_rules, o_t_words, o_t_shorts, .ref a_t_guards, o_t_readRules, o_t_readTable, o_t_readWords, o_t_readShorts, o_t_readGuards, o_t_toldOnes, o_t_state, o_t_isAwake, o_t_sums, o_t_tongue, o_t_bestTable, o_t_may, o_t_mouth, o_t_mouthThen, o_t_isKept, o_t_lanes, o_t_lengths, o_t_cells, o_t_torn])), (a_t_rules, .inl (g.1 1, 8, .inl t_rules)), (a_t_guards, .inl (g.1 1, 12, .inl t_guards))] H := hP.sub [0, 1, 2] rfl
        have hD : va_D A [(a_t, .inr (12, [o_t_tape, o_t_taped, o_t_fault, o_t_broken, o_t_brokenAt, o_t_spot, o_t_here, o_t_token, o_t_value, o_t_cuts, o_t_letters, o_t_plain, .ref a_t_rules, o_t_words, o_t_shorts, .ref a_t_guards, o_t_readRules, o_t_readTable, o_t_readWords, o_t_readShorts, o_t_readGuards, o_t_toldOnes, o_t_state, o_t_isAwake, o_t_sums, o_t_tongue, o_t_bestTable, o_t_may, o_t_mouth, o_t_mouthThen, o_t_isKept, o_t_lanes, o_t_lengths, o_t_cells, o_t_torn])), (a_t_rules, .inl (g.1 1, 8, .inl t_rules)), (a_t_guards, .inl (g.1 1, 12, .inl t_guards))] := hD.sub [0, 1, 2] (by decide) rfl
        refine lv_if_eq (tgt := 44) hx hb dX12_longest_37 (by decide) (fun c6 => ?_) (fun c6 => ?_)
        · have h := h.1 c6
          refine lv_iload_n hx hb dX12_longest_44 rfl (lv_at hl 2 rfl) ?_
          refine lv_iconst (v := 1) hx hb dX12_longest_45 (by decide) ?_
          refine lv_iadd hx hb dX12_longest_46 ?_
          exact L47 x1 x3 x4 x5 (x2 + 1) _ ih h _ _ hP hD hS _ (lv_sub hl [0, 1, 3, 4, 5] rfl)
        · have h := h.2 c6
          refine lv_iconst (v := 0) hx hb dX12_longest_40 (by decide) ?_
          refine lv_goto (tgt := 47) hx hb dX12_longest_41 (by decide) ?_
          exact L47 x1 x3 x4 x5 0 _ ih h _ _ hP hD hS _ (lv_sub hl [0, 1, 3, 4, 5] rfl)
  unfold wp_X12_longest at h
  try dsimp only at h
  refine lv_iload_n hx hb dX12_longest_0 rfl (lv_at hl 1 rfl) ?_
  refine lv_i2l hx hb dX12_longest_1 rfl ?_
  refine lv_lconst (v := 0) hx hb dX12_longest_2 (by decide) ?_
  refine lv_lconst (v := 1) hx hb dX12_longest_3 (by decide) ?_
  refine k_i (wr := [(a_t, .inr (12, [o_t_tape, o_t_taped, o_t_fault, o_t_broken, o_t_brokenAt, o_t_spot, o_t_here, o_t_token, o_t_value, o_t_cuts, o_t_letters, o_t_plain, .ref a_t_rules, o_t_words, o_t_shorts, .ref a_t_guards, o_t_readRules, o_t_readTable, o_t_readWords, o_t_readShorts, o_t_readGuards, o_t_toldOnes, o_t_state, o_t_isAwake, o_t_sums, o_t_tongue, o_t_bestTable, o_t_may, o_t_mouth, o_t_mouthThen, o_t_isKept, o_t_lanes, o_t_lengths, o_t_cells, o_t_torn])), (a_t_rules, .inl (g.1 1, 8, .inl t_rules)), (a_t_guards, .inl (g.1 1, 12, .inl t_guards))]) hA hP hD hS [] [0, 1, 2] rfl rfl (by decide) (by decide) (va_runS (As := [.long x1.toInt64, .long 0, .long 1]) (rest := []) ⟨hx, hb, hml, hown, hts⟩ (c_X12_in l D g x1.toInt64 0 1 _ h H.size) (va_cwS 3 hts (gdS (inR_10 (List.mem_of_getElem? (i := 1) rfl)) (inR_10 (List.mem_of_getElem? (i := 2) rfl)) (inR_1 (List.mem_of_getElem? (i := 5) rfl)) (inR_10 (List.mem_of_getElem? (i := 3) rfl))) rfl rfl rfl hdX12_in.2 ⟨Nat.le_of_ble_eq_true rfl, Nat.le_of_ble_eq_true rfl⟩) (k_preS hG hA hP hD hS [] rfl (by decide)) rfl rfl hl.1 rfl (lv_room (Nat.le_of_ble_eq_true rfl)) dX12_longest_4 ⟨Nat.zero_le _, Nat.zero_le _⟩) (fun r1 W' H locs h hP hD hS => ?_)
  obtain ⟨rfl, h⟩ := h
  have hP : va_P D vwCl [(a_t, .inr (12, [o_t_tape, o_t_taped, o_t_fault, o_t_broken, o_t_brokenAt, o_t_spot, o_t_here, o_t_token, o_t_value, o_t_cuts, o_t_letters, o_t_plain, .ref a_t_rules, o_t_words, o_t_shorts, .ref a_t_guards, o_t_readRules, o_t_readTable, o_t_readWords, o_t_readShorts, o_t_readGuards, o_t_toldOnes, o_t_state, o_t_isAwake, o_t_sums, o_t_tongue, o_t_bestTable, o_t_may, o_t_mouth, o_t_mouthThen, o_t_isKept, o_t_lanes, o_t_lengths, o_t_cells, o_t_torn])), (a_t_rules, .inl (g.1 1, 8, .inl t_rules)), (a_t_guards, .inl (g.1 1, 12, .inl t_guards))] H := hP.sub [0, 1, 2] rfl
  have hD : va_D A [(a_t, .inr (12, [o_t_tape, o_t_taped, o_t_fault, o_t_broken, o_t_brokenAt, o_t_spot, o_t_here, o_t_token, o_t_value, o_t_cuts, o_t_letters, o_t_plain, .ref a_t_rules, o_t_words, o_t_shorts, .ref a_t_guards, o_t_readRules, o_t_readTable, o_t_readWords, o_t_readShorts, o_t_readGuards, o_t_toldOnes, o_t_state, o_t_isAwake, o_t_sums, o_t_tongue, o_t_bestTable, o_t_may, o_t_mouth, o_t_mouthThen, o_t_isKept, o_t_lanes, o_t_lengths, o_t_cells, o_t_torn])), (a_t_rules, .inl (g.1 1, 8, .inl t_rules)), (a_t_guards, .inl (g.1 1, 12, .inl t_guards))] := hD.sub [0, 1, 2] (by decide) rfl
  refine lv_if_ne (tgt := 12) hx hb dX12_longest_7 (by decide) (fun c2 => ?_) (fun c2 => ?_)
  · have h := h.1 c2
    refine lv_iconst (v := 0) hx hb dX12_longest_12 (by decide) ?_
    refine lv_istore_n (lv' := [(2, .int 0), (0, .ref a_t), (1, .int x1)]) hx hb dX12_longest_13 rfl hl (by decide) rfl (fun ls hl => ?_)
    refine lv_iconst (v := 0) hx hb dX12_longest_14 (by decide) ?_
    refine lv_istore_n (lv' := [(3, .int 0), (2, .int 0), (0, .ref a_t), (1, .int x1)]) hx hb dX12_longest_15 rfl hl (by decide) rfl (fun ls hl => ?_)
    refine lv_bipush (v := (-4)) hx hb dX12_longest_16 (by decide) ?_
    refine lv_istore (lv' := [(4, .int ((-4))), (3, .int 0), (2, .int 0), (0, .ref a_t), (1, .int x1)]) hx hb dX12_longest_18 hl (by decide) rfl (fun ls hl => ?_)
    refine lv_iconst (v := 0) hx hb dX12_longest_20 (by decide) ?_
    refine lv_istore (lv' := [(5, .int 0), (4, .int ((-4))), (3, .int 0), (2, .int 0), (0, .ref a_t), (1, .int x1)]) hx hb dX12_longest_21 hl (by decide) rfl (fun ls hl => ?_)
    obtain ⟨n9, h⟩ := h
    exact L23 x1 n9 0 0 ((-4)) 0 h _ _ hP hD hS _ (lv_sub hl [4, 5, 3, 2, 1, 0] rfl)
  · have h := h.2 c2
    refine lv_iconst (v := (-1)) hx hb dX12_longest_10 (by decide) ?_
    exact hret ((-1)) _ _ _ _ _ ⟨rfl, h⟩ hP hD hS dX12_longest_11
theorem hdX12_lettersOf : yX12_lettersOf.cls = RX12 ∧ yX12_lettersOf.cls ≠ "java/lang/invoke/MethodHandle" ∧ yX12_lettersOf.cls ≠ "java/lang/invoke/VarHandle" ∧ (parseMethodDescriptor yX12_lettersOf.desc).map (fun d => d.parameters.length) = some 1 := by decide +kernel
abbrev rmX12_lettersOf : Room := { frames := 2, cells := 0, slots := 0, locals := 200 }
set_option maxHeartbeats 4000000 in
set_option maxRecDepth 100000 in
theorem c_X12_lettersOf (l : Launch) (D : va_G) (g : gE) (a_t : Nat) (a_t_words : Nat) (o_t_tape : Value) (o_t_taped : Value) (o_t_fault : Value) (o_t_broken : Value) (o_t_brokenAt : Value) (o_t_spot : Value) (o_t_here : Value) (o_t_token : Value) (o_t_value : Value) (o_t_cuts : Value) (o_t_letters : Value) (o_t_plain : Value) (o_t_rules : Value) (o_t_shorts : Value) (o_t_guards : Value) (o_t_readRules : Value) (o_t_readTable : Value) (o_t_readWords : Value) (o_t_readShorts : Value) (o_t_readGuards : Value) (o_t_toldOnes : Value) (o_t_state : Value) (o_t_isAwake : Value) (o_t_sums : Value) (o_t_tongue : Value) (o_t_bestTable : Value) (o_t_may : Value) (o_t_mouth : Value) (o_t_mouthThen : Value) (o_t_isKept : Value) (o_t_lanes : Value) (o_t_lengths : Value) (o_t_cells : Value) (o_t_torn : Value) (t_words : Nat → Int32) (x1 : Int32) (post : Int32 → Prop) (h : wp_X12_lettersOf t_words x1 post) : Ci l D g yX12_lettersOf (.code yX12_lettersOf cX12_lettersOf 4 (some .int) :: wsL_law) rmX12_lettersOf [.ref a_t, .int x1] [(a_t, .inr (12, [o_t_tape, o_t_taped, o_t_fault, o_t_broken, o_t_brokenAt, o_t_spot, o_t_here, o_t_token, o_t_value, o_t_cuts, o_t_letters, o_t_plain, o_t_rules, .ref a_t_words, o_t_shorts, o_t_guards, o_t_readRules, o_t_readTable, o_t_readWords, o_t_readShorts, o_t_readGuards, o_t_toldOnes, o_t_state, o_t_isAwake, o_t_sums, o_t_tongue, o_t_bestTable, o_t_may, o_t_mouth, o_t_mouthThen, o_t_isKept, o_t_lanes, o_t_lengths, o_t_cells, o_t_torn])), (a_t_words, .inl (g.1 1, 100, .inl t_words))] (fun r W' => W' = [(a_t, .inr (12, [o_t_tape, o_t_taped, o_t_fault, o_t_broken, o_t_brokenAt, o_t_spot, o_t_here, o_t_token, o_t_value, o_t_cuts, o_t_letters, o_t_plain, o_t_rules, .ref a_t_words, o_t_shorts, o_t_guards, o_t_readRules, o_t_readTable, o_t_readWords, o_t_readShorts, o_t_readGuards, o_t_toldOnes, o_t_state, o_t_isAwake, o_t_sums, o_t_tongue, o_t_bestTable, o_t_may, o_t_mouth, o_t_mouthThen, o_t_isKept, o_t_lanes, o_t_lengths, o_t_cells, o_t_torn])), (a_t_words, .inl (g.1 1, 100, .inl t_words))] ∧ post r) := by
  refine Ci.of (cc := cX12_lettersOf) (maxL := 4) (by decide) rfl (Nat.le_of_ble_eq_true rfl) ?_
  intro p e s m args below meth c A Q hx hb hml hts hown hA H locs hP hD hS hG ls hl hret
  have hown : s.vm.findClass RX12 = some m.cls := hown
  have hl : lv_has ls 4 [(0, .ref a_t), (1, .int x1)] := hl
  have lk0 := hts (.fieldLink RX12 25 "KnockWallModel" "words" "[I") (List.mem_cons_of_mem _ (inR_8 (List.mem_of_getElem? (i := 6) rfl)))
  have L4 : ∀ (x1 : Int32), ∀ (n : Nat) (x2 : Int32) (x3 : Int32), fixN (F_X12_lettersOf_4 t_words x1 post) n (x2, x3) → ∀ (H : Heap) (locs : List Loc), va_P D vwCl [(a_t, .inr (12, [o_t_tape, o_t_taped, o_t_fault, o_t_broken, o_t_brokenAt, o_t_spot, o_t_here, o_t_token, o_t_value, o_t_cuts, o_t_letters, o_t_plain, o_t_rules, .ref a_t_words, o_t_shorts, o_t_guards, o_t_readRules, o_t_readTable, o_t_readWords, o_t_readShorts, o_t_readGuards, o_t_toldOnes, o_t_state, o_t_isAwake, o_t_sums, o_t_tongue, o_t_bestTable, o_t_may, o_t_mouth, o_t_mouthThen, o_t_isKept, o_t_lanes, o_t_lengths, o_t_cells, o_t_torn])), (a_t_words, .inl (g.1 1, 100, .inl t_words))] H → va_D A [(a_t, .inr (12, [o_t_tape, o_t_taped, o_t_fault, o_t_broken, o_t_brokenAt, o_t_spot, o_t_here, o_t_token, o_t_value, o_t_cuts, o_t_letters, o_t_plain, o_t_rules, .ref a_t_words, o_t_shorts, o_t_guards, o_t_readRules, o_t_readTable, o_t_readWords, o_t_readShorts, o_t_readGuards, o_t_toldOnes, o_t_state, o_t_isAwake, o_t_sums, o_t_tongue, o_t_bestTable, o_t_may, o_t_mouth, o_t_mouthThen, o_t_isKept, o_t_lanes, o_t_lengths, o_t_cells, o_t_torn])), (a_t_words, .inl (g.1 1, 100, .inl t_words))] → va_S A s.heap H locs → ∀ (ls : Array Slot), lv_has ls 4 [(0, .ref a_t), (1, .int x1), (2, .int x2), (3, .int x3)] → W p l e rmX12_lettersOf s m args below meth c H locs 0 0 Q (F0 m 4 ls []) := by
    intro x1
    intro n
    induction n with
    | zero => intro x2 x3 h; exact h.elim
    | succ n ih =>
      intro x2 x3 h H locs hP hD hS ls hl
      have h : F_X12_lettersOf_4 t_words x1 post (fixN (F_X12_lettersOf_4 t_words x1 post) n) (x2, x3) := h
      unfold F_X12_lettersOf_4 at h
      try dsimp only at h
      refine lv_iload_n hx hb dX12_lettersOf_4 rfl (lv_at hl 3 rfl) ?_
      refine lv_aload_n hx hb dX12_lettersOf_5 rfl (lv_at hl 0 rfl) ?_
      refine lv_iload_n hx hb dX12_lettersOf_6 rfl (lv_at hl 1 rfl) ?_
      refine k_i (wr := []) hA hP hD hS [0, 1] [] rfl rfl (by decide) (by decide) (va_runV (As := [.int x1]) (rest := [.int x3]) ⟨hx, hb, hml, hown, hts⟩ (c_X12_size l D g a_t a_t_words (o_t_tape) (o_t_taped) (o_t_fault) (o_t_broken) (o_t_brokenAt) (o_t_spot) (o_t_here) (o_t_token) (o_t_value) (o_t_cuts) (o_t_letters) (o_t_plain) (o_t_rules) (o_t_shorts) (o_t_guards) (o_t_readRules) (o_t_readTable) (o_t_readWords) (o_t_readShorts) (o_t_readGuards) (o_t_toldOnes) (o_t_state) (o_t_isAwake) (o_t_sums) (o_t_tongue) (o_t_bestTable) (o_t_may) (o_t_mouth) (o_t_mouthThen) (o_t_isKept) (o_t_lanes) (o_t_lengths) (o_t_cells) (o_t_torn) t_words x1 _ h H.size) (cwV 1 hts (gdV (inR_25 (List.mem_of_getElem? (i := 8) rfl)) (inR_25 (List.mem_of_getElem? (i := 9) rfl)) (inR_25 (List.mem_of_getElem? (i := 10) rfl)) (inR_1 (List.mem_of_getElem? (i := 5) rfl)) (inR_25 (List.mem_of_getElem? (i := 11) rfl))) rfl rfl rfl hdX12_size ⟨Nat.le_of_ble_eq_true rfl, Nat.le_of_ble_eq_true rfl⟩) (k_preV (q0 := 0) hG hA hP hD hS [0, 1] rfl (by decide) rfl rfl) rfl rfl hl.1 rfl (lv_room (Nat.le_of_ble_eq_true rfl)) dX12_lettersOf_7 ⟨Nat.zero_le _, Nat.zero_le _⟩) (fun r1 W' H locs h hP hD hS => ?_)
      obtain ⟨rfl, h⟩ := h
      have hP : va_P D vwCl [(a_t, .inr (12, [o_t_tape, o_t_taped, o_t_fault, o_t_broken, o_t_brokenAt, o_t_spot, o_t_here, o_t_token, o_t_value, o_t_cuts, o_t_letters, o_t_plain, o_t_rules, .ref a_t_words, o_t_shorts, o_t_guards, o_t_readRules, o_t_readTable, o_t_readWords, o_t_readShorts, o_t_readGuards, o_t_toldOnes, o_t_state, o_t_isAwake, o_t_sums, o_t_tongue, o_t_bestTable, o_t_may, o_t_mouth, o_t_mouthThen, o_t_isKept, o_t_lanes, o_t_lengths, o_t_cells, o_t_torn])), (a_t_words, .inl (g.1 1, 100, .inl t_words))] H := hP.sub [0, 1] rfl
      have hD : va_D A [(a_t, .inr (12, [o_t_tape, o_t_taped, o_t_fault, o_t_broken, o_t_brokenAt, o_t_spot, o_t_here, o_t_token, o_t_value, o_t_cuts, o_t_letters, o_t_plain, o_t_rules, .ref a_t_words, o_t_shorts, o_t_guards, o_t_readRules, o_t_readTable, o_t_readWords, o_t_readShorts, o_t_readGuards, o_t_toldOnes, o_t_state, o_t_isAwake, o_t_sums, o_t_tongue, o_t_bestTable, o_t_may, o_t_mouth, o_t_mouthThen, o_t_isKept, o_t_lanes, o_t_lengths, o_t_cells, o_t_torn])), (a_t_words, .inl (g.1 1, 100, .inl t_words))] := hD.sub [0, 1] (by decide) rfl
      refine lv_icmp_ge (tgt := 35) hx hb dX12_lettersOf_10 (by decide) (fun c2 => ?_) (fun c2 => ?_)
      · have h := h.1 c2
        refine lv_iload_n hx hb dX12_lettersOf_35 rfl (lv_at hl 2 rfl) ?_
        exact hret x2 _ _ _ _ _ ⟨rfl, h⟩ hP hD hS dX12_lettersOf_36
      · have h := h.2 c2
        refine lv_iload_n hx hb dX12_lettersOf_13 rfl (lv_at hl 2 rfl) ?_
        refine lv_iconst (v := 1) hx hb dX12_lettersOf_14 (by decide) ?_
        refine lv_aload_n hx hb dX12_lettersOf_15 rfl (lv_at hl 0 rfl) ?_
        refine va_get (ci := 12) (v := .ref a_t_words) (C := RX12) (T := TX12) (N := 35) hx hb hts icX12 hown hG.k hP 0 rfl rfl 13 (by decide) lk0 (fun _ h9 => h9) rfl dX12_lettersOf_16 ?_
        refine lv_bipush (v := 10) hx hb dX12_lettersOf_19 (by decide) ?_
        refine lv_iload_n hx hb dX12_lettersOf_21 rfl (lv_at hl 1 rfl) ?_
        refine lv_imul hx hb dX12_lettersOf_22 ?_
        refine lv_iload_n hx hb dX12_lettersOf_23 rfl (lv_at hl 3 rfl) ?_
        refine lv_iadd hx hb dX12_lettersOf_24 ?_
        obtain ⟨hv3, h⟩ := h
        refine va_iald hx hb hG.k hP 1 1 rfl rfl hv3 dX12_lettersOf_25 ?_
        refine lv_ishl hx hb dX12_lettersOf_26 ?_
        refine lv_ior hx hb dX12_lettersOf_27 ?_
        refine lv_istore_n (lv' := [(2, .int (x2 ||| ((1 : Int32) <<< ((t_words ((10 * x1) + x3).toNatClampNeg) &&& 31)))), (0, .ref a_t), (1, .int x1), (3, .int x3)]) hx hb dX12_lettersOf_28 rfl hl (by decide) rfl (fun ls hl => ?_)
        refine lv_iinc (v := x3 + 1) (lv' := [(3, .int (x3 + 1)), (2, .int (x2 ||| ((1 : Int32) <<< ((t_words ((10 * x1) + x3).toNatClampNeg) &&& 31)))), (0, .ref a_t), (1, .int x1)]) hx hb dX12_lettersOf_29 hl (k := 3) rfl rfl (by decide) rfl (fun ls hl => ?_)
        refine lv_goto (tgt := 4) hx hb dX12_lettersOf_32 (by decide) ?_
        exact ih (x2 ||| ((1 : Int32) <<< ((t_words ((10 * x1) + x3).toNatClampNeg) &&& 31))) (x3 + 1) h _ _ hP hD hS _ (lv_sub hl [2, 3, 1, 0] rfl)
  unfold wp_X12_lettersOf at h
  try dsimp only at h
  refine lv_iconst (v := 0) hx hb dX12_lettersOf_0 (by decide) ?_
  refine lv_istore_n (lv' := [(2, .int 0), (0, .ref a_t), (1, .int x1)]) hx hb dX12_lettersOf_1 rfl hl (by decide) rfl (fun ls hl => ?_)
  refine lv_iconst (v := 0) hx hb dX12_lettersOf_2 (by decide) ?_
  refine lv_istore_n (lv' := [(3, .int 0), (2, .int 0), (0, .ref a_t), (1, .int x1)]) hx hb dX12_lettersOf_3 rfl hl (by decide) rfl (fun ls hl => ?_)
  obtain ⟨n9, h⟩ := h
  exact L4 x1 n9 0 0 h _ _ hP hD hS _ (lv_sub hl [2, 3, 1, 0] rfl)
theorem hdX12_allLetters : yX12_allLetters.cls = RX12 ∧ yX12_allLetters.cls ≠ "java/lang/invoke/MethodHandle" ∧ yX12_allLetters.cls ≠ "java/lang/invoke/VarHandle" ∧ (parseMethodDescriptor yX12_allLetters.desc).map (fun d => d.parameters.length) = some 0 := by decide +kernel
abbrev rmX12_allLetters : Room := { frames := 3, cells := 0, slots := 0, locals := 300 }
set_option maxHeartbeats 4000000 in
set_option maxRecDepth 100000 in
theorem c_X12_allLetters (l : Launch) (D : va_G) (g : gE) (a_t : Nat) (a_t_rules : Nat) (a_t_words : Nat) (o_t_tape : Value) (o_t_taped : Value) (o_t_fault : Value) (o_t_broken : Value) (o_t_brokenAt : Value) (o_t_spot : Value) (o_t_here : Value) (o_t_token : Value) (o_t_value : Value) (o_t_cuts : Value) (o_t_letters : Value) (o_t_plain : Value) (o_t_shorts : Value) (o_t_guards : Value) (o_t_readRules : Value) (o_t_readTable : Value) (o_t_readWords : Value) (o_t_readShorts : Value) (o_t_readGuards : Value) (o_t_toldOnes : Value) (o_t_state : Value) (o_t_isAwake : Value) (o_t_sums : Value) (o_t_tongue : Value) (o_t_bestTable : Value) (o_t_may : Value) (o_t_mouth : Value) (o_t_mouthThen : Value) (o_t_isKept : Value) (o_t_lanes : Value) (o_t_lengths : Value) (o_t_cells : Value) (o_t_torn : Value) (t_rules : Nat → Int32) (t_words : Nat → Int32) (post : Int32 → Prop) (h : wp_X12_allLetters t_rules t_words post) : Ci l D g yX12_allLetters (.code yX12_allLetters cX12_allLetters 3 (some .int) :: wsL_law) rmX12_allLetters [.ref a_t] [(a_t, .inr (12, [o_t_tape, o_t_taped, o_t_fault, o_t_broken, o_t_brokenAt, o_t_spot, o_t_here, o_t_token, o_t_value, o_t_cuts, o_t_letters, o_t_plain, .ref a_t_rules, .ref a_t_words, o_t_shorts, o_t_guards, o_t_readRules, o_t_readTable, o_t_readWords, o_t_readShorts, o_t_readGuards, o_t_toldOnes, o_t_state, o_t_isAwake, o_t_sums, o_t_tongue, o_t_bestTable, o_t_may, o_t_mouth, o_t_mouthThen, o_t_isKept, o_t_lanes, o_t_lengths, o_t_cells, o_t_torn])), (a_t_rules, .inl (g.1 1, 8, .inl t_rules)), (a_t_words, .inl (g.1 1, 100, .inl t_words))] (fun r W' => W' = [(a_t, .inr (12, [o_t_tape, o_t_taped, o_t_fault, o_t_broken, o_t_brokenAt, o_t_spot, o_t_here, o_t_token, o_t_value, o_t_cuts, o_t_letters, o_t_plain, .ref a_t_rules, .ref a_t_words, o_t_shorts, o_t_guards, o_t_readRules, o_t_readTable, o_t_readWords, o_t_readShorts, o_t_readGuards, o_t_toldOnes, o_t_state, o_t_isAwake, o_t_sums, o_t_tongue, o_t_bestTable, o_t_may, o_t_mouth, o_t_mouthThen, o_t_isKept, o_t_lanes, o_t_lengths, o_t_cells, o_t_torn])), (a_t_rules, .inl (g.1 1, 8, .inl t_rules)), (a_t_words, .inl (g.1 1, 100, .inl t_words))] ∧ post r) := by
  refine Ci.of (cc := cX12_allLetters) (maxL := 3) (by decide) rfl (Nat.le_of_ble_eq_true rfl) ?_
  intro p e s m args below meth c A Q hx hb hml hts hown hA H locs hP hD hS hG ls hl hret
  have hown : s.vm.findClass RX12 = some m.cls := hown
  have hl : lv_has ls 3 [(0, .ref a_t)] := hl
  have lk0 := hts (.fieldLink RX12 22 "KnockWallModel" "rules" "[I") (List.mem_cons_of_mem _ (inR_8 (List.mem_of_getElem? (i := 5) rfl)))
  have L4 : ∀ (n : Nat) (x1 : Int32) (x2 : Int32), fixN (F_X12_allLetters_4 t_rules t_words post) n (x1, x2) → ∀ (H : Heap) (locs : List Loc), va_P D vwCl [(a_t, .inr (12, [o_t_tape, o_t_taped, o_t_fault, o_t_broken, o_t_brokenAt, o_t_spot, o_t_here, o_t_token, o_t_value, o_t_cuts, o_t_letters, o_t_plain, .ref a_t_rules, .ref a_t_words, o_t_shorts, o_t_guards, o_t_readRules, o_t_readTable, o_t_readWords, o_t_readShorts, o_t_readGuards, o_t_toldOnes, o_t_state, o_t_isAwake, o_t_sums, o_t_tongue, o_t_bestTable, o_t_may, o_t_mouth, o_t_mouthThen, o_t_isKept, o_t_lanes, o_t_lengths, o_t_cells, o_t_torn])), (a_t_rules, .inl (g.1 1, 8, .inl t_rules)), (a_t_words, .inl (g.1 1, 100, .inl t_words))] H → va_D A [(a_t, .inr (12, [o_t_tape, o_t_taped, o_t_fault, o_t_broken, o_t_brokenAt, o_t_spot, o_t_here, o_t_token, o_t_value, o_t_cuts, o_t_letters, o_t_plain, .ref a_t_rules, .ref a_t_words, o_t_shorts, o_t_guards, o_t_readRules, o_t_readTable, o_t_readWords, o_t_readShorts, o_t_readGuards, o_t_toldOnes, o_t_state, o_t_isAwake, o_t_sums, o_t_tongue, o_t_bestTable, o_t_may, o_t_mouth, o_t_mouthThen, o_t_isKept, o_t_lanes, o_t_lengths, o_t_cells, o_t_torn])), (a_t_rules, .inl (g.1 1, 8, .inl t_rules)), (a_t_words, .inl (g.1 1, 100, .inl t_words))] → va_S A s.heap H locs → ∀ (ls : Array Slot), lv_has ls 3 [(0, .ref a_t), (1, .int x1), (2, .int x2)] → W p l e rmX12_allLetters s m args below meth c H locs 0 0 Q (F0 m 4 ls []) := by
    intro n
    induction n with
    | zero => intro x1 x2 h; exact h.elim
    | succ n ih =>
      intro x1 x2 h H locs hP hD hS ls hl
      have h : F_X12_allLetters_4 t_rules t_words post (fixN (F_X12_allLetters_4 t_rules t_words post) n) (x1, x2) := h
      unfold F_X12_allLetters_4 at h
      try dsimp only at h
      refine lv_iload_n hx hb dX12_allLetters_4 rfl (lv_at hl 2 rfl) ?_
      refine lv_aload_n hx hb dX12_allLetters_5 rfl (lv_at hl 0 rfl) ?_
      refine va_get (ci := 12) (v := .ref a_t_rules) (C := RX12) (T := TX12) (N := 35) hx hb hts icX12 hown hG.k hP 0 rfl rfl 12 (by decide) lk0 (fun _ h9 => h9) rfl dX12_allLetters_6 ?_
      refine lv_iconst (v := 5) hx hb dX12_allLetters_9 (by decide) ?_
      obtain ⟨hv1, h⟩ := h
      refine va_iald hx hb hG.k hP 1 1 rfl rfl hv1 dX12_allLetters_10 ?_
      refine lv_icmp_ge (tgt := 28) hx hb dX12_allLetters_11 (by decide) (fun c2 => ?_) (fun c2 => ?_)
      · have h := h.1 c2
        refine lv_iload_n hx hb dX12_allLetters_28 rfl (lv_at hl 1 rfl) ?_
        exact hret x1 _ _ _ _ _ ⟨rfl, h⟩ hP hD hS dX12_allLetters_29
      · have h := h.2 c2
        refine lv_iload_n hx hb dX12_allLetters_14 rfl (lv_at hl 1 rfl) ?_
        refine lv_aload_n hx hb dX12_allLetters_15 rfl (lv_at hl 0 rfl) ?_
        refine lv_iload_n hx hb dX12_allLetters_16 rfl (lv_at hl 2 rfl) ?_
        refine k_i (wr := [(a_t_rules, .inl (g.1 1, 8, .inl t_rules))]) hA hP hD hS [0, 2] [1] rfl rfl (by decide) (by decide) (va_runV (As := [.int x2]) (rest := [.int x1]) ⟨hx, hb, hml, hown, hts⟩ (c_X12_lettersOf l D g a_t a_t_words (o_t_tape) (o_t_taped) (o_t_fault) (o_t_broken) (o_t_brokenAt) (o_t_spot) (o_t_here) (o_t_token) (o_t_value) (o_t_cuts) (o_t_letters) (o_t_plain) (.ref a_t_rules) (o_t_shorts) (o_t_guards) (o_t_readRules) (o_t_readTable) (o_t_readWords) (o_t_readShorts) (o_t_readGuards) (o_t_toldOnes) (o_t_state) (o_t_isAwake) (o_t_sums) (o_t_tongue) (o_t_bestTable) (o_t_may) (o_t_mouth) (o_t_mouthThen) (o_t_isKept) (o_t_lanes) (o_t_lengths) (o_t_cells) (o_t_torn) t_words x2 _ h H.size) (cwV 1 hts (gdV (inR_46 (List.mem_of_getElem? (i := 5) rfl)) (inR_46 (List.mem_of_getElem? (i := 6) rfl)) (inR_46 (List.mem_of_getElem? (i := 7) rfl)) (inR_1 (List.mem_of_getElem? (i := 5) rfl)) (inR_46 (List.mem_of_getElem? (i := 8) rfl))) rfl rfl rfl hdX12_lettersOf ⟨Nat.le_of_ble_eq_true rfl, Nat.le_of_ble_eq_true rfl⟩) (k_preV (q0 := 0) hG hA hP hD hS [0, 2] rfl (by decide) rfl rfl) rfl rfl hl.1 rfl (lv_room (Nat.le_of_ble_eq_true rfl)) dX12_allLetters_17 ⟨Nat.zero_le _, Nat.zero_le _⟩) (fun r3 W' H locs h hP hD hS => ?_)
        obtain ⟨rfl, h⟩ := h
        have hP : va_P D vwCl [(a_t, .inr (12, [o_t_tape, o_t_taped, o_t_fault, o_t_broken, o_t_brokenAt, o_t_spot, o_t_here, o_t_token, o_t_value, o_t_cuts, o_t_letters, o_t_plain, .ref a_t_rules, .ref a_t_words, o_t_shorts, o_t_guards, o_t_readRules, o_t_readTable, o_t_readWords, o_t_readShorts, o_t_readGuards, o_t_toldOnes, o_t_state, o_t_isAwake, o_t_sums, o_t_tongue, o_t_bestTable, o_t_may, o_t_mouth, o_t_mouthThen, o_t_isKept, o_t_lanes, o_t_lengths, o_t_cells, o_t_torn])), (a_t_rules, .inl (g.1 1, 8, .inl t_rules)), (a_t_words, .inl (g.1 1, 100, .inl t_words))] H := hP.sub [1, 0, 2] rfl
        have hD : va_D A [(a_t, .inr (12, [o_t_tape, o_t_taped, o_t_fault, o_t_broken, o_t_brokenAt, o_t_spot, o_t_here, o_t_token, o_t_value, o_t_cuts, o_t_letters, o_t_plain, .ref a_t_rules, .ref a_t_words, o_t_shorts, o_t_guards, o_t_readRules, o_t_readTable, o_t_readWords, o_t_readShorts, o_t_readGuards, o_t_toldOnes, o_t_state, o_t_isAwake, o_t_sums, o_t_tongue, o_t_bestTable, o_t_may, o_t_mouth, o_t_mouthThen, o_t_isKept, o_t_lanes, o_t_lengths, o_t_cells, o_t_torn])), (a_t_rules, .inl (g.1 1, 8, .inl t_rules)), (a_t_words, .inl (g.1 1, 100, .inl t_words))] := hD.sub [1, 0, 2] (by decide) rfl
        refine lv_ior hx hb dX12_allLetters_20 ?_
        refine lv_istore_n (lv' := [(1, .int (x1 ||| r3)), (0, .ref a_t), (2, .int x2)]) hx hb dX12_allLetters_21 rfl hl (by decide) rfl (fun ls hl => ?_)
        refine lv_iinc (v := x2 + 1) (lv' := [(2, .int (x2 + 1)), (1, .int (x1 ||| r3)), (0, .ref a_t)]) hx hb dX12_allLetters_22 hl (k := 2) rfl rfl (by decide) rfl (fun ls hl => ?_)
        refine lv_goto (tgt := 4) hx hb dX12_allLetters_25 (by decide) ?_
        exact ih (x1 ||| r3) (x2 + 1) h _ _ hP hD hS _ (lv_sub hl [2, 1, 0] rfl)
  unfold wp_X12_allLetters at h
  try dsimp only at h
  refine lv_iconst (v := 0) hx hb dX12_allLetters_0 (by decide) ?_
  refine lv_istore_n (lv' := [(1, .int 0), (0, .ref a_t)]) hx hb dX12_allLetters_1 rfl hl (by decide) rfl (fun ls hl => ?_)
  refine lv_iconst (v := 0) hx hb dX12_allLetters_2 (by decide) ?_
  refine lv_istore_n (lv' := [(2, .int 0), (1, .int 0), (0, .ref a_t)]) hx hb dX12_allLetters_3 rfl hl (by decide) rfl (fun ls hl => ?_)
  obtain ⟨n9, h⟩ := h
  exact L4  n9 0 0 h _ _ hP hD hS _ (lv_sub hl [2, 1, 0] rfl)
theorem hdX12_bitsOf : yX12_bitsOf.cls = RX12 ∧ yX12_bitsOf.cls ≠ "java/lang/invoke/MethodHandle" ∧ yX12_bitsOf.cls ≠ "java/lang/invoke/VarHandle" ∧ (parseMethodDescriptor yX12_bitsOf.desc).map (fun d => d.parameters.length) = some 1 := by decide +kernel
abbrev rmX12_bitsOf : Room := { frames := 1, cells := 0, slots := 0, locals := 100 }
set_option maxHeartbeats 4000000 in
set_option maxRecDepth 100000 in
theorem c_X12_bitsOf (l : Launch) (D : va_G) (g : gE) (x0 : Int32) (post : Int32 → Prop) (h : wp_X12_bitsOf x0 post) : Ci l D g yX12_bitsOf (.code yX12_bitsOf cX12_bitsOf 3 (some .int) :: wsL_law) rmX12_bitsOf [.int x0] [] (fun r W' => W' = [] ∧ post r) := by
  refine Ci.of (cc := cX12_bitsOf) (maxL := 3) (by decide) rfl (Nat.le_of_ble_eq_true rfl) ?_
  intro p e s m args below meth c A Q hx hb hml hts hown hA H locs hP hD hS hG ls hl hret
  have hown : s.vm.findClass RX12 = some m.cls := hown
  have hl : lv_has ls 3 [(0, .int x0)] := hl
  have L4 : ∀ (x0 : Int32), ∀ (n : Nat) (x1 : Int32) (x2 : Int32), fixN (F_X12_bitsOf_4 x0 post) n (x1, x2) → ∀ (H : Heap) (locs : List Loc), va_P D vwCl [] H → va_D A [] → va_S A s.heap H locs → ∀ (ls : Array Slot), lv_has ls 3 [(0, .int x0), (1, .int x1), (2, .int x2)] → W p l e rmX12_bitsOf s m args below meth c H locs 0 0 Q (F0 m 4 ls []) := by
    intro x0
    intro n
    induction n with
    | zero => intro x1 x2 h; exact h.elim
    | succ n ih =>
      intro x1 x2 h H locs hP hD hS ls hl
      have h : F_X12_bitsOf_4 x0 post (fixN (F_X12_bitsOf_4 x0 post) n) (x1, x2) := h
      unfold F_X12_bitsOf_4 at h
      try dsimp only at h
      refine lv_iload_n hx hb dX12_bitsOf_4 rfl (lv_at hl 2 rfl) ?_
      refine lv_bipush (v := 26) hx hb dX12_bitsOf_5 (by decide) ?_
      refine lv_icmp_ge (tgt := 24) hx hb dX12_bitsOf_7 (by decide) (fun c1 => ?_) (fun c1 => ?_)
      · have h := h.1 c1
        refine lv_iload_n hx hb dX12_bitsOf_24 rfl (lv_at hl 1 rfl) ?_
        exact hret x1 _ _ _ _ _ ⟨rfl, h⟩ hP hD hS dX12_bitsOf_25
      · have h := h.2 c1
        refine lv_iload_n hx hb dX12_bitsOf_10 rfl (lv_at hl 1 rfl) ?_
        refine lv_iload_n hx hb dX12_bitsOf_11 rfl (lv_at hl 0 rfl) ?_
        refine lv_iload_n hx hb dX12_bitsOf_12 rfl (lv_at hl 2 rfl) ?_
        refine lv_ishr hx hb dX12_bitsOf_13 ?_
        refine lv_iconst (v := 1) hx hb dX12_bitsOf_14 (by decide) ?_
        refine lv_iand hx hb dX12_bitsOf_15 ?_
        refine lv_iadd hx hb dX12_bitsOf_16 ?_
        refine lv_istore_n (lv' := [(1, .int (x1 + ((x0 >>> (x2 &&& 31)) &&& 1))), (0, .int x0), (2, .int x2)]) hx hb dX12_bitsOf_17 rfl hl (by decide) rfl (fun ls hl => ?_)
        refine lv_iinc (v := x2 + 1) (lv' := [(2, .int (x2 + 1)), (1, .int (x1 + ((x0 >>> (x2 &&& 31)) &&& 1))), (0, .int x0)]) hx hb dX12_bitsOf_18 hl (k := 2) rfl rfl (by decide) rfl (fun ls hl => ?_)
        refine lv_goto (tgt := 4) hx hb dX12_bitsOf_21 (by decide) ?_
        exact ih (x1 + ((x0 >>> (x2 &&& 31)) &&& 1)) (x2 + 1) h _ _ hP hD hS _ (lv_sub hl [2, 1, 0] rfl)
  unfold wp_X12_bitsOf at h
  try dsimp only at h
  refine lv_iconst (v := 0) hx hb dX12_bitsOf_0 (by decide) ?_
  refine lv_istore_n (lv' := [(1, .int 0), (0, .int x0)]) hx hb dX12_bitsOf_1 rfl hl (by decide) rfl (fun ls hl => ?_)
  refine lv_iconst (v := 0) hx hb dX12_bitsOf_2 (by decide) ?_
  refine lv_istore_n (lv' := [(2, .int 0), (1, .int 0), (0, .int x0)]) hx hb dX12_bitsOf_3 rfl hl (by decide) rfl (fun ls hl => ?_)
  obtain ⟨n9, h⟩ := h
  exact L4 x0 n9 0 0 h _ _ hP hD hS _ (lv_sub hl [2, 1, 0] rfl)
theorem hdX12_teach : yX12_teach.cls = RX12 ∧ yX12_teach.cls ≠ "java/lang/invoke/MethodHandle" ∧ yX12_teach.cls ≠ "java/lang/invoke/VarHandle" ∧ (parseMethodDescriptor yX12_teach.desc).map (fun d => d.parameters.length) = some 1 := by decide +kernel
abbrev rmX12_teach : Room := { frames := 4, cells := 0, slots := 0, locals := 400 }
set_option maxHeartbeats 4000000 in
set_option maxRecDepth 100000 in
theorem c_X12_teach (l : Launch) (D : va_G) (g : gE) (a_t : Nat) (a_t_state : Nat) (a_t_rules : Nat) (a_t_words : Nat) (o_t_tape : Value) (o_t_taped : Value) (o_t_fault : Value) (o_t_broken : Value) (o_t_brokenAt : Value) (o_t_spot : Value) (o_t_here : Value) (o_t_token : Value) (o_t_value : Value) (o_t_cuts : Value) (o_t_letters : Value) (o_t_plain : Value) (o_t_shorts : Value) (o_t_guards : Value) (o_t_readRules : Value) (o_t_readTable : Value) (o_t_readWords : Value) (o_t_readShorts : Value) (o_t_readGuards : Value) (o_t_toldOnes : Value) (o_t_sums : Value) (o_t_tongue : Value) (o_t_bestTable : Value) (o_t_may : Value) (o_t_mouth : Value) (o_t_mouthThen : Value) (o_t_isKept : Value) (o_t_lanes : Value) (o_t_lengths : Value) (o_t_cells : Value) (o_t_torn : Value) (t_isAwake : Int32) (t_state : Nat → Int32) (t_rules : Nat → Int32) (t_words : Nat → Int32) (x1 : Int32) (post : Int32 → Int32 → (Nat → Int32) → Prop) (h : wp_X12_teach t_isAwake t_state t_rules t_words x1 post) : Ci l D g yX12_teach (.code yX12_teach cX12_teach 9 (some .int) :: wsL_law) rmX12_teach [.ref a_t, .int x1] [(a_t, .inr (12, [o_t_tape, o_t_taped, o_t_fault, o_t_broken, o_t_brokenAt, o_t_spot, o_t_here, o_t_token, o_t_value, o_t_cuts, o_t_letters, o_t_plain, .ref a_t_rules, .ref a_t_words, o_t_shorts, o_t_guards, o_t_readRules, o_t_readTable, o_t_readWords, o_t_readShorts, o_t_readGuards, o_t_toldOnes, .ref a_t_state, .int t_isAwake, o_t_sums, o_t_tongue, o_t_bestTable, o_t_may, o_t_mouth, o_t_mouthThen, o_t_isKept, o_t_lanes, o_t_lengths, o_t_cells, o_t_torn])), (a_t_state, .inl (g.1 1, 192, .inl t_state)), (a_t_rules, .inl (g.1 1, 8, .inl t_rules)), (a_t_words, .inl (g.1 1, 100, .inl t_words))] (fun r W' => ∃ (nw_t_isAwake : Int32) (nw_t_state : Nat → Int32), W' = [(a_t, .inr (12, [o_t_tape, o_t_taped, o_t_fault, o_t_broken, o_t_brokenAt, o_t_spot, o_t_here, o_t_token, o_t_value, o_t_cuts, o_t_letters, o_t_plain, .ref a_t_rules, .ref a_t_words, o_t_shorts, o_t_guards, o_t_readRules, o_t_readTable, o_t_readWords, o_t_readShorts, o_t_readGuards, o_t_toldOnes, .ref a_t_state, .int nw_t_isAwake, o_t_sums, o_t_tongue, o_t_bestTable, o_t_may, o_t_mouth, o_t_mouthThen, o_t_isKept, o_t_lanes, o_t_lengths, o_t_cells, o_t_torn])), (a_t_state, .inl (g.1 1, 192, .inl nw_t_state)), (a_t_rules, .inl (g.1 1, 8, .inl t_rules)), (a_t_words, .inl (g.1 1, 100, .inl t_words))] ∧ post r nw_t_isAwake nw_t_state) := by
  refine Ci.of (cc := cX12_teach) (maxL := 9) (by decide) rfl (Nat.le_of_ble_eq_true rfl) ?_
  intro p e s m args below meth c A Q hx hb hml hts hown hA H locs hP hD hS hG ls hl hret
  have hown : s.vm.findClass RX12 = some m.cls := hown
  have hl : lv_has ls 9 [(0, .ref a_t), (1, .int x1)] := hl
  have lk0 := hts (.constantLong RX12 290 (2)) (List.mem_cons_of_mem _ (inR_43 (List.mem_of_getElem? (i := 8) rfl)))
  have lk1 := hts (.fieldLink RX12 22 "KnockWallModel" "rules" "[I") (List.mem_cons_of_mem _ (inR_8 (List.mem_of_getElem? (i := 5) rfl)))
  have L142 : ∀ (x1 : Int32) (x2 : Int32) (x3 : Int32) (x4 : Int32) (x5 : Int32) (x6 : Int32) (x7 : Int32) (t_isAwake : Int32) (t_state : Nat → Int32) (z0 : Int32) (K_32 : (Int32 × Int32 × Int32) → Prop) (hK_32 : ∀ (x3 : Int32) (x4 : Int32) (x5 : Int32), K_32 (x3, x4, x5) → ∀ (H : Heap) (locs : List Loc), va_P D vwCl [(a_t, .inr (12, [o_t_tape, o_t_taped, o_t_fault, o_t_broken, o_t_brokenAt, o_t_spot, o_t_here, o_t_token, o_t_value, o_t_cuts, o_t_letters, o_t_plain, .ref a_t_rules, .ref a_t_words, o_t_shorts, o_t_guards, o_t_readRules, o_t_readTable, o_t_readWords, o_t_readShorts, o_t_readGuards, o_t_toldOnes, .ref a_t_state, .int t_isAwake, o_t_sums, o_t_tongue, o_t_bestTable, o_t_may, o_t_mouth, o_t_mouthThen, o_t_isKept, o_t_lanes, o_t_lengths, o_t_cells, o_t_torn])), (a_t_state, .inl (g.1 1, 192, .inl t_state)), (a_t_rules, .inl (g.1 1, 8, .inl t_rules)), (a_t_words, .inl (g.1 1, 100, .inl t_words))] H → va_D A [(a_t, .inr (12, [o_t_tape, o_t_taped, o_t_fault, o_t_broken, o_t_brokenAt, o_t_spot, o_t_here, o_t_token, o_t_value, o_t_cuts, o_t_letters, o_t_plain, .ref a_t_rules, .ref a_t_words, o_t_shorts, o_t_guards, o_t_readRules, o_t_readTable, o_t_readWords, o_t_readShorts, o_t_readGuards, o_t_toldOnes, .ref a_t_state, .int t_isAwake, o_t_sums, o_t_tongue, o_t_bestTable, o_t_may, o_t_mouth, o_t_mouthThen, o_t_isKept, o_t_lanes, o_t_lengths, o_t_cells, o_t_torn])), (a_t_state, .inl (g.1 1, 192, .inl t_state)), (a_t_rules, .inl (g.1 1, 8, .inl t_rules)), (a_t_words, .inl (g.1 1, 100, .inl t_words))] → va_S A s.heap H locs → ∀ (ls : Array Slot), lv_has ls 9 [(0, .ref a_t), (1, .int x1), (2, .int x2), (3, .int x3), (4, .int x4), (5, .int x5)] → W p l e rmX12_teach s m args below meth c H locs 0 0 Q (F0 m 32 ls [])), B_X12_teach_142 x2 x3 x4 x5 x6 x7 z0 K_32 → ∀ (H : Heap) (locs : List Loc), va_P D vwCl [(a_t, .inr (12, [o_t_tape, o_t_taped, o_t_fault, o_t_broken, o_t_brokenAt, o_t_spot, o_t_here, o_t_token, o_t_value, o_t_cuts, o_t_letters, o_t_plain, .ref a_t_rules, .ref a_t_words, o_t_shorts, o_t_guards, o_t_readRules, o_t_readTable, o_t_readWords, o_t_readShorts, o_t_readGuards, o_t_toldOnes, .ref a_t_state, .int t_isAwake, o_t_sums, o_t_tongue, o_t_bestTable, o_t_may, o_t_mouth, o_t_mouthThen, o_t_isKept, o_t_lanes, o_t_lengths, o_t_cells, o_t_torn])), (a_t_state, .inl (g.1 1, 192, .inl t_state)), (a_t_rules, .inl (g.1 1, 8, .inl t_rules)), (a_t_words, .inl (g.1 1, 100, .inl t_words))] H → va_D A [(a_t, .inr (12, [o_t_tape, o_t_taped, o_t_fault, o_t_broken, o_t_brokenAt, o_t_spot, o_t_here, o_t_token, o_t_value, o_t_cuts, o_t_letters, o_t_plain, .ref a_t_rules, .ref a_t_words, o_t_shorts, o_t_guards, o_t_readRules, o_t_readTable, o_t_readWords, o_t_readShorts, o_t_readGuards, o_t_toldOnes, .ref a_t_state, .int t_isAwake, o_t_sums, o_t_tongue, o_t_bestTable, o_t_may, o_t_mouth, o_t_mouthThen, o_t_isKept, o_t_lanes, o_t_lengths, o_t_cells, o_t_torn])), (a_t_state, .inl (g.1 1, 192, .inl t_state)), (a_t_rules, .inl (g.1 1, 8, .inl t_rules)), (a_t_words, .inl (g.1 1, 100, .inl t_words))] → va_S A s.heap H locs → ∀ (ls : Array Slot), lv_has ls 9 [(0, .ref a_t), (1, .int x1), (2, .int x2), (3, .int x3), (4, .int x4), (5, .int x5), (6, .int x6), (7, .int x7)] → W p l e rmX12_teach s m args below meth c H locs 0 0 Q (F0 m 142 ls [.int z0]) := by
    intro x1 x2 x3 x4 x5 x6 x7 t_isAwake t_state z0 K_32 hK_32
    intro h H locs hP hD hS ls hl
    unfold B_X12_teach_142 at h
    try dsimp only at h
    refine lv_istore (lv' := [(8, .int z0), (0, .ref a_t), (1, .int x1), (2, .int x2), (3, .int x3), (4, .int x4), (5, .int x5), (6, .int x6), (7, .int x7)]) hx hb dX12_teach_142 hl (by decide) rfl (fun ls hl => ?_)
    refine lv_iload hx hb dX12_teach_144 (lv_at hl 7 rfl) ?_
    refine lv_iload_n hx hb dX12_teach_146 rfl (lv_at hl 3 rfl) ?_
    refine lv_icmp_ne (tgt := 162) hx hb dX12_teach_147 (by decide) (fun c13 => ?_) (fun c13 => ?_)
    · have h := h.1 c13
      refine lv_iinc (v := x5 + 1) (lv' := [(5, .int (x5 + 1)), (8, .int z0), (0, .ref a_t), (1, .int x1), (2, .int x2), (3, .int x3), (4, .int x4), (6, .int x6), (7, .int x7)]) hx hb dX12_teach_162 hl (k := 6) rfl rfl (by decide) rfl (fun ls hl => ?_)
      refine lv_goto (tgt := 32) hx hb dX12_teach_165 (by decide) ?_
      exact hK_32 x3 x4 (x5 + 1) h _ _ hP hD hS _ (lv_sub hl [2, 3, 4, 5, 6, 0] rfl)
    · have h := h.2 c13
      refine lv_iload hx hb dX12_teach_150 (lv_at hl 0 rfl) ?_
      refine lv_if_eq (tgt := 162) hx hb dX12_teach_152 (by decide) (fun c14 => ?_) (fun c14 => ?_)
      · have h := h.1 c14
        refine lv_iinc (v := x5 + 1) (lv' := [(5, .int (x5 + 1)), (8, .int z0), (0, .ref a_t), (1, .int x1), (2, .int x2), (3, .int x3), (4, .int x4), (6, .int x6), (7, .int x7)]) hx hb dX12_teach_162 hl (k := 6) rfl rfl (by decide) rfl (fun ls hl => ?_)
        refine lv_goto (tgt := 32) hx hb dX12_teach_165 (by decide) ?_
        exact hK_32 x3 x4 (x5 + 1) h _ _ hP hD hS _ (lv_sub hl [2, 3, 4, 5, 6, 0] rfl)
      · have h := h.2 c14
        refine lv_iload hx hb dX12_teach_155 (lv_at hl 6 rfl) ?_
        refine lv_istore_n (lv' := [(3, .int x5), (8, .int z0), (0, .ref a_t), (1, .int x1), (2, .int x2), (4, .int x4), (5, .int x5), (6, .int x6), (7, .int x7)]) hx hb dX12_teach_157 rfl hl (by decide) rfl (fun ls hl => ?_)
        refine lv_iload hx hb dX12_teach_158 (lv_at hl 8 rfl) ?_
        refine lv_istore (lv' := [(4, .int x7), (3, .int x5), (8, .int z0), (0, .ref a_t), (1, .int x1), (2, .int x2), (5, .int x5), (6, .int x6), (7, .int x7)]) hx hb dX12_teach_160 hl (by decide) rfl (fun ls hl => ?_)
        refine lv_iinc (v := x5 + 1) (lv' := [(5, .int (x5 + 1)), (4, .int x7), (3, .int x5), (8, .int z0), (0, .ref a_t), (1, .int x1), (2, .int x2), (6, .int x6), (7, .int x7)]) hx hb dX12_teach_162 hl (k := 6) rfl rfl (by decide) rfl (fun ls hl => ?_)
        refine lv_goto (tgt := 32) hx hb dX12_teach_165 (by decide) ?_
        exact hK_32 x5 x7 (x5 + 1) h _ _ hP hD hS _ (lv_sub hl [4, 5, 6, 2, 1, 0] rfl)
  have L137 : ∀ (x1 : Int32) (x2 : Int32) (x3 : Int32) (x4 : Int32) (x5 : Int32) (x6 : Int32) (x7 : Int32) (t_isAwake : Int32) (t_state : Nat → Int32) (K_32 : (Int32 × Int32 × Int32) → Prop) (hK_32 : ∀ (x3 : Int32) (x4 : Int32) (x5 : Int32), K_32 (x3, x4, x5) → ∀ (H : Heap) (locs : List Loc), va_P D vwCl [(a_t, .inr (12, [o_t_tape, o_t_taped, o_t_fault, o_t_broken, o_t_brokenAt, o_t_spot, o_t_here, o_t_token, o_t_value, o_t_cuts, o_t_letters, o_t_plain, .ref a_t_rules, .ref a_t_words, o_t_shorts, o_t_guards, o_t_readRules, o_t_readTable, o_t_readWords, o_t_readShorts, o_t_readGuards, o_t_toldOnes, .ref a_t_state, .int t_isAwake, o_t_sums, o_t_tongue, o_t_bestTable, o_t_may, o_t_mouth, o_t_mouthThen, o_t_isKept, o_t_lanes, o_t_lengths, o_t_cells, o_t_torn])), (a_t_state, .inl (g.1 1, 192, .inl t_state)), (a_t_rules, .inl (g.1 1, 8, .inl t_rules)), (a_t_words, .inl (g.1 1, 100, .inl t_words))] H → va_D A [(a_t, .inr (12, [o_t_tape, o_t_taped, o_t_fault, o_t_broken, o_t_brokenAt, o_t_spot, o_t_here, o_t_token, o_t_value, o_t_cuts, o_t_letters, o_t_plain, .ref a_t_rules, .ref a_t_words, o_t_shorts, o_t_guards, o_t_readRules, o_t_readTable, o_t_readWords, o_t_readShorts, o_t_readGuards, o_t_toldOnes, .ref a_t_state, .int t_isAwake, o_t_sums, o_t_tongue, o_t_bestTable, o_t_may, o_t_mouth, o_t_mouthThen, o_t_isKept, o_t_lanes, o_t_lengths, o_t_cells, o_t_torn])), (a_t_state, .inl (g.1 1, 192, .inl t_state)), (a_t_rules, .inl (g.1 1, 8, .inl t_rules)), (a_t_words, .inl (g.1 1, 100, .inl t_words))] → va_S A s.heap H locs → ∀ (ls : Array Slot), lv_has ls 9 [(0, .ref a_t), (1, .int x1), (2, .int x2), (3, .int x3), (4, .int x4), (5, .int x5)] → W p l e rmX12_teach s m args below meth c H locs 0 0 Q (F0 m 32 ls [])), B_X12_teach_137 x2 x3 x4 x5 x6 x7 K_32 → ∀ (H : Heap) (locs : List Loc), va_P D vwCl [(a_t, .inr (12, [o_t_tape, o_t_taped, o_t_fault, o_t_broken, o_t_brokenAt, o_t_spot, o_t_here, o_t_token, o_t_value, o_t_cuts, o_t_letters, o_t_plain, .ref a_t_rules, .ref a_t_words, o_t_shorts, o_t_guards, o_t_readRules, o_t_readTable, o_t_readWords, o_t_readShorts, o_t_readGuards, o_t_toldOnes, .ref a_t_state, .int t_isAwake, o_t_sums, o_t_tongue, o_t_bestTable, o_t_may, o_t_mouth, o_t_mouthThen, o_t_isKept, o_t_lanes, o_t_lengths, o_t_cells, o_t_torn])), (a_t_state, .inl (g.1 1, 192, .inl t_state)), (a_t_rules, .inl (g.1 1, 8, .inl t_rules)), (a_t_words, .inl (g.1 1, 100, .inl t_words))] H → va_D A [(a_t, .inr (12, [o_t_tape, o_t_taped, o_t_fault, o_t_broken, o_t_brokenAt, o_t_spot, o_t_here, o_t_token, o_t_value, o_t_cuts, o_t_letters, o_t_plain, .ref a_t_rules, .ref a_t_words, o_t_shorts, o_t_guards, o_t_readRules, o_t_readTable, o_t_readWords, o_t_readShorts, o_t_readGuards, o_t_toldOnes, .ref a_t_state, .int t_isAwake, o_t_sums, o_t_tongue, o_t_bestTable, o_t_may, o_t_mouth, o_t_mouthThen, o_t_isKept, o_t_lanes, o_t_lengths, o_t_cells, o_t_torn])), (a_t_state, .inl (g.1 1, 192, .inl t_state)), (a_t_rules, .inl (g.1 1, 8, .inl t_rules)), (a_t_words, .inl (g.1 1, 100, .inl t_words))] → va_S A s.heap H locs → ∀ (ls : Array Slot), lv_has ls 9 [(0, .ref a_t), (1, .int x1), (2, .int x2), (3, .int x3), (4, .int x4), (5, .int x5), (6, .int x6), (7, .int x7)] → W p l e rmX12_teach s m args below meth c H locs 0 0 Q (F0 m 137 ls []) := by
    intro x1 x2 x3 x4 x5 x6 x7 t_isAwake t_state K_32 hK_32
    intro h H locs hP hD hS ls hl
    unfold B_X12_teach_137 at h
    try dsimp only at h
    refine lv_iconst (v := 1) hx hb dX12_teach_137 (by decide) ?_
    refine lv_goto (tgt := 142) hx hb dX12_teach_138 (by decide) ?_
    exact L142 x1 x2 x3 x4 x5 x6 x7 t_isAwake t_state 1 _ hK_32 h _ _ hP hD hS _ (lv_sub hl [0, 1, 2, 3, 4, 5, 6, 7] rfl)
  have L141 : ∀ (x1 : Int32) (x2 : Int32) (x3 : Int32) (x4 : Int32) (x5 : Int32) (x6 : Int32) (x7 : Int32) (t_isAwake : Int32) (t_state : Nat → Int32) (K_32 : (Int32 × Int32 × Int32) → Prop) (hK_32 : ∀ (x3 : Int32) (x4 : Int32) (x5 : Int32), K_32 (x3, x4, x5) → ∀ (H : Heap) (locs : List Loc), va_P D vwCl [(a_t, .inr (12, [o_t_tape, o_t_taped, o_t_fault, o_t_broken, o_t_brokenAt, o_t_spot, o_t_here, o_t_token, o_t_value, o_t_cuts, o_t_letters, o_t_plain, .ref a_t_rules, .ref a_t_words, o_t_shorts, o_t_guards, o_t_readRules, o_t_readTable, o_t_readWords, o_t_readShorts, o_t_readGuards, o_t_toldOnes, .ref a_t_state, .int t_isAwake, o_t_sums, o_t_tongue, o_t_bestTable, o_t_may, o_t_mouth, o_t_mouthThen, o_t_isKept, o_t_lanes, o_t_lengths, o_t_cells, o_t_torn])), (a_t_state, .inl (g.1 1, 192, .inl t_state)), (a_t_rules, .inl (g.1 1, 8, .inl t_rules)), (a_t_words, .inl (g.1 1, 100, .inl t_words))] H → va_D A [(a_t, .inr (12, [o_t_tape, o_t_taped, o_t_fault, o_t_broken, o_t_brokenAt, o_t_spot, o_t_here, o_t_token, o_t_value, o_t_cuts, o_t_letters, o_t_plain, .ref a_t_rules, .ref a_t_words, o_t_shorts, o_t_guards, o_t_readRules, o_t_readTable, o_t_readWords, o_t_readShorts, o_t_readGuards, o_t_toldOnes, .ref a_t_state, .int t_isAwake, o_t_sums, o_t_tongue, o_t_bestTable, o_t_may, o_t_mouth, o_t_mouthThen, o_t_isKept, o_t_lanes, o_t_lengths, o_t_cells, o_t_torn])), (a_t_state, .inl (g.1 1, 192, .inl t_state)), (a_t_rules, .inl (g.1 1, 8, .inl t_rules)), (a_t_words, .inl (g.1 1, 100, .inl t_words))] → va_S A s.heap H locs → ∀ (ls : Array Slot), lv_has ls 9 [(0, .ref a_t), (1, .int x1), (2, .int x2), (3, .int x3), (4, .int x4), (5, .int x5)] → W p l e rmX12_teach s m args below meth c H locs 0 0 Q (F0 m 32 ls [])), B_X12_teach_141 x2 x3 x4 x5 x6 x7 K_32 → ∀ (H : Heap) (locs : List Loc), va_P D vwCl [(a_t, .inr (12, [o_t_tape, o_t_taped, o_t_fault, o_t_broken, o_t_brokenAt, o_t_spot, o_t_here, o_t_token, o_t_value, o_t_cuts, o_t_letters, o_t_plain, .ref a_t_rules, .ref a_t_words, o_t_shorts, o_t_guards, o_t_readRules, o_t_readTable, o_t_readWords, o_t_readShorts, o_t_readGuards, o_t_toldOnes, .ref a_t_state, .int t_isAwake, o_t_sums, o_t_tongue, o_t_bestTable, o_t_may, o_t_mouth, o_t_mouthThen, o_t_isKept, o_t_lanes, o_t_lengths, o_t_cells, o_t_torn])), (a_t_state, .inl (g.1 1, 192, .inl t_state)), (a_t_rules, .inl (g.1 1, 8, .inl t_rules)), (a_t_words, .inl (g.1 1, 100, .inl t_words))] H → va_D A [(a_t, .inr (12, [o_t_tape, o_t_taped, o_t_fault, o_t_broken, o_t_brokenAt, o_t_spot, o_t_here, o_t_token, o_t_value, o_t_cuts, o_t_letters, o_t_plain, .ref a_t_rules, .ref a_t_words, o_t_shorts, o_t_guards, o_t_readRules, o_t_readTable, o_t_readWords, o_t_readShorts, o_t_readGuards, o_t_toldOnes, .ref a_t_state, .int t_isAwake, o_t_sums, o_t_tongue, o_t_bestTable, o_t_may, o_t_mouth, o_t_mouthThen, o_t_isKept, o_t_lanes, o_t_lengths, o_t_cells, o_t_torn])), (a_t_state, .inl (g.1 1, 192, .inl t_state)), (a_t_rules, .inl (g.1 1, 8, .inl t_rules)), (a_t_words, .inl (g.1 1, 100, .inl t_words))] → va_S A s.heap H locs → ∀ (ls : Array Slot), lv_has ls 9 [(0, .ref a_t), (1, .int x1), (2, .int x2), (3, .int x3), (4, .int x4), (5, .int x5), (6, .int x6), (7, .int x7)] → W p l e rmX12_teach s m args below meth c H locs 0 0 Q (F0 m 141 ls []) := by
    intro x1 x2 x3 x4 x5 x6 x7 t_isAwake t_state K_32 hK_32
    intro h H locs hP hD hS ls hl
    unfold B_X12_teach_141 at h
    try dsimp only at h
    refine lv_iconst (v := 0) hx hb dX12_teach_141 (by decide) ?_
    exact L142 x1 x2 x3 x4 x5 x6 x7 t_isAwake t_state 0 _ hK_32 h _ _ hP hD hS _ (lv_sub hl [0, 1, 2, 3, 4, 5, 6, 7] rfl)
  have L54 : ∀ (x1 : Int32) (x2 : Int32) (x3 : Int32) (x4 : Int32) (x5 : Int32) (t_isAwake : Int32) (t_state : Nat → Int32) (K_32 : (Int32 × Int32 × Int32) → Prop) (hK_32 : ∀ (x3 : Int32) (x4 : Int32) (x5 : Int32), K_32 (x3, x4, x5) → ∀ (H : Heap) (locs : List Loc), va_P D vwCl [(a_t, .inr (12, [o_t_tape, o_t_taped, o_t_fault, o_t_broken, o_t_brokenAt, o_t_spot, o_t_here, o_t_token, o_t_value, o_t_cuts, o_t_letters, o_t_plain, .ref a_t_rules, .ref a_t_words, o_t_shorts, o_t_guards, o_t_readRules, o_t_readTable, o_t_readWords, o_t_readShorts, o_t_readGuards, o_t_toldOnes, .ref a_t_state, .int t_isAwake, o_t_sums, o_t_tongue, o_t_bestTable, o_t_may, o_t_mouth, o_t_mouthThen, o_t_isKept, o_t_lanes, o_t_lengths, o_t_cells, o_t_torn])), (a_t_state, .inl (g.1 1, 192, .inl t_state)), (a_t_rules, .inl (g.1 1, 8, .inl t_rules)), (a_t_words, .inl (g.1 1, 100, .inl t_words))] H → va_D A [(a_t, .inr (12, [o_t_tape, o_t_taped, o_t_fault, o_t_broken, o_t_brokenAt, o_t_spot, o_t_here, o_t_token, o_t_value, o_t_cuts, o_t_letters, o_t_plain, .ref a_t_rules, .ref a_t_words, o_t_shorts, o_t_guards, o_t_readRules, o_t_readTable, o_t_readWords, o_t_readShorts, o_t_readGuards, o_t_toldOnes, .ref a_t_state, .int t_isAwake, o_t_sums, o_t_tongue, o_t_bestTable, o_t_may, o_t_mouth, o_t_mouthThen, o_t_isKept, o_t_lanes, o_t_lengths, o_t_cells, o_t_torn])), (a_t_state, .inl (g.1 1, 192, .inl t_state)), (a_t_rules, .inl (g.1 1, 8, .inl t_rules)), (a_t_words, .inl (g.1 1, 100, .inl t_words))] → va_S A s.heap H locs → ∀ (ls : Array Slot), lv_has ls 9 [(0, .ref a_t), (1, .int x1), (2, .int x2), (3, .int x3), (4, .int x4), (5, .int x5)] → W p l e rmX12_teach s m args below meth c H locs 0 0 Q (F0 m 32 ls [])), ∀ (n : Nat) (x6 : Int32) (x7 : Int32) (x8 : Int32), fixN (F_X12_teach_54 t_rules t_words x2 x3 x4 x5 t_state K_32) n (x6, x7, x8) → ∀ (H : Heap) (locs : List Loc), va_P D vwCl [(a_t, .inr (12, [o_t_tape, o_t_taped, o_t_fault, o_t_broken, o_t_brokenAt, o_t_spot, o_t_here, o_t_token, o_t_value, o_t_cuts, o_t_letters, o_t_plain, .ref a_t_rules, .ref a_t_words, o_t_shorts, o_t_guards, o_t_readRules, o_t_readTable, o_t_readWords, o_t_readShorts, o_t_readGuards, o_t_toldOnes, .ref a_t_state, .int t_isAwake, o_t_sums, o_t_tongue, o_t_bestTable, o_t_may, o_t_mouth, o_t_mouthThen, o_t_isKept, o_t_lanes, o_t_lengths, o_t_cells, o_t_torn])), (a_t_state, .inl (g.1 1, 192, .inl t_state)), (a_t_rules, .inl (g.1 1, 8, .inl t_rules)), (a_t_words, .inl (g.1 1, 100, .inl t_words))] H → va_D A [(a_t, .inr (12, [o_t_tape, o_t_taped, o_t_fault, o_t_broken, o_t_brokenAt, o_t_spot, o_t_here, o_t_token, o_t_value, o_t_cuts, o_t_letters, o_t_plain, .ref a_t_rules, .ref a_t_words, o_t_shorts, o_t_guards, o_t_readRules, o_t_readTable, o_t_readWords, o_t_readShorts, o_t_readGuards, o_t_toldOnes, .ref a_t_state, .int t_isAwake, o_t_sums, o_t_tongue, o_t_bestTable, o_t_may, o_t_mouth, o_t_mouthThen, o_t_isKept, o_t_lanes, o_t_lengths, o_t_cells, o_t_torn])), (a_t_state, .inl (g.1 1, 192, .inl t_state)), (a_t_rules, .inl (g.1 1, 8, .inl t_rules)), (a_t_words, .inl (g.1 1, 100, .inl t_words))] → va_S A s.heap H locs → ∀ (ls : Array Slot), lv_has ls 9 [(0, .ref a_t), (1, .int x1), (2, .int x2), (3, .int x3), (4, .int x4), (5, .int x5), (6, .int x6), (7, .int x7), (8, .int x8)] → W p l e rmX12_teach s m args below meth c H locs 0 0 Q (F0 m 54 ls []) := by
    intro x1 x2 x3 x4 x5 t_isAwake t_state K_32 hK_32
    intro n
    induction n with
    | zero => intro x6 x7 x8 h; exact h.elim
    | succ n ih =>
      intro x6 x7 x8 h H locs hP hD hS ls hl
      have h : F_X12_teach_54 t_rules t_words x2 x3 x4 x5 t_state K_32 (fixN (F_X12_teach_54 t_rules t_words x2 x3 x4 x5 t_state K_32) n) (x6, x7, x8) := h
      unfold F_X12_teach_54 at h
      try dsimp only at h
      refine lv_iload hx hb dX12_teach_54 (lv_at hl 8 rfl) ?_
      refine lv_aload_n hx hb dX12_teach_56 rfl (lv_at hl 0 rfl) ?_
      refine va_get (ci := 12) (v := .ref a_t_rules) (C := RX12) (T := TX12) (N := 35) hx hb hts icX12 hown hG.k hP 0 rfl rfl 12 (by decide) lk1 (fun _ h9 => h9) rfl dX12_teach_57 ?_
      refine lv_iconst (v := 5) hx hb dX12_teach_60 (by decide) ?_
      obtain ⟨hv10, h⟩ := h
      refine va_iald hx hb hG.k hP 2 1 rfl rfl hv10 dX12_teach_61 ?_
      refine lv_icmp_ge (tgt := 104) hx hb dX12_teach_62 (by decide) (fun c11 => ?_) (fun c11 => ?_)
      · have h := h.1 c11
        refine lv_iload hx hb dX12_teach_104 (lv_at hl 4 rfl) ?_
        refine lv_bipush (v := (-4)) hx hb dX12_teach_106 (by decide) ?_
        refine lv_icmp_eq (tgt := 137) hx hb dX12_teach_108 (by decide) (fun c12 => ?_) (fun c12 => ?_)
        · have h := h.1 c12
          exact L137 x1 x2 x3 x4 x5 x6 x7 t_isAwake t_state _ hK_32 h _ _ hP hD hS _ (lv_sub hl [0, 1, 2, 3, 4, 5, 6, 7] rfl)
        · have h := h.2 c12
          refine lv_iload hx hb dX12_teach_111 (lv_at hl 7 rfl) ?_
          refine lv_iload hx hb dX12_teach_113 (lv_at hl 4 rfl) ?_
          refine lv_icmp_lt (tgt := 137) hx hb dX12_teach_115 (by decide) (fun c15 => ?_) (fun c15 => ?_)
          · have h := h.1 c15
            exact L137 x1 x2 x3 x4 x5 x6 x7 t_isAwake t_state _ hK_32 h _ _ hP hD hS _ (lv_sub hl [0, 1, 2, 3, 4, 5, 6, 7] rfl)
          · have h := h.2 c15
            refine lv_iload hx hb dX12_teach_118 (lv_at hl 7 rfl) ?_
            refine lv_iload hx hb dX12_teach_120 (lv_at hl 4 rfl) ?_
            refine lv_icmp_ne (tgt := 141) hx hb dX12_teach_122 (by decide) (fun c16 => ?_) (fun c16 => ?_)
            · have h := h.1 c16
              exact L141 x1 x2 x3 x4 x5 x6 x7 t_isAwake t_state _ hK_32 h _ _ hP hD hS _ (lv_sub hl [0, 1, 2, 3, 4, 5, 6, 7] rfl)
            · have h := h.2 c16
              refine lv_iload hx hb dX12_teach_125 (lv_at hl 5 rfl) ?_
              refine k_i (wr := [(a_t, .inr (12, [o_t_tape, o_t_taped, o_t_fault, o_t_broken, o_t_brokenAt, o_t_spot, o_t_here, o_t_token, o_t_value, o_t_cuts, o_t_letters, o_t_plain, .ref a_t_rules, .ref a_t_words, o_t_shorts, o_t_guards, o_t_readRules, o_t_readTable, o_t_readWords, o_t_readShorts, o_t_readGuards, o_t_toldOnes, .ref a_t_state, .int t_isAwake, o_t_sums, o_t_tongue, o_t_bestTable, o_t_may, o_t_mouth, o_t_mouthThen, o_t_isKept, o_t_lanes, o_t_lengths, o_t_cells, o_t_torn])), (a_t_state, .inl (g.1 1, 192, .inl t_state)), (a_t_rules, .inl (g.1 1, 8, .inl t_rules)), (a_t_words, .inl (g.1 1, 100, .inl t_words))]) hA hP hD hS [] [0, 1, 2, 3] rfl rfl (by decide) (by decide) (va_runS (As := [.int x5]) (rest := []) ⟨hx, hb, hml, hown, hts⟩ (c_X12_bitsOf l D g x5 _ h H.size) (va_cwS 1 hts (gdS (inR_46 (List.mem_of_getElem? (i := 9) rfl)) (inR_46 (List.mem_of_getElem? (i := 10) rfl)) (inR_1 (List.mem_of_getElem? (i := 5) rfl)) (inR_46 (List.mem_of_getElem? (i := 11) rfl))) rfl rfl rfl hdX12_bitsOf.2 ⟨Nat.le_of_ble_eq_true rfl, Nat.le_of_ble_eq_true rfl⟩) (k_preS hG hA hP hD hS [] rfl (by decide)) rfl rfl hl.1 rfl (lv_room (Nat.le_of_ble_eq_true rfl)) dX12_teach_127 ⟨Nat.zero_le _, Nat.zero_le _⟩) (fun r17 W' H locs h hP hD hS => ?_)
              obtain ⟨rfl, h⟩ := h
              have hP : va_P D vwCl [(a_t, .inr (12, [o_t_tape, o_t_taped, o_t_fault, o_t_broken, o_t_brokenAt, o_t_spot, o_t_here, o_t_token, o_t_value, o_t_cuts, o_t_letters, o_t_plain, .ref a_t_rules, .ref a_t_words, o_t_shorts, o_t_guards, o_t_readRules, o_t_readTable, o_t_readWords, o_t_readShorts, o_t_readGuards, o_t_toldOnes, .ref a_t_state, .int t_isAwake, o_t_sums, o_t_tongue, o_t_bestTable, o_t_may, o_t_mouth, o_t_mouthThen, o_t_isKept, o_t_lanes, o_t_lengths, o_t_cells, o_t_torn])), (a_t_state, .inl (g.1 1, 192, .inl t_state)), (a_t_rules, .inl (g.1 1, 8, .inl t_rules)), (a_t_words, .inl (g.1 1, 100, .inl t_words))] H := hP.sub [0, 1, 2, 3] rfl
              have hD : va_D A [(a_t, .inr (12, [o_t_tape, o_t_taped, o_t_fault, o_t_broken, o_t_brokenAt, o_t_spot, o_t_here, o_t_token, o_t_value, o_t_cuts, o_t_letters, o_t_plain, .ref a_t_rules, .ref a_t_words, o_t_shorts, o_t_guards, o_t_readRules, o_t_readTable, o_t_readWords, o_t_readShorts, o_t_readGuards, o_t_toldOnes, .ref a_t_state, .int t_isAwake, o_t_sums, o_t_tongue, o_t_bestTable, o_t_may, o_t_mouth, o_t_mouthThen, o_t_isKept, o_t_lanes, o_t_lengths, o_t_cells, o_t_torn])), (a_t_state, .inl (g.1 1, 192, .inl t_state)), (a_t_rules, .inl (g.1 1, 8, .inl t_rules)), (a_t_words, .inl (g.1 1, 100, .inl t_words))] := hD.sub [0, 1, 2, 3] (by decide) rfl
              refine lv_iload_n hx hb dX12_teach_130 rfl (lv_at hl 3 rfl) ?_
              refine k_i (wr := [(a_t, .inr (12, [o_t_tape, o_t_taped, o_t_fault, o_t_broken, o_t_brokenAt, o_t_spot, o_t_here, o_t_token, o_t_value, o_t_cuts, o_t_letters, o_t_plain, .ref a_t_rules, .ref a_t_words, o_t_shorts, o_t_guards, o_t_readRules, o_t_readTable, o_t_readWords, o_t_readShorts, o_t_readGuards, o_t_toldOnes, .ref a_t_state, .int t_isAwake, o_t_sums, o_t_tongue, o_t_bestTable, o_t_may, o_t_mouth, o_t_mouthThen, o_t_isKept, o_t_lanes, o_t_lengths, o_t_cells, o_t_torn])), (a_t_state, .inl (g.1 1, 192, .inl t_state)), (a_t_rules, .inl (g.1 1, 8, .inl t_rules)), (a_t_words, .inl (g.1 1, 100, .inl t_words))]) hA hP hD hS [] [0, 1, 2, 3] rfl rfl (by decide) (by decide) (va_runS (As := [.int x3]) (rest := [.int r17]) ⟨hx, hb, hml, hown, hts⟩ (c_X12_bitsOf l D g x3 _ h H.size) (va_cwS 1 hts (gdS (inR_46 (List.mem_of_getElem? (i := 9) rfl)) (inR_46 (List.mem_of_getElem? (i := 10) rfl)) (inR_1 (List.mem_of_getElem? (i := 5) rfl)) (inR_46 (List.mem_of_getElem? (i := 11) rfl))) rfl rfl rfl hdX12_bitsOf.2 ⟨Nat.le_of_ble_eq_true rfl, Nat.le_of_ble_eq_true rfl⟩) (k_preS hG hA hP hD hS [] rfl (by decide)) rfl rfl hl.1 rfl (lv_room (Nat.le_of_ble_eq_true rfl)) dX12_teach_131 ⟨Nat.zero_le _, Nat.zero_le _⟩) (fun r18 W' H locs h hP hD hS => ?_)
              obtain ⟨rfl, h⟩ := h
              have hP : va_P D vwCl [(a_t, .inr (12, [o_t_tape, o_t_taped, o_t_fault, o_t_broken, o_t_brokenAt, o_t_spot, o_t_here, o_t_token, o_t_value, o_t_cuts, o_t_letters, o_t_plain, .ref a_t_rules, .ref a_t_words, o_t_shorts, o_t_guards, o_t_readRules, o_t_readTable, o_t_readWords, o_t_readShorts, o_t_readGuards, o_t_toldOnes, .ref a_t_state, .int t_isAwake, o_t_sums, o_t_tongue, o_t_bestTable, o_t_may, o_t_mouth, o_t_mouthThen, o_t_isKept, o_t_lanes, o_t_lengths, o_t_cells, o_t_torn])), (a_t_state, .inl (g.1 1, 192, .inl t_state)), (a_t_rules, .inl (g.1 1, 8, .inl t_rules)), (a_t_words, .inl (g.1 1, 100, .inl t_words))] H := hP.sub [0, 1, 2, 3] rfl
              have hD : va_D A [(a_t, .inr (12, [o_t_tape, o_t_taped, o_t_fault, o_t_broken, o_t_brokenAt, o_t_spot, o_t_here, o_t_token, o_t_value, o_t_cuts, o_t_letters, o_t_plain, .ref a_t_rules, .ref a_t_words, o_t_shorts, o_t_guards, o_t_readRules, o_t_readTable, o_t_readWords, o_t_readShorts, o_t_readGuards, o_t_toldOnes, .ref a_t_state, .int t_isAwake, o_t_sums, o_t_tongue, o_t_bestTable, o_t_may, o_t_mouth, o_t_mouthThen, o_t_isKept, o_t_lanes, o_t_lengths, o_t_cells, o_t_torn])), (a_t_state, .inl (g.1 1, 192, .inl t_state)), (a_t_rules, .inl (g.1 1, 8, .inl t_rules)), (a_t_words, .inl (g.1 1, 100, .inl t_words))] := hD.sub [0, 1, 2, 3] (by decide) rfl
              refine lv_icmp_ge (tgt := 141) hx hb dX12_teach_134 (by decide) (fun c19 => ?_) (fun c19 => ?_)
              · have h := h.1 c19
                exact L141 x1 x2 x3 x4 x5 x6 x7 t_isAwake t_state _ hK_32 h _ _ hP hD hS _ (lv_sub hl [0, 1, 2, 3, 4, 5, 6, 7] rfl)
              · have h := h.2 c19
                exact L137 x1 x2 x3 x4 x5 x6 x7 t_isAwake t_state _ hK_32 h _ _ hP hD hS _ (lv_sub hl [0, 1, 2, 3, 4, 5, 6, 7] rfl)
      · have h := h.2 c11
        refine lv_iload hx hb dX12_teach_65 (lv_at hl 5 rfl) ?_
        refine lv_iload hx hb dX12_teach_67 (lv_at hl 8 rfl) ?_
        refine lv_ishr hx hb dX12_teach_69 ?_
        refine lv_iconst (v := 1) hx hb dX12_teach_70 (by decide) ?_
        refine lv_iand hx hb dX12_teach_71 ?_
        refine lv_iconst (v := 1) hx hb dX12_teach_72 (by decide) ?_
        refine lv_icmp_ne (tgt := 98) hx hb dX12_teach_73 (by decide) (fun c20 => ?_) (fun c20 => ?_)
        · have h := h.1 c20
          refine lv_iinc (v := x8 + 1) (lv' := [(8, .int (x8 + 1)), (0, .ref a_t), (1, .int x1), (2, .int x2), (3, .int x3), (4, .int x4), (5, .int x5), (6, .int x6), (7, .int x7)]) hx hb dX12_teach_98 hl (k := 8) rfl rfl (by decide) rfl (fun ls hl => ?_)
          refine lv_goto (tgt := 54) hx hb dX12_teach_101 (by decide) ?_
          exact ih x6 x7 (x8 + 1) h _ _ hP hD hS _ (lv_sub hl [1, 2, 3, 4, 5, 6, 7, 8, 0] rfl)
        · have h := h.2 c20
          refine lv_iload hx hb dX12_teach_76 (lv_at hl 6 rfl) ?_
          refine lv_aload_n hx hb dX12_teach_78 rfl (lv_at hl 0 rfl) ?_
          refine lv_iload hx hb dX12_teach_79 (lv_at hl 8 rfl) ?_
          refine k_i (wr := [(a_t_state, .inl (g.1 1, 192, .inl t_state)), (a_t_rules, .inl (g.1 1, 8, .inl t_rules))]) hA hP hD hS [0, 3] [1, 2] rfl rfl (by decide) (by decide) (va_runV (As := [.int x8]) (rest := [.int x6]) ⟨hx, hb, hml, hown, hts⟩ (c_X12_lettersOf l D g a_t a_t_words (o_t_tape) (o_t_taped) (o_t_fault) (o_t_broken) (o_t_brokenAt) (o_t_spot) (o_t_here) (o_t_token) (o_t_value) (o_t_cuts) (o_t_letters) (o_t_plain) (.ref a_t_rules) (o_t_shorts) (o_t_guards) (o_t_readRules) (o_t_readTable) (o_t_readWords) (o_t_readShorts) (o_t_readGuards) (o_t_toldOnes) (.ref a_t_state) (.int t_isAwake) (o_t_sums) (o_t_tongue) (o_t_bestTable) (o_t_may) (o_t_mouth) (o_t_mouthThen) (o_t_isKept) (o_t_lanes) (o_t_lengths) (o_t_cells) (o_t_torn) t_words x8 _ h H.size) (cwV 1 hts (gdV (inR_46 (List.mem_of_getElem? (i := 5) rfl)) (inR_46 (List.mem_of_getElem? (i := 6) rfl)) (inR_46 (List.mem_of_getElem? (i := 7) rfl)) (inR_1 (List.mem_of_getElem? (i := 5) rfl)) (inR_46 (List.mem_of_getElem? (i := 8) rfl))) rfl rfl rfl hdX12_lettersOf ⟨Nat.le_of_ble_eq_true rfl, Nat.le_of_ble_eq_true rfl⟩) (k_preV (q0 := 0) hG hA hP hD hS [0, 3] rfl (by decide) rfl rfl) rfl rfl hl.1 rfl (lv_room (Nat.le_of_ble_eq_true rfl)) dX12_teach_81 ⟨Nat.zero_le _, Nat.zero_le _⟩) (fun r21 W' H locs h hP hD hS => ?_)
          obtain ⟨rfl, h⟩ := h
          have hP : va_P D vwCl [(a_t, .inr (12, [o_t_tape, o_t_taped, o_t_fault, o_t_broken, o_t_brokenAt, o_t_spot, o_t_here, o_t_token, o_t_value, o_t_cuts, o_t_letters, o_t_plain, .ref a_t_rules, .ref a_t_words, o_t_shorts, o_t_guards, o_t_readRules, o_t_readTable, o_t_readWords, o_t_readShorts, o_t_readGuards, o_t_toldOnes, .ref a_t_state, .int t_isAwake, o_t_sums, o_t_tongue, o_t_bestTable, o_t_may, o_t_mouth, o_t_mouthThen, o_t_isKept, o_t_lanes, o_t_lengths, o_t_cells, o_t_torn])), (a_t_state, .inl (g.1 1, 192, .inl t_state)), (a_t_rules, .inl (g.1 1, 8, .inl t_rules)), (a_t_words, .inl (g.1 1, 100, .inl t_words))] H := hP.sub [2, 0, 1, 3] rfl
          have hD : va_D A [(a_t, .inr (12, [o_t_tape, o_t_taped, o_t_fault, o_t_broken, o_t_brokenAt, o_t_spot, o_t_here, o_t_token, o_t_value, o_t_cuts, o_t_letters, o_t_plain, .ref a_t_rules, .ref a_t_words, o_t_shorts, o_t_guards, o_t_readRules, o_t_readTable, o_t_readWords, o_t_readShorts, o_t_readGuards, o_t_toldOnes, .ref a_t_state, .int t_isAwake, o_t_sums, o_t_tongue, o_t_bestTable, o_t_may, o_t_mouth, o_t_mouthThen, o_t_isKept, o_t_lanes, o_t_lengths, o_t_cells, o_t_torn])), (a_t_state, .inl (g.1 1, 192, .inl t_state)), (a_t_rules, .inl (g.1 1, 8, .inl t_rules)), (a_t_words, .inl (g.1 1, 100, .inl t_words))] := hD.sub [2, 0, 1, 3] (by decide) rfl
          refine lv_ior hx hb dX12_teach_84 ?_
          refine lv_istore (lv' := [(6, .int (x6 ||| r21)), (0, .ref a_t), (1, .int x1), (2, .int x2), (3, .int x3), (4, .int x4), (5, .int x5), (7, .int x7), (8, .int x8)]) hx hb dX12_teach_85 hl (by decide) rfl (fun ls hl => ?_)
          refine lv_iload hx hb dX12_teach_87 (lv_at hl 7 rfl) ?_
          refine lv_aload_n hx hb dX12_teach_89 rfl (lv_at hl 1 rfl) ?_
          refine lv_iload hx hb dX12_teach_90 (lv_at hl 8 rfl) ?_
          refine k_i (wr := [(a_t_rules, .inl (g.1 1, 8, .inl t_rules))]) hA hP hD hS [0, 3, 1] [2] rfl rfl (by decide) (by decide) (va_runV (As := [.int x8]) (rest := [.int x7]) ⟨hx, hb, hml, hown, hts⟩ (c_X12_knocksOf l D g a_t a_t_words a_t_state (o_t_tape) (o_t_taped) (o_t_fault) (o_t_broken) (o_t_brokenAt) (o_t_spot) (o_t_here) (o_t_token) (o_t_value) (o_t_cuts) (o_t_letters) (o_t_plain) (.ref a_t_rules) (o_t_shorts) (o_t_guards) (o_t_readRules) (o_t_readTable) (o_t_readWords) (o_t_readShorts) (o_t_readGuards) (o_t_toldOnes) (.int t_isAwake) (o_t_sums) (o_t_tongue) (o_t_bestTable) (o_t_may) (o_t_mouth) (o_t_mouthThen) (o_t_isKept) (o_t_lanes) (o_t_lengths) (o_t_cells) (o_t_torn) t_words t_state x8 _ h H.size) (cwV 1 hts (gdV (inR_25 (List.mem_of_getElem? (i := 12) rfl)) (inR_25 (List.mem_of_getElem? (i := 13) rfl)) (inR_25 (List.mem_of_getElem? (i := 14) rfl)) (inR_1 (List.mem_of_getElem? (i := 5) rfl)) (inR_25 (List.mem_of_getElem? (i := 15) rfl))) rfl rfl rfl hdX12_knocksOf ⟨Nat.le_of_ble_eq_true rfl, Nat.le_of_ble_eq_true rfl⟩) (k_preV (q0 := 0) hG hA hP hD hS [0, 3, 1] rfl (by decide) rfl rfl) rfl rfl hl.1 rfl (lv_room (Nat.le_of_ble_eq_true rfl)) dX12_teach_92 ⟨Nat.zero_le _, Nat.zero_le _⟩) (fun r22 W' H locs h hP hD hS => ?_)
          obtain ⟨rfl, h⟩ := h
          have hP : va_P D vwCl [(a_t, .inr (12, [o_t_tape, o_t_taped, o_t_fault, o_t_broken, o_t_brokenAt, o_t_spot, o_t_here, o_t_token, o_t_value, o_t_cuts, o_t_letters, o_t_plain, .ref a_t_rules, .ref a_t_words, o_t_shorts, o_t_guards, o_t_readRules, o_t_readTable, o_t_readWords, o_t_readShorts, o_t_readGuards, o_t_toldOnes, .ref a_t_state, .int t_isAwake, o_t_sums, o_t_tongue, o_t_bestTable, o_t_may, o_t_mouth, o_t_mouthThen, o_t_isKept, o_t_lanes, o_t_lengths, o_t_cells, o_t_torn])), (a_t_state, .inl (g.1 1, 192, .inl t_state)), (a_t_rules, .inl (g.1 1, 8, .inl t_rules)), (a_t_words, .inl (g.1 1, 100, .inl t_words))] H := hP.sub [1, 3, 0, 2] rfl
          have hD : va_D A [(a_t, .inr (12, [o_t_tape, o_t_taped, o_t_fault, o_t_broken, o_t_brokenAt, o_t_spot, o_t_here, o_t_token, o_t_value, o_t_cuts, o_t_letters, o_t_plain, .ref a_t_rules, .ref a_t_words, o_t_shorts, o_t_guards, o_t_readRules, o_t_readTable, o_t_readWords, o_t_readShorts, o_t_readGuards, o_t_toldOnes, .ref a_t_state, .int t_isAwake, o_t_sums, o_t_tongue, o_t_bestTable, o_t_may, o_t_mouth, o_t_mouthThen, o_t_isKept, o_t_lanes, o_t_lengths, o_t_cells, o_t_torn])), (a_t_state, .inl (g.1 1, 192, .inl t_state)), (a_t_rules, .inl (g.1 1, 8, .inl t_rules)), (a_t_words, .inl (g.1 1, 100, .inl t_words))] := hD.sub [1, 3, 0, 2] (by decide) rfl
          refine lv_iadd hx hb dX12_teach_95 ?_
          refine lv_istore (lv' := [(7, .int (x7 + r22)), (6, .int (x6 ||| r21)), (0, .ref a_t), (1, .int x1), (2, .int x2), (3, .int x3), (4, .int x4), (5, .int x5), (8, .int x8)]) hx hb dX12_teach_96 hl (by decide) rfl (fun ls hl => ?_)
          refine lv_iinc (v := x8 + 1) (lv' := [(8, .int (x8 + 1)), (7, .int (x7 + r22)), (6, .int (x6 ||| r21)), (0, .ref a_t), (1, .int x1), (2, .int x2), (3, .int x3), (4, .int x4), (5, .int x5)]) hx hb dX12_teach_98 hl (k := 8) rfl rfl (by decide) rfl (fun ls hl => ?_)
          refine lv_goto (tgt := 54) hx hb dX12_teach_101 (by decide) ?_
          exact ih (x6 ||| r21) (x7 + r22) (x8 + 1) h _ _ hP hD hS _ (lv_sub hl [3, 4, 5, 6, 7, 8, 2, 1, 0] rfl)
  have L32 : ∀ (x1 : Int32) (x2 : Int32) (t_isAwake : Int32) (t_state : Nat → Int32), ∀ (n : Nat) (x3 : Int32) (x4 : Int32) (x5 : Int32), fixN (F_X12_teach_32 t_rules t_words x1 x2 t_isAwake t_state post) n (x3, x4, x5) → ∀ (H : Heap) (locs : List Loc), va_P D vwCl [(a_t, .inr (12, [o_t_tape, o_t_taped, o_t_fault, o_t_broken, o_t_brokenAt, o_t_spot, o_t_here, o_t_token, o_t_value, o_t_cuts, o_t_letters, o_t_plain, .ref a_t_rules, .ref a_t_words, o_t_shorts, o_t_guards, o_t_readRules, o_t_readTable, o_t_readWords, o_t_readShorts, o_t_readGuards, o_t_toldOnes, .ref a_t_state, .int t_isAwake, o_t_sums, o_t_tongue, o_t_bestTable, o_t_may, o_t_mouth, o_t_mouthThen, o_t_isKept, o_t_lanes, o_t_lengths, o_t_cells, o_t_torn])), (a_t_state, .inl (g.1 1, 192, .inl t_state)), (a_t_rules, .inl (g.1 1, 8, .inl t_rules)), (a_t_words, .inl (g.1 1, 100, .inl t_words))] H → va_D A [(a_t, .inr (12, [o_t_tape, o_t_taped, o_t_fault, o_t_broken, o_t_brokenAt, o_t_spot, o_t_here, o_t_token, o_t_value, o_t_cuts, o_t_letters, o_t_plain, .ref a_t_rules, .ref a_t_words, o_t_shorts, o_t_guards, o_t_readRules, o_t_readTable, o_t_readWords, o_t_readShorts, o_t_readGuards, o_t_toldOnes, .ref a_t_state, .int t_isAwake, o_t_sums, o_t_tongue, o_t_bestTable, o_t_may, o_t_mouth, o_t_mouthThen, o_t_isKept, o_t_lanes, o_t_lengths, o_t_cells, o_t_torn])), (a_t_state, .inl (g.1 1, 192, .inl t_state)), (a_t_rules, .inl (g.1 1, 8, .inl t_rules)), (a_t_words, .inl (g.1 1, 100, .inl t_words))] → va_S A s.heap H locs → ∀ (ls : Array Slot), lv_has ls 9 [(0, .ref a_t), (1, .int x1), (2, .int x2), (3, .int x3), (4, .int x4), (5, .int x5)] → W p l e rmX12_teach s m args below meth c H locs 0 0 Q (F0 m 32 ls []) := by
    intro x1 x2 t_isAwake t_state
    intro n
    induction n with
    | zero => intro x3 x4 x5 h; exact h.elim
    | succ n ih =>
      intro x3 x4 x5 h H locs hP hD hS ls hl
      have h : F_X12_teach_32 t_rules t_words x1 x2 t_isAwake t_state post (fixN (F_X12_teach_32 t_rules t_words x1 x2 t_isAwake t_state post) n) (x3, x4, x5) := h
      unfold F_X12_teach_32 at h
      try dsimp only at h
      refine lv_iload hx hb dX12_teach_32 (lv_at hl 5 rfl) ?_
      refine lv_iconst (v := 1) hx hb dX12_teach_34 (by decide) ?_
      refine lv_aload_n hx hb dX12_teach_35 rfl (lv_at hl 0 rfl) ?_
      refine va_get (ci := 12) (v := .ref a_t_rules) (C := RX12) (T := TX12) (N := 35) hx hb hts icX12 hown hG.k hP 0 rfl rfl 12 (by decide) lk1 (fun _ h9 => h9) rfl dX12_teach_36 ?_
      refine lv_iconst (v := 5) hx hb dX12_teach_39 (by decide) ?_
      obtain ⟨hv5, h⟩ := h
      refine va_iald hx hb hG.k hP 2 1 rfl rfl hv5 dX12_teach_40 ?_
      refine lv_ishl hx hb dX12_teach_41 ?_
      refine lv_icmp_ge (tgt := 168) hx hb dX12_teach_42 (by decide) (fun c6 => ?_) (fun c6 => ?_)
      · have h := h.1 c6
        refine lv_iload_n hx hb dX12_teach_168 rfl (lv_at hl 1 rfl) ?_
        refine lv_if_ne (tgt := 177) hx hb dX12_teach_169 (by decide) (fun c7 => ?_) (fun c7 => ?_)
        · have h := h.1 c7
          refine lv_iload_n hx hb dX12_teach_177 rfl (lv_at hl 1 rfl) ?_
          refine lv_iconst (v := 1) hx hb dX12_teach_178 (by decide) ?_
          refine lv_icmp_ne (tgt := 189) hx hb dX12_teach_179 (by decide) (fun c8 => ?_) (fun c8 => ?_)
          · have h := h.1 c8
            refine lv_iload_n hx hb dX12_teach_189 rfl (lv_at hl 3 rfl) ?_
            exact hret x3 _ _ _ _ _ ⟨t_isAwake, t_state, rfl, h⟩ hP hD hS dX12_teach_190
          · have h := h.2 c8
            refine lv_iload_n hx hb dX12_teach_182 rfl (lv_at hl 3 rfl) ?_
            refine k_i (wr := [(a_t, .inr (12, [o_t_tape, o_t_taped, o_t_fault, o_t_broken, o_t_brokenAt, o_t_spot, o_t_here, o_t_token, o_t_value, o_t_cuts, o_t_letters, o_t_plain, .ref a_t_rules, .ref a_t_words, o_t_shorts, o_t_guards, o_t_readRules, o_t_readTable, o_t_readWords, o_t_readShorts, o_t_readGuards, o_t_toldOnes, .ref a_t_state, .int t_isAwake, o_t_sums, o_t_tongue, o_t_bestTable, o_t_may, o_t_mouth, o_t_mouthThen, o_t_isKept, o_t_lanes, o_t_lengths, o_t_cells, o_t_torn])), (a_t_state, .inl (g.1 1, 192, .inl t_state)), (a_t_rules, .inl (g.1 1, 8, .inl t_rules)), (a_t_words, .inl (g.1 1, 100, .inl t_words))]) hA hP hD hS [] [0, 1, 2, 3] rfl rfl (by decide) (by decide) (va_runS (As := [.int x3]) (rest := []) ⟨hx, hb, hml, hown, hts⟩ (c_X12_bitsOf l D g x3 _ h H.size) (va_cwS 1 hts (gdS (inR_46 (List.mem_of_getElem? (i := 9) rfl)) (inR_46 (List.mem_of_getElem? (i := 10) rfl)) (inR_1 (List.mem_of_getElem? (i := 5) rfl)) (inR_46 (List.mem_of_getElem? (i := 11) rfl))) rfl rfl rfl hdX12_bitsOf.2 ⟨Nat.le_of_ble_eq_true rfl, Nat.le_of_ble_eq_true rfl⟩) (k_preS hG hA hP hD hS [] rfl (by decide)) rfl rfl hl.1 rfl (lv_room (Nat.le_of_ble_eq_true rfl)) dX12_teach_183 ⟨Nat.zero_le _, Nat.zero_le _⟩) (fun r9 W' H locs h hP hD hS => ?_)
            obtain ⟨rfl, h⟩ := h
            have hP : va_P D vwCl [(a_t, .inr (12, [o_t_tape, o_t_taped, o_t_fault, o_t_broken, o_t_brokenAt, o_t_spot, o_t_here, o_t_token, o_t_value, o_t_cuts, o_t_letters, o_t_plain, .ref a_t_rules, .ref a_t_words, o_t_shorts, o_t_guards, o_t_readRules, o_t_readTable, o_t_readWords, o_t_readShorts, o_t_readGuards, o_t_toldOnes, .ref a_t_state, .int t_isAwake, o_t_sums, o_t_tongue, o_t_bestTable, o_t_may, o_t_mouth, o_t_mouthThen, o_t_isKept, o_t_lanes, o_t_lengths, o_t_cells, o_t_torn])), (a_t_state, .inl (g.1 1, 192, .inl t_state)), (a_t_rules, .inl (g.1 1, 8, .inl t_rules)), (a_t_words, .inl (g.1 1, 100, .inl t_words))] H := hP.sub [0, 1, 2, 3] rfl
            have hD : va_D A [(a_t, .inr (12, [o_t_tape, o_t_taped, o_t_fault, o_t_broken, o_t_brokenAt, o_t_spot, o_t_here, o_t_token, o_t_value, o_t_cuts, o_t_letters, o_t_plain, .ref a_t_rules, .ref a_t_words, o_t_shorts, o_t_guards, o_t_readRules, o_t_readTable, o_t_readWords, o_t_readShorts, o_t_readGuards, o_t_toldOnes, .ref a_t_state, .int t_isAwake, o_t_sums, o_t_tongue, o_t_bestTable, o_t_may, o_t_mouth, o_t_mouthThen, o_t_isKept, o_t_lanes, o_t_lengths, o_t_cells, o_t_torn])), (a_t_state, .inl (g.1 1, 192, .inl t_state)), (a_t_rules, .inl (g.1 1, 8, .inl t_rules)), (a_t_words, .inl (g.1 1, 100, .inl t_words))] := hD.sub [0, 1, 2, 3] (by decide) rfl
            refine lv_goto (tgt := 190) hx hb dX12_teach_186 (by decide) ?_
            exact hret r9 _ _ _ _ _ ⟨t_isAwake, t_state, rfl, h⟩ hP hD hS dX12_teach_190
        · have h := h.2 c7
          refine lv_iload hx hb dX12_teach_172 (lv_at hl 4 rfl) ?_
          refine lv_goto (tgt := 190) hx hb dX12_teach_174 (by decide) ?_
          exact hret x4 _ _ _ _ _ ⟨t_isAwake, t_state, rfl, h⟩ hP hD hS dX12_teach_190
      · have h := h.2 c6
        refine lv_iconst (v := 0) hx hb dX12_teach_45 (by decide) ?_
        refine lv_istore (lv' := [(6, .int 0), (0, .ref a_t), (1, .int x1), (2, .int x2), (3, .int x3), (4, .int x4), (5, .int x5)]) hx hb dX12_teach_46 hl (by decide) rfl (fun ls hl => ?_)
        refine lv_iconst (v := 0) hx hb dX12_teach_48 (by decide) ?_
        refine lv_istore (lv' := [(7, .int 0), (6, .int 0), (0, .ref a_t), (1, .int x1), (2, .int x2), (3, .int x3), (4, .int x4), (5, .int x5)]) hx hb dX12_teach_49 hl (by decide) rfl (fun ls hl => ?_)
        refine lv_iconst (v := 0) hx hb dX12_teach_51 (by decide) ?_
        refine lv_istore (lv' := [(8, .int 0), (7, .int 0), (6, .int 0), (0, .ref a_t), (1, .int x1), (2, .int x2), (3, .int x3), (4, .int x4), (5, .int x5)]) hx hb dX12_teach_52 hl (by decide) rfl (fun ls hl => ?_)
        obtain ⟨n9, h⟩ := h
        exact L54 x1 x2 x3 x4 x5 t_isAwake t_state _ ih n9 0 0 0 h _ _ hP hD hS _ (lv_sub hl [3, 4, 5, 6, 7, 8, 2, 1, 0] rfl)
  unfold wp_X12_teach at h
  try dsimp only at h
  refine lv_aload_n hx hb dX12_teach_0 rfl (lv_at hl 0 rfl) ?_
  refine k_v (wr := [(a_t_rules, .inl (g.1 1, 8, .inl t_rules)), (a_t_words, .inl (g.1 1, 100, .inl t_words))]) hA hP hD hS [0, 1] [2, 3] rfl rfl (by decide) (by decide) (va_runV (As := []) (rest := []) ⟨hx, hb, hml, hown, hts⟩ (c_X12_awake l D g a_t a_t_state (o_t_tape) (o_t_taped) (o_t_fault) (o_t_broken) (o_t_brokenAt) (o_t_spot) (o_t_here) (o_t_token) (o_t_value) (o_t_cuts) (o_t_letters) (o_t_plain) (.ref a_t_rules) (.ref a_t_words) (o_t_shorts) (o_t_guards) (o_t_readRules) (o_t_readTable) (o_t_readWords) (o_t_readShorts) (o_t_readGuards) (o_t_toldOnes) (o_t_sums) (o_t_tongue) (o_t_bestTable) (o_t_may) (o_t_mouth) (o_t_mouthThen) (o_t_isKept) (o_t_lanes) (o_t_lengths) (o_t_cells) (o_t_torn) t_isAwake t_state _ h H.size) (cwV 0 hts (gdV (inR_22 (List.mem_of_getElem? (i := 18) rfl)) (inR_22 (List.mem_of_getElem? (i := 19) rfl)) (inR_22 (List.mem_of_getElem? (i := 20) rfl)) (inR_1 (List.mem_of_getElem? (i := 5) rfl)) (inR_22 (List.mem_of_getElem? (i := 21) rfl))) rfl rfl rfl hdX12_awake ⟨Nat.le_of_ble_eq_true rfl, Nat.le_of_ble_eq_true rfl⟩) (k_preV (q0 := 0) hG hA hP hD hS [0, 1] rfl (by decide) rfl rfl) rfl rfl hl.1 rfl (lv_room (Nat.le_of_ble_eq_true rfl)) dX12_teach_1 ⟨Nat.zero_le _, Nat.zero_le _⟩) (fun W' H locs h hP hD hS => ?_)
  obtain ⟨u1_t_isAwake, u1_t_state, rfl, h⟩ := h
  have hP : va_P D vwCl [(a_t, .inr (12, [o_t_tape, o_t_taped, o_t_fault, o_t_broken, o_t_brokenAt, o_t_spot, o_t_here, o_t_token, o_t_value, o_t_cuts, o_t_letters, o_t_plain, .ref a_t_rules, .ref a_t_words, o_t_shorts, o_t_guards, o_t_readRules, o_t_readTable, o_t_readWords, o_t_readShorts, o_t_readGuards, o_t_toldOnes, .ref a_t_state, .int u1_t_isAwake, o_t_sums, o_t_tongue, o_t_bestTable, o_t_may, o_t_mouth, o_t_mouthThen, o_t_isKept, o_t_lanes, o_t_lengths, o_t_cells, o_t_torn])), (a_t_state, .inl (g.1 1, 192, .inl u1_t_state)), (a_t_rules, .inl (g.1 1, 8, .inl t_rules)), (a_t_words, .inl (g.1 1, 100, .inl t_words))] H := hP.sub [2, 3, 0, 1] rfl
  have hD : va_D A [(a_t, .inr (12, [o_t_tape, o_t_taped, o_t_fault, o_t_broken, o_t_brokenAt, o_t_spot, o_t_here, o_t_token, o_t_value, o_t_cuts, o_t_letters, o_t_plain, .ref a_t_rules, .ref a_t_words, o_t_shorts, o_t_guards, o_t_readRules, o_t_readTable, o_t_readWords, o_t_readShorts, o_t_readGuards, o_t_toldOnes, .ref a_t_state, .int u1_t_isAwake, o_t_sums, o_t_tongue, o_t_bestTable, o_t_may, o_t_mouth, o_t_mouthThen, o_t_isKept, o_t_lanes, o_t_lengths, o_t_cells, o_t_torn])), (a_t_state, .inl (g.1 1, 192, .inl u1_t_state)), (a_t_rules, .inl (g.1 1, 8, .inl t_rules)), (a_t_words, .inl (g.1 1, 100, .inl t_words))] := hD.sub [2, 3, 0, 1] (by decide) rfl
  refine lv_iload_n hx hb dX12_teach_4 rfl (lv_at hl 1 rfl) ?_
  refine lv_i2l hx hb dX12_teach_5 rfl ?_
  refine lv_lconst (v := 0) hx hb dX12_teach_6 (by decide) ?_
  refine lv_ldc2 hx hb hown lk0 dX12_teach_7 ?_
  refine k_i (wr := [(a_t, .inr (12, [o_t_tape, o_t_taped, o_t_fault, o_t_broken, o_t_brokenAt, o_t_spot, o_t_here, o_t_token, o_t_value, o_t_cuts, o_t_letters, o_t_plain, .ref a_t_rules, .ref a_t_words, o_t_shorts, o_t_guards, o_t_readRules, o_t_readTable, o_t_readWords, o_t_readShorts, o_t_readGuards, o_t_toldOnes, .ref a_t_state, .int u1_t_isAwake, o_t_sums, o_t_tongue, o_t_bestTable, o_t_may, o_t_mouth, o_t_mouthThen, o_t_isKept, o_t_lanes, o_t_lengths, o_t_cells, o_t_torn])), (a_t_state, .inl (g.1 1, 192, .inl u1_t_state)), (a_t_rules, .inl (g.1 1, 8, .inl t_rules)), (a_t_words, .inl (g.1 1, 100, .inl t_words))]) hA hP hD hS [] [0, 1, 2, 3] rfl rfl (by decide) (by decide) (va_runS (As := [.long x1.toInt64, .long 0, .long ((2))]) (rest := []) ⟨hx, hb, hml, hown, hts⟩ (c_X12_in l D g x1.toInt64 0 ((2)) _ h H.size) (va_cwS 3 hts (gdS (inR_10 (List.mem_of_getElem? (i := 1) rfl)) (inR_10 (List.mem_of_getElem? (i := 2) rfl)) (inR_1 (List.mem_of_getElem? (i := 5) rfl)) (inR_10 (List.mem_of_getElem? (i := 3) rfl))) rfl rfl rfl hdX12_in.2 ⟨Nat.le_of_ble_eq_true rfl, Nat.le_of_ble_eq_true rfl⟩) (k_preS hG hA hP hD hS [] rfl (by decide)) rfl rfl hl.1 rfl (lv_room (Nat.le_of_ble_eq_true rfl)) dX12_teach_10 ⟨Nat.zero_le _, Nat.zero_le _⟩) (fun r2 W' H locs h hP hD hS => ?_)
  obtain ⟨rfl, h⟩ := h
  have hP : va_P D vwCl [(a_t, .inr (12, [o_t_tape, o_t_taped, o_t_fault, o_t_broken, o_t_brokenAt, o_t_spot, o_t_here, o_t_token, o_t_value, o_t_cuts, o_t_letters, o_t_plain, .ref a_t_rules, .ref a_t_words, o_t_shorts, o_t_guards, o_t_readRules, o_t_readTable, o_t_readWords, o_t_readShorts, o_t_readGuards, o_t_toldOnes, .ref a_t_state, .int u1_t_isAwake, o_t_sums, o_t_tongue, o_t_bestTable, o_t_may, o_t_mouth, o_t_mouthThen, o_t_isKept, o_t_lanes, o_t_lengths, o_t_cells, o_t_torn])), (a_t_state, .inl (g.1 1, 192, .inl u1_t_state)), (a_t_rules, .inl (g.1 1, 8, .inl t_rules)), (a_t_words, .inl (g.1 1, 100, .inl t_words))] H := hP.sub [0, 1, 2, 3] rfl
  have hD : va_D A [(a_t, .inr (12, [o_t_tape, o_t_taped, o_t_fault, o_t_broken, o_t_brokenAt, o_t_spot, o_t_here, o_t_token, o_t_value, o_t_cuts, o_t_letters, o_t_plain, .ref a_t_rules, .ref a_t_words, o_t_shorts, o_t_guards, o_t_readRules, o_t_readTable, o_t_readWords, o_t_readShorts, o_t_readGuards, o_t_toldOnes, .ref a_t_state, .int u1_t_isAwake, o_t_sums, o_t_tongue, o_t_bestTable, o_t_may, o_t_mouth, o_t_mouthThen, o_t_isKept, o_t_lanes, o_t_lengths, o_t_cells, o_t_torn])), (a_t_state, .inl (g.1 1, 192, .inl u1_t_state)), (a_t_rules, .inl (g.1 1, 8, .inl t_rules)), (a_t_words, .inl (g.1 1, 100, .inl t_words))] := hD.sub [0, 1, 2, 3] (by decide) rfl
  refine lv_if_ne (tgt := 18) hx hb dX12_teach_13 (by decide) (fun c3 => ?_) (fun c3 => ?_)
  · have h := h.1 c3
    refine lv_aload_n hx hb dX12_teach_18 rfl (lv_at hl 0 rfl) ?_
    refine k_i (wr := [(a_t_state, .inl (g.1 1, 192, .inl u1_t_state))]) hA hP hD hS [0, 2, 3] [1] rfl rfl (by decide) (by decide) (va_runV (As := []) (rest := []) ⟨hx, hb, hml, hown, hts⟩ (c_X12_allLetters l D g a_t a_t_rules a_t_words (o_t_tape) (o_t_taped) (o_t_fault) (o_t_broken) (o_t_brokenAt) (o_t_spot) (o_t_here) (o_t_token) (o_t_value) (o_t_cuts) (o_t_letters) (o_t_plain) (o_t_shorts) (o_t_guards) (o_t_readRules) (o_t_readTable) (o_t_readWords) (o_t_readShorts) (o_t_readGuards) (o_t_toldOnes) (.ref a_t_state) (.int u1_t_isAwake) (o_t_sums) (o_t_tongue) (o_t_bestTable) (o_t_may) (o_t_mouth) (o_t_mouthThen) (o_t_isKept) (o_t_lanes) (o_t_lengths) (o_t_cells) (o_t_torn) t_rules t_words _ h H.size) (cwV 0 hts (gdV (inR_46 (List.mem_of_getElem? (i := 1) rfl)) (inR_46 (List.mem_of_getElem? (i := 2) rfl)) (inR_46 (List.mem_of_getElem? (i := 3) rfl)) (inR_1 (List.mem_of_getElem? (i := 5) rfl)) (inR_46 (List.mem_of_getElem? (i := 4) rfl))) rfl rfl rfl hdX12_allLetters ⟨Nat.le_of_ble_eq_true rfl, Nat.le_of_ble_eq_true rfl⟩) (k_preV (q0 := 0) hG hA hP hD hS [0, 2, 3] rfl (by decide) rfl rfl) rfl rfl hl.1 rfl (lv_room (Nat.le_of_ble_eq_true rfl)) dX12_teach_19 ⟨Nat.zero_le _, Nat.zero_le _⟩) (fun r4 W' H locs h hP hD hS => ?_)
    obtain ⟨rfl, h⟩ := h
    have hP : va_P D vwCl [(a_t, .inr (12, [o_t_tape, o_t_taped, o_t_fault, o_t_broken, o_t_brokenAt, o_t_spot, o_t_here, o_t_token, o_t_value, o_t_cuts, o_t_letters, o_t_plain, .ref a_t_rules, .ref a_t_words, o_t_shorts, o_t_guards, o_t_readRules, o_t_readTable, o_t_readWords, o_t_readShorts, o_t_readGuards, o_t_toldOnes, .ref a_t_state, .int u1_t_isAwake, o_t_sums, o_t_tongue, o_t_bestTable, o_t_may, o_t_mouth, o_t_mouthThen, o_t_isKept, o_t_lanes, o_t_lengths, o_t_cells, o_t_torn])), (a_t_state, .inl (g.1 1, 192, .inl u1_t_state)), (a_t_rules, .inl (g.1 1, 8, .inl t_rules)), (a_t_words, .inl (g.1 1, 100, .inl t_words))] H := hP.sub [1, 0, 2, 3] rfl
    have hD : va_D A [(a_t, .inr (12, [o_t_tape, o_t_taped, o_t_fault, o_t_broken, o_t_brokenAt, o_t_spot, o_t_here, o_t_token, o_t_value, o_t_cuts, o_t_letters, o_t_plain, .ref a_t_rules, .ref a_t_words, o_t_shorts, o_t_guards, o_t_readRules, o_t_readTable, o_t_readWords, o_t_readShorts, o_t_readGuards, o_t_toldOnes, .ref a_t_state, .int u1_t_isAwake, o_t_sums, o_t_tongue, o_t_bestTable, o_t_may, o_t_mouth, o_t_mouthThen, o_t_isKept, o_t_lanes, o_t_lengths, o_t_cells, o_t_torn])), (a_t_state, .inl (g.1 1, 192, .inl u1_t_state)), (a_t_rules, .inl (g.1 1, 8, .inl t_rules)), (a_t_words, .inl (g.1 1, 100, .inl t_words))] := hD.sub [1, 0, 2, 3] (by decide) rfl
    refine lv_istore_n (lv' := [(2, .int r4), (0, .ref a_t), (1, .int x1)]) hx hb dX12_teach_22 rfl hl (by decide) rfl (fun ls hl => ?_)
    refine lv_iconst (v := 0) hx hb dX12_teach_23 (by decide) ?_
    refine lv_istore_n (lv' := [(3, .int 0), (2, .int r4), (0, .ref a_t), (1, .int x1)]) hx hb dX12_teach_24 rfl hl (by decide) rfl (fun ls hl => ?_)
    refine lv_bipush (v := (-4)) hx hb dX12_teach_25 (by decide) ?_
    refine lv_istore (lv' := [(4, .int ((-4))), (3, .int 0), (2, .int r4), (0, .ref a_t), (1, .int x1)]) hx hb dX12_teach_27 hl (by decide) rfl (fun ls hl => ?_)
    refine lv_iconst (v := 0) hx hb dX12_teach_29 (by decide) ?_
    refine lv_istore (lv' := [(5, .int 0), (4, .int ((-4))), (3, .int 0), (2, .int r4), (0, .ref a_t), (1, .int x1)]) hx hb dX12_teach_30 hl (by decide) rfl (fun ls hl => ?_)
    obtain ⟨n9, h⟩ := h
    exact L32 x1 r4 u1_t_isAwake u1_t_state n9 0 ((-4)) 0 h _ _ hP hD hS _ (lv_sub hl [4, 5, 3, 2, 1, 0] rfl)
  · have h := h.2 c3
    refine lv_iconst (v := (-1)) hx hb dX12_teach_16 (by decide) ?_
    exact hret ((-1)) _ _ _ _ _ ⟨u1_t_isAwake, u1_t_state, rfl, h⟩ hP hD hS dX12_teach_17
theorem hdX12_isCell : yX12_isCell.cls = RX12 ∧ yX12_isCell.cls ≠ "java/lang/invoke/MethodHandle" ∧ yX12_isCell.cls ≠ "java/lang/invoke/VarHandle" ∧ (parseMethodDescriptor yX12_isCell.desc).map (fun d => d.parameters.length) = some 1 := by decide +kernel
abbrev rmX12_isCell : Room := { frames := 2, cells := 0, slots := 0, locals := 200 }
set_option maxHeartbeats 4000000 in
set_option maxRecDepth 100000 in
theorem c_X12_isCell (l : Launch) (D : va_G) (g : gE) (x0 : Int32) (post : Int32 → Prop) (h : wp_X12_isCell x0 post) : Ci l D g yX12_isCell (.code yX12_isCell cX12_isCell 1 (some .boolean) :: wsL_law) rmX12_isCell [.int x0] [] (fun r W' => W' = [] ∧ post r) := by
  refine Cz.of (cc := cX12_isCell) (maxL := 1) (by decide) rfl (Nat.le_of_ble_eq_true rfl) ?_
  intro p e s m args below meth c A Q hx hb hml hts hown hA H locs hP hD hS hG ls hl hret
  have hown : s.vm.findClass RX12 = some m.cls := hown
  have hl : lv_has ls 1 [(0, .int x0)] := hl
  have lk0 := hts (.constantLong RX12 206 (10)) (List.mem_cons_of_mem _ (inR_25 (List.mem_of_getElem? (i := 3) rfl)))
  unfold wp_X12_isCell at h
  try dsimp only at h
  refine lv_iload_n hx hb dX12_isCell_0 rfl (lv_at hl 0 rfl) ?_
  refine lv_i2l hx hb dX12_isCell_1 rfl ?_
  refine lv_lconst (v := 0) hx hb dX12_isCell_2 (by decide) ?_
  refine lv_ldc2 hx hb hown lk0 dX12_isCell_3 ?_
  refine k_i (wr := []) hA hP hD hS [] [] rfl rfl (by decide) (by decide) (va_runS (As := [.long x0.toInt64, .long 0, .long ((10))]) (rest := []) ⟨hx, hb, hml, hown, hts⟩ (c_X12_in l D g x0.toInt64 0 ((10)) _ h H.size) (va_cwS 3 hts (gdS (inR_10 (List.mem_of_getElem? (i := 1) rfl)) (inR_10 (List.mem_of_getElem? (i := 2) rfl)) (inR_1 (List.mem_of_getElem? (i := 5) rfl)) (inR_10 (List.mem_of_getElem? (i := 3) rfl))) rfl rfl rfl hdX12_in.2 ⟨Nat.le_of_ble_eq_true rfl, Nat.le_of_ble_eq_true rfl⟩) (k_preS hG hA hP hD hS [] rfl (by decide)) rfl rfl hl.1 rfl (lv_room (Nat.le_of_ble_eq_true rfl)) dX12_isCell_6 ⟨Nat.zero_le _, Nat.zero_le _⟩) (fun r1 W' H locs h hP hD hS => ?_)
  obtain ⟨rfl, h⟩ := h
  have hP : va_P D vwCl [] H := hP.sub [] rfl
  have hD : va_D A [] := hD.sub [] (by decide) rfl
  obtain ⟨hzb, h⟩ := h
  exact hret r1 _ _ _ _ _ hzb ⟨rfl, h⟩ hP hD hS dX12_isCell_9
theorem hdX12_said : yX12_said.cls = RX12 ∧ yX12_said.cls ≠ "java/lang/invoke/MethodHandle" ∧ yX12_said.cls ≠ "java/lang/invoke/VarHandle" ∧ (parseMethodDescriptor yX12_said.desc).map (fun d => d.parameters.length) = some 3 := by decide +kernel
abbrev rmX12_said : Room := { frames := 3, cells := 0, slots := 0, locals := 300 }
set_option maxHeartbeats 4000000 in
set_option maxRecDepth 100000 in
theorem c_X12_said (l : Launch) (D : va_G) (g : gE) (a_t : Nat) (a_t_rules : Nat) (a_t_state : Nat) (o_t_tape : Value) (o_t_taped : Value) (o_t_fault : Value) (o_t_broken : Value) (o_t_brokenAt : Value) (o_t_spot : Value) (o_t_here : Value) (o_t_token : Value) (o_t_value : Value) (o_t_cuts : Value) (o_t_letters : Value) (o_t_plain : Value) (o_t_words : Value) (o_t_shorts : Value) (o_t_guards : Value) (o_t_readRules : Value) (o_t_readTable : Value) (o_t_readWords : Value) (o_t_readShorts : Value) (o_t_readGuards : Value) (o_t_toldOnes : Value) (o_t_isAwake : Value) (o_t_sums : Value) (o_t_tongue : Value) (o_t_bestTable : Value) (o_t_may : Value) (o_t_mouth : Value) (o_t_mouthThen : Value) (o_t_isKept : Value) (o_t_lanes : Value) (o_t_lengths : Value) (o_t_cells : Value) (o_t_torn : Value) (t_rules : Nat → Int32) (t_state : Nat → Int32) (x1 : Int32) (x2 : Int32) (x3 : Int32) (post : Int32 → (Nat → Int32) → Prop) (h : wp_X12_said t_rules t_state x1 x2 x3 post) : Ci l D g yX12_said (.code yX12_said cX12_said 5 (some .int) :: wsL_law) rmX12_said [.ref a_t, .int x1, .int x2, .int x3] [(a_t, .inr (12, [o_t_tape, o_t_taped, o_t_fault, o_t_broken, o_t_brokenAt, o_t_spot, o_t_here, o_t_token, o_t_value, o_t_cuts, o_t_letters, o_t_plain, .ref a_t_rules, o_t_words, o_t_shorts, o_t_guards, o_t_readRules, o_t_readTable, o_t_readWords, o_t_readShorts, o_t_readGuards, o_t_toldOnes, .ref a_t_state, o_t_isAwake, o_t_sums, o_t_tongue, o_t_bestTable, o_t_may, o_t_mouth, o_t_mouthThen, o_t_isKept, o_t_lanes, o_t_lengths, o_t_cells, o_t_torn])), (a_t_rules, .inl (g.1 1, 8, .inl t_rules)), (a_t_state, .inl (g.1 1, 192, .inl t_state))] (fun r W' => ∃ (nw_t_state : Nat → Int32), W' = [(a_t, .inr (12, [o_t_tape, o_t_taped, o_t_fault, o_t_broken, o_t_brokenAt, o_t_spot, o_t_here, o_t_token, o_t_value, o_t_cuts, o_t_letters, o_t_plain, .ref a_t_rules, o_t_words, o_t_shorts, o_t_guards, o_t_readRules, o_t_readTable, o_t_readWords, o_t_readShorts, o_t_readGuards, o_t_toldOnes, .ref a_t_state, o_t_isAwake, o_t_sums, o_t_tongue, o_t_bestTable, o_t_may, o_t_mouth, o_t_mouthThen, o_t_isKept, o_t_lanes, o_t_lengths, o_t_cells, o_t_torn])), (a_t_rules, .inl (g.1 1, 8, .inl t_rules)), (a_t_state, .inl (g.1 1, 192, .inl nw_t_state))] ∧ post r nw_t_state) := by
  refine Ci.of (cc := cX12_said) (maxL := 5) (by decide) rfl (Nat.le_of_ble_eq_true rfl) ?_
  intro p e s m args below meth c A Q hx hb hml hts hown hA H locs hP hD hS hG ls hl hret
  have hown : s.vm.findClass RX12 = some m.cls := hown
  have hl : lv_has ls 5 [(0, .ref a_t), (1, .int x1), (2, .int x2), (3, .int x3)] := hl
  have lk0 := hts (.fieldLink RX12 49 "KnockWallModel" "state" "[I") (List.mem_cons_of_mem _ (inR_8 (List.mem_of_getElem? (i := 14) rfl)))
  have L68 : ∀ (x1 : Int32) (x2 : Int32) (x3 : Int32) (x4 : Int32) (t_state : Nat → Int32) (z1 : Int32) (z2 : Int32) (K_27 : (Int32 × (Nat → Int32)) → Prop) (hK_27 : ∀ (x4 : Int32) (t_state : Nat → Int32), K_27 (x4, t_state) → ∀ (H : Heap) (locs : List Loc), va_P D vwCl [(a_t, .inr (12, [o_t_tape, o_t_taped, o_t_fault, o_t_broken, o_t_brokenAt, o_t_spot, o_t_here, o_t_token, o_t_value, o_t_cuts, o_t_letters, o_t_plain, .ref a_t_rules, o_t_words, o_t_shorts, o_t_guards, o_t_readRules, o_t_readTable, o_t_readWords, o_t_readShorts, o_t_readGuards, o_t_toldOnes, .ref a_t_state, o_t_isAwake, o_t_sums, o_t_tongue, o_t_bestTable, o_t_may, o_t_mouth, o_t_mouthThen, o_t_isKept, o_t_lanes, o_t_lengths, o_t_cells, o_t_torn])), (a_t_rules, .inl (g.1 1, 8, .inl t_rules)), (a_t_state, .inl (g.1 1, 192, .inl t_state))] H → va_D A [(a_t, .inr (12, [o_t_tape, o_t_taped, o_t_fault, o_t_broken, o_t_brokenAt, o_t_spot, o_t_here, o_t_token, o_t_value, o_t_cuts, o_t_letters, o_t_plain, .ref a_t_rules, o_t_words, o_t_shorts, o_t_guards, o_t_readRules, o_t_readTable, o_t_readWords, o_t_readShorts, o_t_readGuards, o_t_toldOnes, .ref a_t_state, o_t_isAwake, o_t_sums, o_t_tongue, o_t_bestTable, o_t_may, o_t_mouth, o_t_mouthThen, o_t_isKept, o_t_lanes, o_t_lengths, o_t_cells, o_t_torn])), (a_t_rules, .inl (g.1 1, 8, .inl t_rules)), (a_t_state, .inl (g.1 1, 192, .inl t_state))] → va_S A s.heap H locs → ∀ (ls : Array Slot), lv_has ls 5 [(0, .ref a_t), (1, .int x1), (2, .int x2), (3, .int x3), (4, .int x4)] → W p l e rmX12_said s m args below meth c H locs 0 0 Q (F0 m 27 ls [])), B_X12_said_68 x4 t_state z1 z2 K_27 → ∀ (H : Heap) (locs : List Loc), va_P D vwCl [(a_t, .inr (12, [o_t_tape, o_t_taped, o_t_fault, o_t_broken, o_t_brokenAt, o_t_spot, o_t_here, o_t_token, o_t_value, o_t_cuts, o_t_letters, o_t_plain, .ref a_t_rules, o_t_words, o_t_shorts, o_t_guards, o_t_readRules, o_t_readTable, o_t_readWords, o_t_readShorts, o_t_readGuards, o_t_toldOnes, .ref a_t_state, o_t_isAwake, o_t_sums, o_t_tongue, o_t_bestTable, o_t_may, o_t_mouth, o_t_mouthThen, o_t_isKept, o_t_lanes, o_t_lengths, o_t_cells, o_t_torn])), (a_t_rules, .inl (g.1 1, 8, .inl t_rules)), (a_t_state, .inl (g.1 1, 192, .inl t_state))] H → va_D A [(a_t, .inr (12, [o_t_tape, o_t_taped, o_t_fault, o_t_broken, o_t_brokenAt, o_t_spot, o_t_here, o_t_token, o_t_value, o_t_cuts, o_t_letters, o_t_plain, .ref a_t_rules, o_t_words, o_t_shorts, o_t_guards, o_t_readRules, o_t_readTable, o_t_readWords, o_t_readShorts, o_t_readGuards, o_t_toldOnes, .ref a_t_state, o_t_isAwake, o_t_sums, o_t_tongue, o_t_bestTable, o_t_may, o_t_mouth, o_t_mouthThen, o_t_isKept, o_t_lanes, o_t_lengths, o_t_cells, o_t_torn])), (a_t_rules, .inl (g.1 1, 8, .inl t_rules)), (a_t_state, .inl (g.1 1, 192, .inl t_state))] → va_S A s.heap H locs → ∀ (ls : Array Slot), lv_has ls 5 [(0, .ref a_t), (1, .int x1), (2, .int x2), (3, .int x3), (4, .int x4)] → W p l e rmX12_said s m args below meth c H locs 0 0 Q (F0 m 68 ls [.int z2, .int z1, .ref a_t_state]) := by
    intro x1 x2 x3 x4 t_state z1 z2 K_27 hK_27
    intro h H locs hP hD hS ls hl
    unfold B_X12_said_68 at h
    try dsimp only at h
    refine lv_iconst (v := 1) hx hb dX12_said_68 (by decide) ?_
    refine lv_iload hx hb dX12_said_69 (lv_at hl 4 rfl) ?_
    refine lv_ishl hx hb dX12_said_71 ?_
    refine lv_goto (tgt := 76) hx hb dX12_said_72 (by decide) ?_
    refine lv_ior hx hb dX12_said_76 ?_
    obtain ⟨hv16, h⟩ := h
    refine va_iast hx hb hG.k hP hD hS 2 1 rfl rfl hv16 dX12_said_77 (fun H locs hP hD hS => ?_)
    have hP : va_P D vwCl [(a_t, .inr (12, [o_t_tape, o_t_taped, o_t_fault, o_t_broken, o_t_brokenAt, o_t_spot, o_t_here, o_t_token, o_t_value, o_t_cuts, o_t_letters, o_t_plain, .ref a_t_rules, o_t_words, o_t_shorts, o_t_guards, o_t_readRules, o_t_readTable, o_t_readWords, o_t_readShorts, o_t_readGuards, o_t_toldOnes, .ref a_t_state, o_t_isAwake, o_t_sums, o_t_tongue, o_t_bestTable, o_t_may, o_t_mouth, o_t_mouthThen, o_t_isKept, o_t_lanes, o_t_lengths, o_t_cells, o_t_torn])), (a_t_rules, .inl (g.1 1, 8, .inl t_rules)), (a_t_state, .inl (g.1 1, 192, .inl (upd t_state z1.toNatClampNeg (z2 ||| ((1 : Int32) <<< (x4 &&& 31))))))] H := hP
    have hD : va_D A [(a_t, .inr (12, [o_t_tape, o_t_taped, o_t_fault, o_t_broken, o_t_brokenAt, o_t_spot, o_t_here, o_t_token, o_t_value, o_t_cuts, o_t_letters, o_t_plain, .ref a_t_rules, o_t_words, o_t_shorts, o_t_guards, o_t_readRules, o_t_readTable, o_t_readWords, o_t_readShorts, o_t_readGuards, o_t_toldOnes, .ref a_t_state, o_t_isAwake, o_t_sums, o_t_tongue, o_t_bestTable, o_t_may, o_t_mouth, o_t_mouthThen, o_t_isKept, o_t_lanes, o_t_lengths, o_t_cells, o_t_torn])), (a_t_rules, .inl (g.1 1, 8, .inl t_rules)), (a_t_state, .inl (g.1 1, 192, .inl (upd t_state z1.toNatClampNeg (z2 ||| ((1 : Int32) <<< (x4 &&& 31))))))] := hD
    refine lv_iinc (v := x4 + 1) (lv' := [(4, .int (x4 + 1)), (0, .ref a_t), (1, .int x1), (2, .int x2), (3, .int x3)]) hx hb dX12_said_78 hl (k := 4) rfl rfl (by decide) rfl (fun ls hl => ?_)
    refine lv_goto (tgt := 27) hx hb dX12_said_81 (by decide) ?_
    exact hK_27 (x4 + 1) (upd t_state z1.toNatClampNeg (z2 ||| ((1 : Int32) <<< (x4 &&& 31)))) h _ _ hP hD hS _ (lv_sub hl [1, 2, 3, 4, 0] rfl)
  have L56 : ∀ (x1 : Int32) (x2 : Int32) (x3 : Int32) (x4 : Int32) (t_state : Nat → Int32) (z1 : Int32) (z2 : Int32) (K_27 : (Int32 × (Nat → Int32)) → Prop) (hK_27 : ∀ (x4 : Int32) (t_state : Nat → Int32), K_27 (x4, t_state) → ∀ (H : Heap) (locs : List Loc), va_P D vwCl [(a_t, .inr (12, [o_t_tape, o_t_taped, o_t_fault, o_t_broken, o_t_brokenAt, o_t_spot, o_t_here, o_t_token, o_t_value, o_t_cuts, o_t_letters, o_t_plain, .ref a_t_rules, o_t_words, o_t_shorts, o_t_guards, o_t_readRules, o_t_readTable, o_t_readWords, o_t_readShorts, o_t_readGuards, o_t_toldOnes, .ref a_t_state, o_t_isAwake, o_t_sums, o_t_tongue, o_t_bestTable, o_t_may, o_t_mouth, o_t_mouthThen, o_t_isKept, o_t_lanes, o_t_lengths, o_t_cells, o_t_torn])), (a_t_rules, .inl (g.1 1, 8, .inl t_rules)), (a_t_state, .inl (g.1 1, 192, .inl t_state))] H → va_D A [(a_t, .inr (12, [o_t_tape, o_t_taped, o_t_fault, o_t_broken, o_t_brokenAt, o_t_spot, o_t_here, o_t_token, o_t_value, o_t_cuts, o_t_letters, o_t_plain, .ref a_t_rules, o_t_words, o_t_shorts, o_t_guards, o_t_readRules, o_t_readTable, o_t_readWords, o_t_readShorts, o_t_readGuards, o_t_toldOnes, .ref a_t_state, o_t_isAwake, o_t_sums, o_t_tongue, o_t_bestTable, o_t_may, o_t_mouth, o_t_mouthThen, o_t_isKept, o_t_lanes, o_t_lengths, o_t_cells, o_t_torn])), (a_t_rules, .inl (g.1 1, 8, .inl t_rules)), (a_t_state, .inl (g.1 1, 192, .inl t_state))] → va_S A s.heap H locs → ∀ (ls : Array Slot), lv_has ls 5 [(0, .ref a_t), (1, .int x1), (2, .int x2), (3, .int x3), (4, .int x4)] → W p l e rmX12_said s m args below meth c H locs 0 0 Q (F0 m 27 ls [])), B_X12_said_56 x2 x3 x4 t_state z1 z2 K_27 → ∀ (H : Heap) (locs : List Loc), va_P D vwCl [(a_t, .inr (12, [o_t_tape, o_t_taped, o_t_fault, o_t_broken, o_t_brokenAt, o_t_spot, o_t_here, o_t_token, o_t_value, o_t_cuts, o_t_letters, o_t_plain, .ref a_t_rules, o_t_words, o_t_shorts, o_t_guards, o_t_readRules, o_t_readTable, o_t_readWords, o_t_readShorts, o_t_readGuards, o_t_toldOnes, .ref a_t_state, o_t_isAwake, o_t_sums, o_t_tongue, o_t_bestTable, o_t_may, o_t_mouth, o_t_mouthThen, o_t_isKept, o_t_lanes, o_t_lengths, o_t_cells, o_t_torn])), (a_t_rules, .inl (g.1 1, 8, .inl t_rules)), (a_t_state, .inl (g.1 1, 192, .inl t_state))] H → va_D A [(a_t, .inr (12, [o_t_tape, o_t_taped, o_t_fault, o_t_broken, o_t_brokenAt, o_t_spot, o_t_here, o_t_token, o_t_value, o_t_cuts, o_t_letters, o_t_plain, .ref a_t_rules, o_t_words, o_t_shorts, o_t_guards, o_t_readRules, o_t_readTable, o_t_readWords, o_t_readShorts, o_t_readGuards, o_t_toldOnes, .ref a_t_state, o_t_isAwake, o_t_sums, o_t_tongue, o_t_bestTable, o_t_may, o_t_mouth, o_t_mouthThen, o_t_isKept, o_t_lanes, o_t_lengths, o_t_cells, o_t_torn])), (a_t_rules, .inl (g.1 1, 8, .inl t_rules)), (a_t_state, .inl (g.1 1, 192, .inl t_state))] → va_S A s.heap H locs → ∀ (ls : Array Slot), lv_has ls 5 [(0, .ref a_t), (1, .int x1), (2, .int x2), (3, .int x3), (4, .int x4)] → W p l e rmX12_said s m args below meth c H locs 0 0 Q (F0 m 56 ls [.int z2, .int z1, .ref a_t_state]) := by
    intro x1 x2 x3 x4 t_state z1 z2 K_27 hK_27
    intro h H locs hP hD hS ls hl
    unfold B_X12_said_56 at h
    try dsimp only at h
    refine lv_iload hx hb dX12_said_56 (lv_at hl 4 rfl) ?_
    refine lv_iload_n hx hb dX12_said_58 rfl (lv_at hl 3 rfl) ?_
    refine lv_icmp_lt (tgt := 75) hx hb dX12_said_59 (by decide) (fun c12 => ?_) (fun c12 => ?_)
    · have h := h.1 c12
      refine lv_iconst (v := 0) hx hb dX12_said_75 (by decide) ?_
      refine lv_ior hx hb dX12_said_76 ?_
      obtain ⟨hv13, h⟩ := h
      refine va_iast hx hb hG.k hP hD hS 2 1 rfl rfl hv13 dX12_said_77 (fun H locs hP hD hS => ?_)
      have hP : va_P D vwCl [(a_t, .inr (12, [o_t_tape, o_t_taped, o_t_fault, o_t_broken, o_t_brokenAt, o_t_spot, o_t_here, o_t_token, o_t_value, o_t_cuts, o_t_letters, o_t_plain, .ref a_t_rules, o_t_words, o_t_shorts, o_t_guards, o_t_readRules, o_t_readTable, o_t_readWords, o_t_readShorts, o_t_readGuards, o_t_toldOnes, .ref a_t_state, o_t_isAwake, o_t_sums, o_t_tongue, o_t_bestTable, o_t_may, o_t_mouth, o_t_mouthThen, o_t_isKept, o_t_lanes, o_t_lengths, o_t_cells, o_t_torn])), (a_t_rules, .inl (g.1 1, 8, .inl t_rules)), (a_t_state, .inl (g.1 1, 192, .inl (upd t_state z1.toNatClampNeg (z2 ||| 0))))] H := hP
      have hD : va_D A [(a_t, .inr (12, [o_t_tape, o_t_taped, o_t_fault, o_t_broken, o_t_brokenAt, o_t_spot, o_t_here, o_t_token, o_t_value, o_t_cuts, o_t_letters, o_t_plain, .ref a_t_rules, o_t_words, o_t_shorts, o_t_guards, o_t_readRules, o_t_readTable, o_t_readWords, o_t_readShorts, o_t_readGuards, o_t_toldOnes, .ref a_t_state, o_t_isAwake, o_t_sums, o_t_tongue, o_t_bestTable, o_t_may, o_t_mouth, o_t_mouthThen, o_t_isKept, o_t_lanes, o_t_lengths, o_t_cells, o_t_torn])), (a_t_rules, .inl (g.1 1, 8, .inl t_rules)), (a_t_state, .inl (g.1 1, 192, .inl (upd t_state z1.toNatClampNeg (z2 ||| 0))))] := hD
      refine lv_iinc (v := x4 + 1) (lv' := [(4, .int (x4 + 1)), (0, .ref a_t), (1, .int x1), (2, .int x2), (3, .int x3)]) hx hb dX12_said_78 hl (k := 4) rfl rfl (by decide) rfl (fun ls hl => ?_)
      refine lv_goto (tgt := 27) hx hb dX12_said_81 (by decide) ?_
      exact hK_27 (x4 + 1) (upd t_state z1.toNatClampNeg (z2 ||| 0)) h _ _ hP hD hS _ (lv_sub hl [1, 2, 3, 4, 0] rfl)
    · have h := h.2 c12
      refine lv_iload hx hb dX12_said_62 (lv_at hl 4 rfl) ?_
      refine lv_iload_n hx hb dX12_said_64 rfl (lv_at hl 2 rfl) ?_
      refine lv_icmp_gt (tgt := 75) hx hb dX12_said_65 (by decide) (fun c14 => ?_) (fun c14 => ?_)
      · have h := h.1 c14
        refine lv_iconst (v := 0) hx hb dX12_said_75 (by decide) ?_
        refine lv_ior hx hb dX12_said_76 ?_
        obtain ⟨hv15, h⟩ := h
        refine va_iast hx hb hG.k hP hD hS 2 1 rfl rfl hv15 dX12_said_77 (fun H locs hP hD hS => ?_)
        have hP : va_P D vwCl [(a_t, .inr (12, [o_t_tape, o_t_taped, o_t_fault, o_t_broken, o_t_brokenAt, o_t_spot, o_t_here, o_t_token, o_t_value, o_t_cuts, o_t_letters, o_t_plain, .ref a_t_rules, o_t_words, o_t_shorts, o_t_guards, o_t_readRules, o_t_readTable, o_t_readWords, o_t_readShorts, o_t_readGuards, o_t_toldOnes, .ref a_t_state, o_t_isAwake, o_t_sums, o_t_tongue, o_t_bestTable, o_t_may, o_t_mouth, o_t_mouthThen, o_t_isKept, o_t_lanes, o_t_lengths, o_t_cells, o_t_torn])), (a_t_rules, .inl (g.1 1, 8, .inl t_rules)), (a_t_state, .inl (g.1 1, 192, .inl (upd t_state z1.toNatClampNeg (z2 ||| 0))))] H := hP
        have hD : va_D A [(a_t, .inr (12, [o_t_tape, o_t_taped, o_t_fault, o_t_broken, o_t_brokenAt, o_t_spot, o_t_here, o_t_token, o_t_value, o_t_cuts, o_t_letters, o_t_plain, .ref a_t_rules, o_t_words, o_t_shorts, o_t_guards, o_t_readRules, o_t_readTable, o_t_readWords, o_t_readShorts, o_t_readGuards, o_t_toldOnes, .ref a_t_state, o_t_isAwake, o_t_sums, o_t_tongue, o_t_bestTable, o_t_may, o_t_mouth, o_t_mouthThen, o_t_isKept, o_t_lanes, o_t_lengths, o_t_cells, o_t_torn])), (a_t_rules, .inl (g.1 1, 8, .inl t_rules)), (a_t_state, .inl (g.1 1, 192, .inl (upd t_state z1.toNatClampNeg (z2 ||| 0))))] := hD
        refine lv_iinc (v := x4 + 1) (lv' := [(4, .int (x4 + 1)), (0, .ref a_t), (1, .int x1), (2, .int x2), (3, .int x3)]) hx hb dX12_said_78 hl (k := 4) rfl rfl (by decide) rfl (fun ls hl => ?_)
        refine lv_goto (tgt := 27) hx hb dX12_said_81 (by decide) ?_
        exact hK_27 (x4 + 1) (upd t_state z1.toNatClampNeg (z2 ||| 0)) h _ _ hP hD hS _ (lv_sub hl [1, 2, 3, 4, 0] rfl)
      · have h := h.2 c14
        exact L68 x1 x2 x3 x4 t_state z1 z2 _ hK_27 h _ _ hP hD hS _ (lv_sub hl [0, 1, 2, 3, 4] rfl)
  have L27 : ∀ (x1 : Int32) (x2 : Int32) (x3 : Int32), ∀ (n : Nat) (x4 : Int32) (t_state : Nat → Int32), fixN (F_X12_said_27 x1 x2 x3 post) n (x4, t_state) → ∀ (H : Heap) (locs : List Loc), va_P D vwCl [(a_t, .inr (12, [o_t_tape, o_t_taped, o_t_fault, o_t_broken, o_t_brokenAt, o_t_spot, o_t_here, o_t_token, o_t_value, o_t_cuts, o_t_letters, o_t_plain, .ref a_t_rules, o_t_words, o_t_shorts, o_t_guards, o_t_readRules, o_t_readTable, o_t_readWords, o_t_readShorts, o_t_readGuards, o_t_toldOnes, .ref a_t_state, o_t_isAwake, o_t_sums, o_t_tongue, o_t_bestTable, o_t_may, o_t_mouth, o_t_mouthThen, o_t_isKept, o_t_lanes, o_t_lengths, o_t_cells, o_t_torn])), (a_t_rules, .inl (g.1 1, 8, .inl t_rules)), (a_t_state, .inl (g.1 1, 192, .inl t_state))] H → va_D A [(a_t, .inr (12, [o_t_tape, o_t_taped, o_t_fault, o_t_broken, o_t_brokenAt, o_t_spot, o_t_here, o_t_token, o_t_value, o_t_cuts, o_t_letters, o_t_plain, .ref a_t_rules, o_t_words, o_t_shorts, o_t_guards, o_t_readRules, o_t_readTable, o_t_readWords, o_t_readShorts, o_t_readGuards, o_t_toldOnes, .ref a_t_state, o_t_isAwake, o_t_sums, o_t_tongue, o_t_bestTable, o_t_may, o_t_mouth, o_t_mouthThen, o_t_isKept, o_t_lanes, o_t_lengths, o_t_cells, o_t_torn])), (a_t_rules, .inl (g.1 1, 8, .inl t_rules)), (a_t_state, .inl (g.1 1, 192, .inl t_state))] → va_S A s.heap H locs → ∀ (ls : Array Slot), lv_has ls 5 [(0, .ref a_t), (1, .int x1), (2, .int x2), (3, .int x3), (4, .int x4)] → W p l e rmX12_said s m args below meth c H locs 0 0 Q (F0 m 27 ls []) := by
    intro x1 x2 x3
    intro n
    induction n with
    | zero => intro x4 t_state h; exact h.elim
    | succ n ih =>
      intro x4 t_state h H locs hP hD hS ls hl
      have h : F_X12_said_27 x1 x2 x3 post (fixN (F_X12_said_27 x1 x2 x3 post) n) (x4, t_state) := h
      unfold F_X12_said_27 at h
      try dsimp only at h
      refine lv_iload hx hb dX12_said_27 (lv_at hl 4 rfl) ?_
      refine lv_bipush (v := 11) hx hb dX12_said_29 (by decide) ?_
      refine lv_icmp_ge (tgt := 84) hx hb dX12_said_31 (by decide) (fun c7 => ?_) (fun c7 => ?_)
      · have h := h.1 c7
        refine lv_aload_n hx hb dX12_said_84 rfl (lv_at hl 0 rfl) ?_
        refine va_get (ci := 12) (v := .ref a_t_state) (C := RX12) (T := TX12) (N := 35) hx hb hts icX12 hown hG.k hP 0 rfl rfl 22 (by decide) lk0 (fun _ h9 => h9) rfl dX12_said_85 ?_
        refine lv_bipush (v := 50) hx hb dX12_said_88 (by decide) ?_
        refine lv_iload_n hx hb dX12_said_90 rfl (lv_at hl 1 rfl) ?_
        refine lv_iadd hx hb dX12_said_91 ?_
        obtain ⟨hv8, h⟩ := h
        refine va_iald hx hb hG.k hP 2 1 rfl rfl hv8 dX12_said_92 ?_
        refine k_i (wr := [(a_t, .inr (12, [o_t_tape, o_t_taped, o_t_fault, o_t_broken, o_t_brokenAt, o_t_spot, o_t_here, o_t_token, o_t_value, o_t_cuts, o_t_letters, o_t_plain, .ref a_t_rules, o_t_words, o_t_shorts, o_t_guards, o_t_readRules, o_t_readTable, o_t_readWords, o_t_readShorts, o_t_readGuards, o_t_toldOnes, .ref a_t_state, o_t_isAwake, o_t_sums, o_t_tongue, o_t_bestTable, o_t_may, o_t_mouth, o_t_mouthThen, o_t_isKept, o_t_lanes, o_t_lengths, o_t_cells, o_t_torn])), (a_t_rules, .inl (g.1 1, 8, .inl t_rules)), (a_t_state, .inl (g.1 1, 192, .inl t_state))]) hA hP hD hS [] [0, 1, 2] rfl rfl (by decide) (by decide) (va_runS (As := [.int (t_state (50 + x1).toNatClampNeg)]) (rest := []) ⟨hx, hb, hml, hown, hts⟩ (c_X12_bitsOf l D g (t_state (50 + x1).toNatClampNeg) _ h H.size) (va_cwS 1 hts (gdS (inR_46 (List.mem_of_getElem? (i := 9) rfl)) (inR_46 (List.mem_of_getElem? (i := 10) rfl)) (inR_1 (List.mem_of_getElem? (i := 5) rfl)) (inR_46 (List.mem_of_getElem? (i := 11) rfl))) rfl rfl rfl hdX12_bitsOf.2 ⟨Nat.le_of_ble_eq_true rfl, Nat.le_of_ble_eq_true rfl⟩) (k_preS hG hA hP hD hS [] rfl (by decide)) rfl rfl hl.1 rfl (lv_room (Nat.le_of_ble_eq_true rfl)) dX12_said_93 ⟨Nat.zero_le _, Nat.zero_le _⟩) (fun r9 W' H locs h hP hD hS => ?_)
        obtain ⟨rfl, h⟩ := h
        have hP : va_P D vwCl [(a_t, .inr (12, [o_t_tape, o_t_taped, o_t_fault, o_t_broken, o_t_brokenAt, o_t_spot, o_t_here, o_t_token, o_t_value, o_t_cuts, o_t_letters, o_t_plain, .ref a_t_rules, o_t_words, o_t_shorts, o_t_guards, o_t_readRules, o_t_readTable, o_t_readWords, o_t_readShorts, o_t_readGuards, o_t_toldOnes, .ref a_t_state, o_t_isAwake, o_t_sums, o_t_tongue, o_t_bestTable, o_t_may, o_t_mouth, o_t_mouthThen, o_t_isKept, o_t_lanes, o_t_lengths, o_t_cells, o_t_torn])), (a_t_rules, .inl (g.1 1, 8, .inl t_rules)), (a_t_state, .inl (g.1 1, 192, .inl t_state))] H := hP.sub [0, 1, 2] rfl
        have hD : va_D A [(a_t, .inr (12, [o_t_tape, o_t_taped, o_t_fault, o_t_broken, o_t_brokenAt, o_t_spot, o_t_here, o_t_token, o_t_value, o_t_cuts, o_t_letters, o_t_plain, .ref a_t_rules, o_t_words, o_t_shorts, o_t_guards, o_t_readRules, o_t_readTable, o_t_readWords, o_t_readShorts, o_t_readGuards, o_t_toldOnes, .ref a_t_state, o_t_isAwake, o_t_sums, o_t_tongue, o_t_bestTable, o_t_may, o_t_mouth, o_t_mouthThen, o_t_isKept, o_t_lanes, o_t_lengths, o_t_cells, o_t_torn])), (a_t_rules, .inl (g.1 1, 8, .inl t_rules)), (a_t_state, .inl (g.1 1, 192, .inl t_state))] := hD.sub [0, 1, 2] (by decide) rfl
        exact hret r9 _ _ _ _ _ ⟨t_state, rfl, h⟩ hP hD hS dX12_said_96
      · have h := h.2 c7
        refine lv_aload_n hx hb dX12_said_34 rfl (lv_at hl 0 rfl) ?_
        refine va_get (ci := 12) (v := .ref a_t_state) (C := RX12) (T := TX12) (N := 35) hx hb hts icX12 hown hG.k hP 0 rfl rfl 22 (by decide) lk0 (fun _ h9 => h9) rfl dX12_said_35 ?_
        refine lv_bipush (v := 50) hx hb dX12_said_38 (by decide) ?_
        refine lv_iload_n hx hb dX12_said_40 rfl (lv_at hl 1 rfl) ?_
        refine lv_iadd hx hb dX12_said_41 ?_
        refine lv_dup2_11 hx hb dX12_said_42 rfl rfl ?_
        obtain ⟨hv10, h⟩ := h
        refine va_iald hx hb hG.k hP 2 1 rfl rfl hv10 dX12_said_43 ?_
        refine lv_iload hx hb dX12_said_44 (lv_at hl 4 rfl) ?_
        refine lv_iload_n hx hb dX12_said_46 rfl (lv_at hl 2 rfl) ?_
        refine lv_icmp_lt (tgt := 56) hx hb dX12_said_47 (by decide) (fun c11 => ?_) (fun c11 => ?_)
        · have h := h.1 c11
          exact L56 x1 x2 x3 x4 t_state (50 + x1) (t_state (50 + x1).toNatClampNeg) _ ih h _ _ hP hD hS _ (lv_sub hl [0, 1, 2, 3, 4] rfl)
        · have h := h.2 c11
          refine lv_iload hx hb dX12_said_50 (lv_at hl 4 rfl) ?_
          refine lv_iload_n hx hb dX12_said_52 rfl (lv_at hl 3 rfl) ?_
          refine lv_icmp_le (tgt := 68) hx hb dX12_said_53 (by decide) (fun c17 => ?_) (fun c17 => ?_)
          · have h := h.1 c17
            exact L68 x1 x2 x3 x4 t_state (50 + x1) (t_state (50 + x1).toNatClampNeg) _ ih h _ _ hP hD hS _ (lv_sub hl [0, 1, 2, 3, 4] rfl)
          · have h := h.2 c17
            exact L56 x1 x2 x3 x4 t_state (50 + x1) (t_state (50 + x1).toNatClampNeg) _ ih h _ _ hP hD hS _ (lv_sub hl [0, 1, 2, 3, 4] rfl)
  unfold wp_X12_said at h
  try dsimp only at h
  refine lv_aload_n hx hb dX12_said_0 rfl (lv_at hl 0 rfl) ?_
  refine lv_iload_n hx hb dX12_said_1 rfl (lv_at hl 1 rfl) ?_
  refine k_i (wr := [(a_t_state, .inl (g.1 1, 192, .inl t_state))]) hA hP hD hS [0, 1] [2] rfl rfl (by decide) (by decide) (va_runV (As := [.int x1]) (rest := []) ⟨hx, hb, hml, hown, hts⟩ (c_X12_isWord l D g a_t a_t_rules (o_t_tape) (o_t_taped) (o_t_fault) (o_t_broken) (o_t_brokenAt) (o_t_spot) (o_t_here) (o_t_token) (o_t_value) (o_t_cuts) (o_t_letters) (o_t_plain) (o_t_words) (o_t_shorts) (o_t_guards) (o_t_readRules) (o_t_readTable) (o_t_readWords) (o_t_readShorts) (o_t_readGuards) (o_t_toldOnes) (.ref a_t_state) (o_t_isAwake) (o_t_sums) (o_t_tongue) (o_t_bestTable) (o_t_may) (o_t_mouth) (o_t_mouthThen) (o_t_isKept) (o_t_lanes) (o_t_lengths) (o_t_cells) (o_t_torn) t_rules x1 _ h H.size) (cwV 1 hts (gdV (inR_25 (List.mem_of_getElem? (i := 4) rfl)) (inR_25 (List.mem_of_getElem? (i := 5) rfl)) (inR_25 (List.mem_of_getElem? (i := 6) rfl)) (inR_1 (List.mem_of_getElem? (i := 5) rfl)) (inR_25 (List.mem_of_getElem? (i := 7) rfl))) rfl rfl rfl hdX12_isWord ⟨Nat.le_of_ble_eq_true rfl, Nat.le_of_ble_eq_true rfl⟩) (k_preV (q0 := 0) hG hA hP hD hS [0, 1] rfl (by decide) rfl rfl) rfl rfl hl.1 rfl (lv_room (Nat.le_of_ble_eq_true rfl)) dX12_said_2 ⟨Nat.zero_le _, Nat.zero_le _⟩) (fun r1 W' H locs h hP hD hS => ?_)
  obtain ⟨rfl, h⟩ := h
  have hP : va_P D vwCl [(a_t, .inr (12, [o_t_tape, o_t_taped, o_t_fault, o_t_broken, o_t_brokenAt, o_t_spot, o_t_here, o_t_token, o_t_value, o_t_cuts, o_t_letters, o_t_plain, .ref a_t_rules, o_t_words, o_t_shorts, o_t_guards, o_t_readRules, o_t_readTable, o_t_readWords, o_t_readShorts, o_t_readGuards, o_t_toldOnes, .ref a_t_state, o_t_isAwake, o_t_sums, o_t_tongue, o_t_bestTable, o_t_may, o_t_mouth, o_t_mouthThen, o_t_isKept, o_t_lanes, o_t_lengths, o_t_cells, o_t_torn])), (a_t_rules, .inl (g.1 1, 8, .inl t_rules)), (a_t_state, .inl (g.1 1, 192, .inl t_state))] H := hP.sub [1, 2, 0] rfl
  have hD : va_D A [(a_t, .inr (12, [o_t_tape, o_t_taped, o_t_fault, o_t_broken, o_t_brokenAt, o_t_spot, o_t_here, o_t_token, o_t_value, o_t_cuts, o_t_letters, o_t_plain, .ref a_t_rules, o_t_words, o_t_shorts, o_t_guards, o_t_readRules, o_t_readTable, o_t_readWords, o_t_readShorts, o_t_readGuards, o_t_toldOnes, .ref a_t_state, o_t_isAwake, o_t_sums, o_t_tongue, o_t_bestTable, o_t_may, o_t_mouth, o_t_mouthThen, o_t_isKept, o_t_lanes, o_t_lengths, o_t_cells, o_t_torn])), (a_t_rules, .inl (g.1 1, 8, .inl t_rules)), (a_t_state, .inl (g.1 1, 192, .inl t_state))] := hD.sub [1, 2, 0] (by decide) rfl
  refine lv_if_eq (tgt := 22) hx hb dX12_said_5 (by decide) (fun c2 => ?_) (fun c2 => ?_)
  · have h := h.1 c2
    refine lv_iconst (v := (-1)) hx hb dX12_said_22 (by decide) ?_
    exact hret ((-1)) _ _ _ _ _ ⟨t_state, rfl, h⟩ hP hD hS dX12_said_23
  · have h := h.2 c2
    refine lv_iload_n hx hb dX12_said_8 rfl (lv_at hl 2 rfl) ?_
    refine k_i (wr := [(a_t, .inr (12, [o_t_tape, o_t_taped, o_t_fault, o_t_broken, o_t_brokenAt, o_t_spot, o_t_here, o_t_token, o_t_value, o_t_cuts, o_t_letters, o_t_plain, .ref a_t_rules, o_t_words, o_t_shorts, o_t_guards, o_t_readRules, o_t_readTable, o_t_readWords, o_t_readShorts, o_t_readGuards, o_t_toldOnes, .ref a_t_state, o_t_isAwake, o_t_sums, o_t_tongue, o_t_bestTable, o_t_may, o_t_mouth, o_t_mouthThen, o_t_isKept, o_t_lanes, o_t_lengths, o_t_cells, o_t_torn])), (a_t_rules, .inl (g.1 1, 8, .inl t_rules)), (a_t_state, .inl (g.1 1, 192, .inl t_state))]) hA hP hD hS [] [0, 1, 2] rfl rfl (by decide) (by decide) (va_runS (As := [.int x2]) (rest := []) ⟨hx, hb, hml, hown, hts⟩ (c_X12_isCell l D g x2 _ h H.size) (va_cwS 1 hts (gdS (inR_47 (List.mem_of_getElem? (i := 2) rfl)) (inR_47 (List.mem_of_getElem? (i := 3) rfl)) (inR_1 (List.mem_of_getElem? (i := 5) rfl)) (inR_47 (List.mem_of_getElem? (i := 4) rfl))) rfl rfl rfl hdX12_isCell.2 ⟨Nat.le_of_ble_eq_true rfl, Nat.le_of_ble_eq_true rfl⟩) (k_preS hG hA hP hD hS [] rfl (by decide)) rfl rfl hl.1 rfl (lv_room (Nat.le_of_ble_eq_true rfl)) dX12_said_9 ⟨Nat.zero_le _, Nat.zero_le _⟩) (fun r3 W' H locs h hP hD hS => ?_)
    obtain ⟨rfl, h⟩ := h
    have hP : va_P D vwCl [(a_t, .inr (12, [o_t_tape, o_t_taped, o_t_fault, o_t_broken, o_t_brokenAt, o_t_spot, o_t_here, o_t_token, o_t_value, o_t_cuts, o_t_letters, o_t_plain, .ref a_t_rules, o_t_words, o_t_shorts, o_t_guards, o_t_readRules, o_t_readTable, o_t_readWords, o_t_readShorts, o_t_readGuards, o_t_toldOnes, .ref a_t_state, o_t_isAwake, o_t_sums, o_t_tongue, o_t_bestTable, o_t_may, o_t_mouth, o_t_mouthThen, o_t_isKept, o_t_lanes, o_t_lengths, o_t_cells, o_t_torn])), (a_t_rules, .inl (g.1 1, 8, .inl t_rules)), (a_t_state, .inl (g.1 1, 192, .inl t_state))] H := hP.sub [0, 1, 2] rfl
    have hD : va_D A [(a_t, .inr (12, [o_t_tape, o_t_taped, o_t_fault, o_t_broken, o_t_brokenAt, o_t_spot, o_t_here, o_t_token, o_t_value, o_t_cuts, o_t_letters, o_t_plain, .ref a_t_rules, o_t_words, o_t_shorts, o_t_guards, o_t_readRules, o_t_readTable, o_t_readWords, o_t_readShorts, o_t_readGuards, o_t_toldOnes, .ref a_t_state, o_t_isAwake, o_t_sums, o_t_tongue, o_t_bestTable, o_t_may, o_t_mouth, o_t_mouthThen, o_t_isKept, o_t_lanes, o_t_lengths, o_t_cells, o_t_torn])), (a_t_rules, .inl (g.1 1, 8, .inl t_rules)), (a_t_state, .inl (g.1 1, 192, .inl t_state))] := hD.sub [0, 1, 2] (by decide) rfl
    refine lv_if_eq (tgt := 22) hx hb dX12_said_12 (by decide) (fun c4 => ?_) (fun c4 => ?_)
    · have h := h.1 c4
      refine lv_iconst (v := (-1)) hx hb dX12_said_22 (by decide) ?_
      exact hret ((-1)) _ _ _ _ _ ⟨t_state, rfl, h⟩ hP hD hS dX12_said_23
    · have h := h.2 c4
      refine lv_iload_n hx hb dX12_said_15 rfl (lv_at hl 3 rfl) ?_
      refine k_i (wr := [(a_t, .inr (12, [o_t_tape, o_t_taped, o_t_fault, o_t_broken, o_t_brokenAt, o_t_spot, o_t_here, o_t_token, o_t_value, o_t_cuts, o_t_letters, o_t_plain, .ref a_t_rules, o_t_words, o_t_shorts, o_t_guards, o_t_readRules, o_t_readTable, o_t_readWords, o_t_readShorts, o_t_readGuards, o_t_toldOnes, .ref a_t_state, o_t_isAwake, o_t_sums, o_t_tongue, o_t_bestTable, o_t_may, o_t_mouth, o_t_mouthThen, o_t_isKept, o_t_lanes, o_t_lengths, o_t_cells, o_t_torn])), (a_t_rules, .inl (g.1 1, 8, .inl t_rules)), (a_t_state, .inl (g.1 1, 192, .inl t_state))]) hA hP hD hS [] [0, 1, 2] rfl rfl (by decide) (by decide) (va_runS (As := [.int x3]) (rest := []) ⟨hx, hb, hml, hown, hts⟩ (c_X12_isCell l D g x3 _ h H.size) (va_cwS 1 hts (gdS (inR_47 (List.mem_of_getElem? (i := 2) rfl)) (inR_47 (List.mem_of_getElem? (i := 3) rfl)) (inR_1 (List.mem_of_getElem? (i := 5) rfl)) (inR_47 (List.mem_of_getElem? (i := 4) rfl))) rfl rfl rfl hdX12_isCell.2 ⟨Nat.le_of_ble_eq_true rfl, Nat.le_of_ble_eq_true rfl⟩) (k_preS hG hA hP hD hS [] rfl (by decide)) rfl rfl hl.1 rfl (lv_room (Nat.le_of_ble_eq_true rfl)) dX12_said_16 ⟨Nat.zero_le _, Nat.zero_le _⟩) (fun r5 W' H locs h hP hD hS => ?_)
      obtain ⟨rfl, h⟩ := h
      have hP : va_P D vwCl [(a_t, .inr (12, [o_t_tape, o_t_taped, o_t_fault, o_t_broken, o_t_brokenAt, o_t_spot, o_t_here, o_t_token, o_t_value, o_t_cuts, o_t_letters, o_t_plain, .ref a_t_rules, o_t_words, o_t_shorts, o_t_guards, o_t_readRules, o_t_readTable, o_t_readWords, o_t_readShorts, o_t_readGuards, o_t_toldOnes, .ref a_t_state, o_t_isAwake, o_t_sums, o_t_tongue, o_t_bestTable, o_t_may, o_t_mouth, o_t_mouthThen, o_t_isKept, o_t_lanes, o_t_lengths, o_t_cells, o_t_torn])), (a_t_rules, .inl (g.1 1, 8, .inl t_rules)), (a_t_state, .inl (g.1 1, 192, .inl t_state))] H := hP.sub [0, 1, 2] rfl
      have hD : va_D A [(a_t, .inr (12, [o_t_tape, o_t_taped, o_t_fault, o_t_broken, o_t_brokenAt, o_t_spot, o_t_here, o_t_token, o_t_value, o_t_cuts, o_t_letters, o_t_plain, .ref a_t_rules, o_t_words, o_t_shorts, o_t_guards, o_t_readRules, o_t_readTable, o_t_readWords, o_t_readShorts, o_t_readGuards, o_t_toldOnes, .ref a_t_state, o_t_isAwake, o_t_sums, o_t_tongue, o_t_bestTable, o_t_may, o_t_mouth, o_t_mouthThen, o_t_isKept, o_t_lanes, o_t_lengths, o_t_cells, o_t_torn])), (a_t_rules, .inl (g.1 1, 8, .inl t_rules)), (a_t_state, .inl (g.1 1, 192, .inl t_state))] := hD.sub [0, 1, 2] (by decide) rfl
      refine lv_if_ne (tgt := 24) hx hb dX12_said_19 (by decide) (fun c6 => ?_) (fun c6 => ?_)
      · have h := h.1 c6
        refine lv_iconst (v := 0) hx hb dX12_said_24 (by decide) ?_
        refine lv_istore (lv' := [(4, .int 0), (0, .ref a_t), (1, .int x1), (2, .int x2), (3, .int x3)]) hx hb dX12_said_25 hl (by decide) rfl (fun ls hl => ?_)
        obtain ⟨n9, h⟩ := h
        exact L27 x1 x2 x3 n9 0 t_state h _ _ hP hD hS _ (lv_sub hl [1, 2, 3, 4, 0] rfl)
      · have h := h.2 c6
        refine lv_iconst (v := (-1)) hx hb dX12_said_22 (by decide) ?_
        exact hret ((-1)) _ _ _ _ _ ⟨t_state, rfl, h⟩ hP hD hS dX12_said_23
theorem hdX12_knows : yX12_knows.cls = RX12 ∧ yX12_knows.cls ≠ "java/lang/invoke/MethodHandle" ∧ yX12_knows.cls ≠ "java/lang/invoke/VarHandle" ∧ (parseMethodDescriptor yX12_knows.desc).map (fun d => d.parameters.length) = some 1 := by decide +kernel
abbrev rmX12_knows : Room := { frames := 3, cells := 0, slots := 0, locals := 300 }
set_option maxHeartbeats 4000000 in
set_option maxRecDepth 100000 in
theorem c_X12_knows (l : Launch) (D : va_G) (g : gE) (a_t : Nat) (a_t_rules : Nat) (a_t_state : Nat) (o_t_tape : Value) (o_t_taped : Value) (o_t_fault : Value) (o_t_broken : Value) (o_t_brokenAt : Value) (o_t_spot : Value) (o_t_here : Value) (o_t_token : Value) (o_t_value : Value) (o_t_cuts : Value) (o_t_letters : Value) (o_t_plain : Value) (o_t_words : Value) (o_t_shorts : Value) (o_t_guards : Value) (o_t_readRules : Value) (o_t_readTable : Value) (o_t_readWords : Value) (o_t_readShorts : Value) (o_t_readGuards : Value) (o_t_toldOnes : Value) (o_t_isAwake : Value) (o_t_sums : Value) (o_t_tongue : Value) (o_t_bestTable : Value) (o_t_may : Value) (o_t_mouth : Value) (o_t_mouthThen : Value) (o_t_isKept : Value) (o_t_lanes : Value) (o_t_lengths : Value) (o_t_cells : Value) (o_t_torn : Value) (t_rules : Nat → Int32) (t_state : Nat → Int32) (x1 : Int32) (post : Int32 → Prop) (h : wp_X12_knows t_rules t_state x1 post) : Ci l D g yX12_knows (.code yX12_knows cX12_knows 2 (some .int) :: wsL_law) rmX12_knows [.ref a_t, .int x1] [(a_t, .inr (12, [o_t_tape, o_t_taped, o_t_fault, o_t_broken, o_t_brokenAt, o_t_spot, o_t_here, o_t_token, o_t_value, o_t_cuts, o_t_letters, o_t_plain, .ref a_t_rules, o_t_words, o_t_shorts, o_t_guards, o_t_readRules, o_t_readTable, o_t_readWords, o_t_readShorts, o_t_readGuards, o_t_toldOnes, .ref a_t_state, o_t_isAwake, o_t_sums, o_t_tongue, o_t_bestTable, o_t_may, o_t_mouth, o_t_mouthThen, o_t_isKept, o_t_lanes, o_t_lengths, o_t_cells, o_t_torn])), (a_t_rules, .inl (g.1 1, 8, .inl t_rules)), (a_t_state, .inl (g.1 1, 192, .inl t_state))] (fun r W' => W' = [(a_t, .inr (12, [o_t_tape, o_t_taped, o_t_fault, o_t_broken, o_t_brokenAt, o_t_spot, o_t_here, o_t_token, o_t_value, o_t_cuts, o_t_letters, o_t_plain, .ref a_t_rules, o_t_words, o_t_shorts, o_t_guards, o_t_readRules, o_t_readTable, o_t_readWords, o_t_readShorts, o_t_readGuards, o_t_toldOnes, .ref a_t_state, o_t_isAwake, o_t_sums, o_t_tongue, o_t_bestTable, o_t_may, o_t_mouth, o_t_mouthThen, o_t_isKept, o_t_lanes, o_t_lengths, o_t_cells, o_t_torn])), (a_t_rules, .inl (g.1 1, 8, .inl t_rules)), (a_t_state, .inl (g.1 1, 192, .inl t_state))] ∧ post r) := by
  refine Ci.of (cc := cX12_knows) (maxL := 2) (by decide) rfl (Nat.le_of_ble_eq_true rfl) ?_
  intro p e s m args below meth c A Q hx hb hml hts hown hA H locs hP hD hS hG ls hl hret
  have hown : s.vm.findClass RX12 = some m.cls := hown
  have hl : lv_has ls 2 [(0, .ref a_t), (1, .int x1)] := hl
  have lk0 := hts (.fieldLink RX12 49 "KnockWallModel" "state" "[I") (List.mem_cons_of_mem _ (inR_8 (List.mem_of_getElem? (i := 14) rfl)))
  unfold wp_X12_knows at h
  try dsimp only at h
  refine lv_aload_n hx hb dX12_knows_0 rfl (lv_at hl 0 rfl) ?_
  refine lv_iload_n hx hb dX12_knows_1 rfl (lv_at hl 1 rfl) ?_
  refine k_i (wr := [(a_t_state, .inl (g.1 1, 192, .inl t_state))]) hA hP hD hS [0, 1] [2] rfl rfl (by decide) (by decide) (va_runV (As := [.int x1]) (rest := []) ⟨hx, hb, hml, hown, hts⟩ (c_X12_isWord l D g a_t a_t_rules (o_t_tape) (o_t_taped) (o_t_fault) (o_t_broken) (o_t_brokenAt) (o_t_spot) (o_t_here) (o_t_token) (o_t_value) (o_t_cuts) (o_t_letters) (o_t_plain) (o_t_words) (o_t_shorts) (o_t_guards) (o_t_readRules) (o_t_readTable) (o_t_readWords) (o_t_readShorts) (o_t_readGuards) (o_t_toldOnes) (.ref a_t_state) (o_t_isAwake) (o_t_sums) (o_t_tongue) (o_t_bestTable) (o_t_may) (o_t_mouth) (o_t_mouthThen) (o_t_isKept) (o_t_lanes) (o_t_lengths) (o_t_cells) (o_t_torn) t_rules x1 _ h H.size) (cwV 1 hts (gdV (inR_25 (List.mem_of_getElem? (i := 4) rfl)) (inR_25 (List.mem_of_getElem? (i := 5) rfl)) (inR_25 (List.mem_of_getElem? (i := 6) rfl)) (inR_1 (List.mem_of_getElem? (i := 5) rfl)) (inR_25 (List.mem_of_getElem? (i := 7) rfl))) rfl rfl rfl hdX12_isWord ⟨Nat.le_of_ble_eq_true rfl, Nat.le_of_ble_eq_true rfl⟩) (k_preV (q0 := 0) hG hA hP hD hS [0, 1] rfl (by decide) rfl rfl) rfl rfl hl.1 rfl (lv_room (Nat.le_of_ble_eq_true rfl)) dX12_knows_2 ⟨Nat.zero_le _, Nat.zero_le _⟩) (fun r1 W' H locs h hP hD hS => ?_)
  obtain ⟨rfl, h⟩ := h
  have hP : va_P D vwCl [(a_t, .inr (12, [o_t_tape, o_t_taped, o_t_fault, o_t_broken, o_t_brokenAt, o_t_spot, o_t_here, o_t_token, o_t_value, o_t_cuts, o_t_letters, o_t_plain, .ref a_t_rules, o_t_words, o_t_shorts, o_t_guards, o_t_readRules, o_t_readTable, o_t_readWords, o_t_readShorts, o_t_readGuards, o_t_toldOnes, .ref a_t_state, o_t_isAwake, o_t_sums, o_t_tongue, o_t_bestTable, o_t_may, o_t_mouth, o_t_mouthThen, o_t_isKept, o_t_lanes, o_t_lengths, o_t_cells, o_t_torn])), (a_t_rules, .inl (g.1 1, 8, .inl t_rules)), (a_t_state, .inl (g.1 1, 192, .inl t_state))] H := hP.sub [1, 2, 0] rfl
  have hD : va_D A [(a_t, .inr (12, [o_t_tape, o_t_taped, o_t_fault, o_t_broken, o_t_brokenAt, o_t_spot, o_t_here, o_t_token, o_t_value, o_t_cuts, o_t_letters, o_t_plain, .ref a_t_rules, o_t_words, o_t_shorts, o_t_guards, o_t_readRules, o_t_readTable, o_t_readWords, o_t_readShorts, o_t_readGuards, o_t_toldOnes, .ref a_t_state, o_t_isAwake, o_t_sums, o_t_tongue, o_t_bestTable, o_t_may, o_t_mouth, o_t_mouthThen, o_t_isKept, o_t_lanes, o_t_lengths, o_t_cells, o_t_torn])), (a_t_rules, .inl (g.1 1, 8, .inl t_rules)), (a_t_state, .inl (g.1 1, 192, .inl t_state))] := hD.sub [1, 2, 0] (by decide) rfl
  refine lv_if_eq (tgt := 20) hx hb dX12_knows_5 (by decide) (fun c2 => ?_) (fun c2 => ?_)
  · have h := h.1 c2
    refine lv_iconst (v := (-1)) hx hb dX12_knows_20 (by decide) ?_
    exact hret ((-1)) _ _ _ _ _ ⟨rfl, h⟩ hP hD hS dX12_knows_21
  · have h := h.2 c2
    refine lv_aload_n hx hb dX12_knows_8 rfl (lv_at hl 0 rfl) ?_
    refine va_get (ci := 12) (v := .ref a_t_state) (C := RX12) (T := TX12) (N := 35) hx hb hts icX12 hown hG.k hP 0 rfl rfl 22 (by decide) lk0 (fun _ h9 => h9) rfl dX12_knows_9 ?_
    refine lv_bipush (v := 50) hx hb dX12_knows_12 (by decide) ?_
    refine lv_iload_n hx hb dX12_knows_14 rfl (lv_at hl 1 rfl) ?_
    refine lv_iadd hx hb dX12_knows_15 ?_
    obtain ⟨hv3, h⟩ := h
    refine va_iald hx hb hG.k hP 2 1 rfl rfl hv3 dX12_knows_16 ?_
    refine lv_goto (tgt := 21) hx hb dX12_knows_17 (by decide) ?_
    exact hret (t_state (50 + x1).toNatClampNeg) _ _ _ _ _ ⟨rfl, h⟩ hP hD hS dX12_knows_21
theorem hdX12_ask : yX12_ask.cls = RX12 ∧ yX12_ask.cls ≠ "java/lang/invoke/MethodHandle" ∧ yX12_ask.cls ≠ "java/lang/invoke/VarHandle" ∧ (parseMethodDescriptor yX12_ask.desc).map (fun d => d.parameters.length) = some 3 := by decide +kernel
abbrev rmX12_ask : Room := { frames := 4, cells := 0, slots := 0, locals := 400 }
set_option maxHeartbeats 4000000 in
set_option maxRecDepth 100000 in
theorem c_X12_ask (l : Launch) (D : va_G) (g : gE) (a_t : Nat) (a_t_state : Nat) (a_t_rules : Nat) (a_t_words : Nat) (o_t_tape : Value) (o_t_taped : Value) (o_t_fault : Value) (o_t_broken : Value) (o_t_brokenAt : Value) (o_t_spot : Value) (o_t_here : Value) (o_t_token : Value) (o_t_value : Value) (o_t_cuts : Value) (o_t_letters : Value) (o_t_plain : Value) (o_t_shorts : Value) (o_t_guards : Value) (o_t_readRules : Value) (o_t_readTable : Value) (o_t_readWords : Value) (o_t_readShorts : Value) (o_t_readGuards : Value) (o_t_toldOnes : Value) (o_t_sums : Value) (o_t_tongue : Value) (o_t_bestTable : Value) (o_t_may : Value) (o_t_mouth : Value) (o_t_mouthThen : Value) (o_t_isKept : Value) (o_t_lanes : Value) (o_t_lengths : Value) (o_t_cells : Value) (o_t_torn : Value) (t_isAwake : Int32) (t_state : Nat → Int32) (t_rules : Nat → Int32) (t_words : Nat → Int32) (x1 : Int32) (x2 : Int32) (x3 : Int32) (post : Int32 → Int32 → (Nat → Int32) → Prop) (h : wp_X12_ask t_isAwake t_state t_rules t_words x1 x2 x3 post) : Ci l D g yX12_ask (.code yX12_ask cX12_ask 8 (some .int) :: wsL_law) rmX12_ask [.ref a_t, .int x1, .int x2, .int x3] [(a_t, .inr (12, [o_t_tape, o_t_taped, o_t_fault, o_t_broken, o_t_brokenAt, o_t_spot, o_t_here, o_t_token, o_t_value, o_t_cuts, o_t_letters, o_t_plain, .ref a_t_rules, .ref a_t_words, o_t_shorts, o_t_guards, o_t_readRules, o_t_readTable, o_t_readWords, o_t_readShorts, o_t_readGuards, o_t_toldOnes, .ref a_t_state, .int t_isAwake, o_t_sums, o_t_tongue, o_t_bestTable, o_t_may, o_t_mouth, o_t_mouthThen, o_t_isKept, o_t_lanes, o_t_lengths, o_t_cells, o_t_torn])), (a_t_state, .inl (g.1 1, 192, .inl t_state)), (a_t_rules, .inl (g.1 1, 8, .inl t_rules)), (a_t_words, .inl (g.1 1, 100, .inl t_words))] (fun r W' => ∃ (nw_t_isAwake : Int32) (nw_t_state : Nat → Int32), W' = [(a_t, .inr (12, [o_t_tape, o_t_taped, o_t_fault, o_t_broken, o_t_brokenAt, o_t_spot, o_t_here, o_t_token, o_t_value, o_t_cuts, o_t_letters, o_t_plain, .ref a_t_rules, .ref a_t_words, o_t_shorts, o_t_guards, o_t_readRules, o_t_readTable, o_t_readWords, o_t_readShorts, o_t_readGuards, o_t_toldOnes, .ref a_t_state, .int nw_t_isAwake, o_t_sums, o_t_tongue, o_t_bestTable, o_t_may, o_t_mouth, o_t_mouthThen, o_t_isKept, o_t_lanes, o_t_lengths, o_t_cells, o_t_torn])), (a_t_state, .inl (g.1 1, 192, .inl nw_t_state)), (a_t_rules, .inl (g.1 1, 8, .inl t_rules)), (a_t_words, .inl (g.1 1, 100, .inl t_words))] ∧ post r nw_t_isAwake nw_t_state) := by
  refine Ci.of (cc := cX12_ask) (maxL := 8) (by decide) rfl (Nat.le_of_ble_eq_true rfl) ?_
  intro p e s m args below meth c A Q hx hb hml hts hown hA H locs hP hD hS hG ls hl hret
  have hown : s.vm.findClass RX12 = some m.cls := hown
  have hl : lv_has ls 8 [(0, .ref a_t), (1, .int x1), (2, .int x2), (3, .int x3)] := hl
  have lk0 := hts (.constantLong RX12 309 (2047)) (List.mem_cons_of_mem _ (inR_47 (List.mem_of_getElem? (i := 21) rfl)))
  have lk1 := hts (.fieldLink RX12 22 "KnockWallModel" "rules" "[I") (List.mem_cons_of_mem _ (inR_8 (List.mem_of_getElem? (i := 5) rfl)))
  have lk2 := hts (.fieldLink RX12 49 "KnockWallModel" "state" "[I") (List.mem_cons_of_mem _ (inR_8 (List.mem_of_getElem? (i := 14) rfl)))
  have L97 : ∀ (x3 : Int32) (x4 : Int32) (x5 : Int32) (x6 : Int32) (t_isAwake : Int32) (t_state : Nat → Int32) (z0 : Int32) (K_48 : (Int32 × Int32) → Prop) (hK_48 : ∀ (x4 : Int32) (x6 : Int32), K_48 (x4, x6) → ∀ (H : Heap) (locs : List Loc), va_P D vwCl [(a_t, .inr (12, [o_t_tape, o_t_taped, o_t_fault, o_t_broken, o_t_brokenAt, o_t_spot, o_t_here, o_t_token, o_t_value, o_t_cuts, o_t_letters, o_t_plain, .ref a_t_rules, .ref a_t_words, o_t_shorts, o_t_guards, o_t_readRules, o_t_readTable, o_t_readWords, o_t_readShorts, o_t_readGuards, o_t_toldOnes, .ref a_t_state, .int t_isAwake, o_t_sums, o_t_tongue, o_t_bestTable, o_t_may, o_t_mouth, o_t_mouthThen, o_t_isKept, o_t_lanes, o_t_lengths, o_t_cells, o_t_torn])), (a_t_state, .inl (g.1 1, 192, .inl t_state)), (a_t_rules, .inl (g.1 1, 8, .inl t_rules)), (a_t_words, .inl (g.1 1, 100, .inl t_words))] H → va_D A [(a_t, .inr (12, [o_t_tape, o_t_taped, o_t_fault, o_t_broken, o_t_brokenAt, o_t_spot, o_t_here, o_t_token, o_t_value, o_t_cuts, o_t_letters, o_t_plain, .ref a_t_rules, .ref a_t_words, o_t_shorts, o_t_guards, o_t_readRules, o_t_readTable, o_t_readWords, o_t_readShorts, o_t_readGuards, o_t_toldOnes, .ref a_t_state, .int t_isAwake, o_t_sums, o_t_tongue, o_t_bestTable, o_t_may, o_t_mouth, o_t_mouthThen, o_t_isKept, o_t_lanes, o_t_lengths, o_t_cells, o_t_torn])), (a_t_state, .inl (g.1 1, 192, .inl t_state)), (a_t_rules, .inl (g.1 1, 8, .inl t_rules)), (a_t_words, .inl (g.1 1, 100, .inl t_words))] → va_S A s.heap H locs → ∀ (ls : Array Slot), lv_has ls 8 [(0, .ref a_t), (3, .int x3), (4, .int x4), (5, .int x5), (6, .int x6)] → W p l e rmX12_ask s m args below meth c H locs 0 0 Q (F0 m 48 ls [])), B_X12_ask_97 t_words x4 x6 t_state z0 K_48 → ∀ (H : Heap) (locs : List Loc), va_P D vwCl [(a_t, .inr (12, [o_t_tape, o_t_taped, o_t_fault, o_t_broken, o_t_brokenAt, o_t_spot, o_t_here, o_t_token, o_t_value, o_t_cuts, o_t_letters, o_t_plain, .ref a_t_rules, .ref a_t_words, o_t_shorts, o_t_guards, o_t_readRules, o_t_readTable, o_t_readWords, o_t_readShorts, o_t_readGuards, o_t_toldOnes, .ref a_t_state, .int t_isAwake, o_t_sums, o_t_tongue, o_t_bestTable, o_t_may, o_t_mouth, o_t_mouthThen, o_t_isKept, o_t_lanes, o_t_lengths, o_t_cells, o_t_torn])), (a_t_state, .inl (g.1 1, 192, .inl t_state)), (a_t_rules, .inl (g.1 1, 8, .inl t_rules)), (a_t_words, .inl (g.1 1, 100, .inl t_words))] H → va_D A [(a_t, .inr (12, [o_t_tape, o_t_taped, o_t_fault, o_t_broken, o_t_brokenAt, o_t_spot, o_t_here, o_t_token, o_t_value, o_t_cuts, o_t_letters, o_t_plain, .ref a_t_rules, .ref a_t_words, o_t_shorts, o_t_guards, o_t_readRules, o_t_readTable, o_t_readWords, o_t_readShorts, o_t_readGuards, o_t_toldOnes, .ref a_t_state, .int t_isAwake, o_t_sums, o_t_tongue, o_t_bestTable, o_t_may, o_t_mouth, o_t_mouthThen, o_t_isKept, o_t_lanes, o_t_lengths, o_t_cells, o_t_torn])), (a_t_state, .inl (g.1 1, 192, .inl t_state)), (a_t_rules, .inl (g.1 1, 8, .inl t_rules)), (a_t_words, .inl (g.1 1, 100, .inl t_words))] → va_S A s.heap H locs → ∀ (ls : Array Slot), lv_has ls 8 [(0, .ref a_t), (3, .int x3), (4, .int x4), (5, .int x5), (6, .int x6)] → W p l e rmX12_ask s m args below meth c H locs 0 0 Q (F0 m 97 ls [.int z0]) := by
    intro x3 x4 x5 x6 t_isAwake t_state z0 K_48 hK_48
    intro h H locs hP hD hS ls hl
    unfold B_X12_ask_97 at h
    try dsimp only at h
    refine lv_istore (lv' := [(7, .int z0), (0, .ref a_t), (3, .int x3), (4, .int x4), (5, .int x5), (6, .int x6)]) hx hb dX12_ask_97 hl (by decide) rfl (fun ls hl => ?_)
    refine lv_iload hx hb dX12_ask_99 (lv_at hl 0 rfl) ?_
    refine lv_if_eq (tgt := 131) hx hb dX12_ask_101 (by decide) (fun c12 => ?_) (fun c12 => ?_)
    · have h := h.1 c12
      refine lv_iload hx hb dX12_ask_131 (lv_at hl 3 rfl) ?_
      refine lv_istore (lv' := [(4, .int x4), (7, .int z0), (0, .ref a_t), (3, .int x3), (5, .int x5), (6, .int x6)]) hx hb dX12_ask_133 hl (by decide) rfl (fun ls hl => ?_)
      refine lv_iinc (v := x6 + 1) (lv' := [(6, .int (x6 + 1)), (4, .int x4), (7, .int z0), (0, .ref a_t), (3, .int x3), (5, .int x5)]) hx hb dX12_ask_135 hl (k := 5) rfl rfl (by decide) rfl (fun ls hl => ?_)
      refine lv_goto (tgt := 48) hx hb dX12_ask_138 (by decide) ?_
      exact hK_48 x4 (x6 + 1) h _ _ hP hD hS _ (lv_sub hl [3, 4, 1, 5, 0] rfl)
    · have h := h.2 c12
      refine lv_iload hx hb dX12_ask_104 (lv_at hl 3 rfl) ?_
      refine lv_bipush (v := (-4)) hx hb dX12_ask_106 (by decide) ?_
      refine lv_icmp_eq (tgt := 126) hx hb dX12_ask_108 (by decide) (fun c13 => ?_) (fun c13 => ?_)
      · have h := h.1 c13
        refine lv_iload hx hb dX12_ask_126 (lv_at hl 5 rfl) ?_
        refine lv_goto (tgt := 133) hx hb dX12_ask_128 (by decide) ?_
        refine lv_istore (lv' := [(4, .int x6), (7, .int z0), (0, .ref a_t), (3, .int x3), (5, .int x5), (6, .int x6)]) hx hb dX12_ask_133 hl (by decide) rfl (fun ls hl => ?_)
        refine lv_iinc (v := x6 + 1) (lv' := [(6, .int (x6 + 1)), (4, .int x6), (7, .int z0), (0, .ref a_t), (3, .int x3), (5, .int x5)]) hx hb dX12_ask_135 hl (k := 5) rfl rfl (by decide) rfl (fun ls hl => ?_)
        refine lv_goto (tgt := 48) hx hb dX12_ask_138 (by decide) ?_
        exact hK_48 x6 (x6 + 1) h _ _ hP hD hS _ (lv_sub hl [3, 4, 1, 5, 0] rfl)
      · have h := h.2 c13
        refine lv_aload_n hx hb dX12_ask_111 rfl (lv_at hl 1 rfl) ?_
        refine lv_iload hx hb dX12_ask_112 (lv_at hl 5 rfl) ?_
        refine k_i (wr := [(a_t_rules, .inl (g.1 1, 8, .inl t_rules))]) hA hP hD hS [0, 3, 1] [2] rfl rfl (by decide) (by decide) (va_runV (As := [.int x6]) (rest := []) ⟨hx, hb, hml, hown, hts⟩ (c_X12_knocksOf l D g a_t a_t_words a_t_state (o_t_tape) (o_t_taped) (o_t_fault) (o_t_broken) (o_t_brokenAt) (o_t_spot) (o_t_here) (o_t_token) (o_t_value) (o_t_cuts) (o_t_letters) (o_t_plain) (.ref a_t_rules) (o_t_shorts) (o_t_guards) (o_t_readRules) (o_t_readTable) (o_t_readWords) (o_t_readShorts) (o_t_readGuards) (o_t_toldOnes) (.int t_isAwake) (o_t_sums) (o_t_tongue) (o_t_bestTable) (o_t_may) (o_t_mouth) (o_t_mouthThen) (o_t_isKept) (o_t_lanes) (o_t_lengths) (o_t_cells) (o_t_torn) t_words t_state x6 _ h H.size) (cwV 1 hts (gdV (inR_25 (List.mem_of_getElem? (i := 12) rfl)) (inR_25 (List.mem_of_getElem? (i := 13) rfl)) (inR_25 (List.mem_of_getElem? (i := 14) rfl)) (inR_1 (List.mem_of_getElem? (i := 5) rfl)) (inR_25 (List.mem_of_getElem? (i := 15) rfl))) rfl rfl rfl hdX12_knocksOf ⟨Nat.le_of_ble_eq_true rfl, Nat.le_of_ble_eq_true rfl⟩) (k_preV (q0 := 0) hG hA hP hD hS [0, 3, 1] rfl (by decide) rfl rfl) rfl rfl hl.1 rfl (lv_room (Nat.le_of_ble_eq_true rfl)) dX12_ask_114 ⟨Nat.zero_le _, Nat.zero_le _⟩) (fun r14 W' H locs h hP hD hS => ?_)
        obtain ⟨rfl, h⟩ := h
        have hP : va_P D vwCl [(a_t, .inr (12, [o_t_tape, o_t_taped, o_t_fault, o_t_broken, o_t_brokenAt, o_t_spot, o_t_here, o_t_token, o_t_value, o_t_cuts, o_t_letters, o_t_plain, .ref a_t_rules, .ref a_t_words, o_t_shorts, o_t_guards, o_t_readRules, o_t_readTable, o_t_readWords, o_t_readShorts, o_t_readGuards, o_t_toldOnes, .ref a_t_state, .int t_isAwake, o_t_sums, o_t_tongue, o_t_bestTable, o_t_may, o_t_mouth, o_t_mouthThen, o_t_isKept, o_t_lanes, o_t_lengths, o_t_cells, o_t_torn])), (a_t_state, .inl (g.1 1, 192, .inl t_state)), (a_t_rules, .inl (g.1 1, 8, .inl t_rules)), (a_t_words, .inl (g.1 1, 100, .inl t_words))] H := hP.sub [1, 3, 0, 2] rfl
        have hD : va_D A [(a_t, .inr (12, [o_t_tape, o_t_taped, o_t_fault, o_t_broken, o_t_brokenAt, o_t_spot, o_t_here, o_t_token, o_t_value, o_t_cuts, o_t_letters, o_t_plain, .ref a_t_rules, .ref a_t_words, o_t_shorts, o_t_guards, o_t_readRules, o_t_readTable, o_t_readWords, o_t_readShorts, o_t_readGuards, o_t_toldOnes, .ref a_t_state, .int t_isAwake, o_t_sums, o_t_tongue, o_t_bestTable, o_t_may, o_t_mouth, o_t_mouthThen, o_t_isKept, o_t_lanes, o_t_lengths, o_t_cells, o_t_torn])), (a_t_state, .inl (g.1 1, 192, .inl t_state)), (a_t_rules, .inl (g.1 1, 8, .inl t_rules)), (a_t_words, .inl (g.1 1, 100, .inl t_words))] := hD.sub [1, 3, 0, 2] (by decide) rfl
        refine lv_aload_n hx hb dX12_ask_117 rfl (lv_at hl 1 rfl) ?_
        refine lv_iload hx hb dX12_ask_118 (lv_at hl 3 rfl) ?_
        refine k_i (wr := [(a_t_rules, .inl (g.1 1, 8, .inl t_rules))]) hA hP hD hS [0, 3, 1] [2] rfl rfl (by decide) (by decide) (va_runV (As := [.int x4]) (rest := [.int r14]) ⟨hx, hb, hml, hown, hts⟩ (c_X12_knocksOf l D g a_t a_t_words a_t_state (o_t_tape) (o_t_taped) (o_t_fault) (o_t_broken) (o_t_brokenAt) (o_t_spot) (o_t_here) (o_t_token) (o_t_value) (o_t_cuts) (o_t_letters) (o_t_plain) (.ref a_t_rules) (o_t_shorts) (o_t_guards) (o_t_readRules) (o_t_readTable) (o_t_readWords) (o_t_readShorts) (o_t_readGuards) (o_t_toldOnes) (.int t_isAwake) (o_t_sums) (o_t_tongue) (o_t_bestTable) (o_t_may) (o_t_mouth) (o_t_mouthThen) (o_t_isKept) (o_t_lanes) (o_t_lengths) (o_t_cells) (o_t_torn) t_words t_state x4 _ h H.size) (cwV 1 hts (gdV (inR_25 (List.mem_of_getElem? (i := 12) rfl)) (inR_25 (List.mem_of_getElem? (i := 13) rfl)) (inR_25 (List.mem_of_getElem? (i := 14) rfl)) (inR_1 (List.mem_of_getElem? (i := 5) rfl)) (inR_25 (List.mem_of_getElem? (i := 15) rfl))) rfl rfl rfl hdX12_knocksOf ⟨Nat.le_of_ble_eq_true rfl, Nat.le_of_ble_eq_true rfl⟩) (k_preV (q0 := 0) hG hA hP hD hS [0, 3, 1] rfl (by decide) rfl rfl) rfl rfl hl.1 rfl (lv_room (Nat.le_of_ble_eq_true rfl)) dX12_ask_120 ⟨Nat.zero_le _, Nat.zero_le _⟩) (fun r15 W' H locs h hP hD hS => ?_)
        obtain ⟨rfl, h⟩ := h
        have hP : va_P D vwCl [(a_t, .inr (12, [o_t_tape, o_t_taped, o_t_fault, o_t_broken, o_t_brokenAt, o_t_spot, o_t_here, o_t_token, o_t_value, o_t_cuts, o_t_letters, o_t_plain, .ref a_t_rules, .ref a_t_words, o_t_shorts, o_t_guards, o_t_readRules, o_t_readTable, o_t_readWords, o_t_readShorts, o_t_readGuards, o_t_toldOnes, .ref a_t_state, .int t_isAwake, o_t_sums, o_t_tongue, o_t_bestTable, o_t_may, o_t_mouth, o_t_mouthThen, o_t_isKept, o_t_lanes, o_t_lengths, o_t_cells, o_t_torn])), (a_t_state, .inl (g.1 1, 192, .inl t_state)), (a_t_rules, .inl (g.1 1, 8, .inl t_rules)), (a_t_words, .inl (g.1 1, 100, .inl t_words))] H := hP.sub [1, 3, 0, 2] rfl
        have hD : va_D A [(a_t, .inr (12, [o_t_tape, o_t_taped, o_t_fault, o_t_broken, o_t_brokenAt, o_t_spot, o_t_here, o_t_token, o_t_value, o_t_cuts, o_t_letters, o_t_plain, .ref a_t_rules, .ref a_t_words, o_t_shorts, o_t_guards, o_t_readRules, o_t_readTable, o_t_readWords, o_t_readShorts, o_t_readGuards, o_t_toldOnes, .ref a_t_state, .int t_isAwake, o_t_sums, o_t_tongue, o_t_bestTable, o_t_may, o_t_mouth, o_t_mouthThen, o_t_isKept, o_t_lanes, o_t_lengths, o_t_cells, o_t_torn])), (a_t_state, .inl (g.1 1, 192, .inl t_state)), (a_t_rules, .inl (g.1 1, 8, .inl t_rules)), (a_t_words, .inl (g.1 1, 100, .inl t_words))] := hD.sub [1, 3, 0, 2] (by decide) rfl
        refine lv_icmp_ge (tgt := 131) hx hb dX12_ask_123 (by decide) (fun c16 => ?_) (fun c16 => ?_)
        · have h := h.1 c16
          refine lv_iload hx hb dX12_ask_131 (lv_at hl 3 rfl) ?_
          refine lv_istore (lv' := [(4, .int x4), (7, .int z0), (0, .ref a_t), (3, .int x3), (5, .int x5), (6, .int x6)]) hx hb dX12_ask_133 hl (by decide) rfl (fun ls hl => ?_)
          refine lv_iinc (v := x6 + 1) (lv' := [(6, .int (x6 + 1)), (4, .int x4), (7, .int z0), (0, .ref a_t), (3, .int x3), (5, .int x5)]) hx hb dX12_ask_135 hl (k := 5) rfl rfl (by decide) rfl (fun ls hl => ?_)
          refine lv_goto (tgt := 48) hx hb dX12_ask_138 (by decide) ?_
          exact hK_48 x4 (x6 + 1) h _ _ hP hD hS _ (lv_sub hl [3, 4, 1, 5, 0] rfl)
        · have h := h.2 c16
          refine lv_iload hx hb dX12_ask_126 (lv_at hl 5 rfl) ?_
          refine lv_goto (tgt := 133) hx hb dX12_ask_128 (by decide) ?_
          refine lv_istore (lv' := [(4, .int x6), (7, .int z0), (0, .ref a_t), (3, .int x3), (5, .int x5), (6, .int x6)]) hx hb dX12_ask_133 hl (by decide) rfl (fun ls hl => ?_)
          refine lv_iinc (v := x6 + 1) (lv' := [(6, .int (x6 + 1)), (4, .int x6), (7, .int z0), (0, .ref a_t), (3, .int x3), (5, .int x5)]) hx hb dX12_ask_135 hl (k := 5) rfl rfl (by decide) rfl (fun ls hl => ?_)
          refine lv_goto (tgt := 48) hx hb dX12_ask_138 (by decide) ?_
          exact hK_48 x6 (x6 + 1) h _ _ hP hD hS _ (lv_sub hl [3, 4, 1, 5, 0] rfl)
  have L96 : ∀ (x3 : Int32) (x4 : Int32) (x5 : Int32) (x6 : Int32) (t_isAwake : Int32) (t_state : Nat → Int32) (K_48 : (Int32 × Int32) → Prop) (hK_48 : ∀ (x4 : Int32) (x6 : Int32), K_48 (x4, x6) → ∀ (H : Heap) (locs : List Loc), va_P D vwCl [(a_t, .inr (12, [o_t_tape, o_t_taped, o_t_fault, o_t_broken, o_t_brokenAt, o_t_spot, o_t_here, o_t_token, o_t_value, o_t_cuts, o_t_letters, o_t_plain, .ref a_t_rules, .ref a_t_words, o_t_shorts, o_t_guards, o_t_readRules, o_t_readTable, o_t_readWords, o_t_readShorts, o_t_readGuards, o_t_toldOnes, .ref a_t_state, .int t_isAwake, o_t_sums, o_t_tongue, o_t_bestTable, o_t_may, o_t_mouth, o_t_mouthThen, o_t_isKept, o_t_lanes, o_t_lengths, o_t_cells, o_t_torn])), (a_t_state, .inl (g.1 1, 192, .inl t_state)), (a_t_rules, .inl (g.1 1, 8, .inl t_rules)), (a_t_words, .inl (g.1 1, 100, .inl t_words))] H → va_D A [(a_t, .inr (12, [o_t_tape, o_t_taped, o_t_fault, o_t_broken, o_t_brokenAt, o_t_spot, o_t_here, o_t_token, o_t_value, o_t_cuts, o_t_letters, o_t_plain, .ref a_t_rules, .ref a_t_words, o_t_shorts, o_t_guards, o_t_readRules, o_t_readTable, o_t_readWords, o_t_readShorts, o_t_readGuards, o_t_toldOnes, .ref a_t_state, .int t_isAwake, o_t_sums, o_t_tongue, o_t_bestTable, o_t_may, o_t_mouth, o_t_mouthThen, o_t_isKept, o_t_lanes, o_t_lengths, o_t_cells, o_t_torn])), (a_t_state, .inl (g.1 1, 192, .inl t_state)), (a_t_rules, .inl (g.1 1, 8, .inl t_rules)), (a_t_words, .inl (g.1 1, 100, .inl t_words))] → va_S A s.heap H locs → ∀ (ls : Array Slot), lv_has ls 8 [(0, .ref a_t), (3, .int x3), (4, .int x4), (5, .int x5), (6, .int x6)] → W p l e rmX12_ask s m args below meth c H locs 0 0 Q (F0 m 48 ls [])), B_X12_ask_96 t_words x4 x6 t_state K_48 → ∀ (H : Heap) (locs : List Loc), va_P D vwCl [(a_t, .inr (12, [o_t_tape, o_t_taped, o_t_fault, o_t_broken, o_t_brokenAt, o_t_spot, o_t_here, o_t_token, o_t_value, o_t_cuts, o_t_letters, o_t_plain, .ref a_t_rules, .ref a_t_words, o_t_shorts, o_t_guards, o_t_readRules, o_t_readTable, o_t_readWords, o_t_readShorts, o_t_readGuards, o_t_toldOnes, .ref a_t_state, .int t_isAwake, o_t_sums, o_t_tongue, o_t_bestTable, o_t_may, o_t_mouth, o_t_mouthThen, o_t_isKept, o_t_lanes, o_t_lengths, o_t_cells, o_t_torn])), (a_t_state, .inl (g.1 1, 192, .inl t_state)), (a_t_rules, .inl (g.1 1, 8, .inl t_rules)), (a_t_words, .inl (g.1 1, 100, .inl t_words))] H → va_D A [(a_t, .inr (12, [o_t_tape, o_t_taped, o_t_fault, o_t_broken, o_t_brokenAt, o_t_spot, o_t_here, o_t_token, o_t_value, o_t_cuts, o_t_letters, o_t_plain, .ref a_t_rules, .ref a_t_words, o_t_shorts, o_t_guards, o_t_readRules, o_t_readTable, o_t_readWords, o_t_readShorts, o_t_readGuards, o_t_toldOnes, .ref a_t_state, .int t_isAwake, o_t_sums, o_t_tongue, o_t_bestTable, o_t_may, o_t_mouth, o_t_mouthThen, o_t_isKept, o_t_lanes, o_t_lengths, o_t_cells, o_t_torn])), (a_t_state, .inl (g.1 1, 192, .inl t_state)), (a_t_rules, .inl (g.1 1, 8, .inl t_rules)), (a_t_words, .inl (g.1 1, 100, .inl t_words))] → va_S A s.heap H locs → ∀ (ls : Array Slot), lv_has ls 8 [(0, .ref a_t), (3, .int x3), (4, .int x4), (5, .int x5), (6, .int x6)] → W p l e rmX12_ask s m args below meth c H locs 0 0 Q (F0 m 96 ls []) := by
    intro x3 x4 x5 x6 t_isAwake t_state K_48 hK_48
    intro h H locs hP hD hS ls hl
    unfold B_X12_ask_96 at h
    try dsimp only at h
    refine lv_iconst (v := 0) hx hb dX12_ask_96 (by decide) ?_
    exact L97 x3 x4 x5 x6 t_isAwake t_state 0 _ hK_48 h _ _ hP hD hS _ (lv_sub hl [0, 1, 2, 3, 4] rfl)
  have L48 : ∀ (x3 : Int32) (x5 : Int32) (t_isAwake : Int32) (t_state : Nat → Int32), ∀ (n : Nat) (x4 : Int32) (x6 : Int32), fixN (F_X12_ask_48 t_rules t_words x3 x5 t_isAwake t_state post) n (x4, x6) → ∀ (H : Heap) (locs : List Loc), va_P D vwCl [(a_t, .inr (12, [o_t_tape, o_t_taped, o_t_fault, o_t_broken, o_t_brokenAt, o_t_spot, o_t_here, o_t_token, o_t_value, o_t_cuts, o_t_letters, o_t_plain, .ref a_t_rules, .ref a_t_words, o_t_shorts, o_t_guards, o_t_readRules, o_t_readTable, o_t_readWords, o_t_readShorts, o_t_readGuards, o_t_toldOnes, .ref a_t_state, .int t_isAwake, o_t_sums, o_t_tongue, o_t_bestTable, o_t_may, o_t_mouth, o_t_mouthThen, o_t_isKept, o_t_lanes, o_t_lengths, o_t_cells, o_t_torn])), (a_t_state, .inl (g.1 1, 192, .inl t_state)), (a_t_rules, .inl (g.1 1, 8, .inl t_rules)), (a_t_words, .inl (g.1 1, 100, .inl t_words))] H → va_D A [(a_t, .inr (12, [o_t_tape, o_t_taped, o_t_fault, o_t_broken, o_t_brokenAt, o_t_spot, o_t_here, o_t_token, o_t_value, o_t_cuts, o_t_letters, o_t_plain, .ref a_t_rules, .ref a_t_words, o_t_shorts, o_t_guards, o_t_readRules, o_t_readTable, o_t_readWords, o_t_readShorts, o_t_readGuards, o_t_toldOnes, .ref a_t_state, .int t_isAwake, o_t_sums, o_t_tongue, o_t_bestTable, o_t_may, o_t_mouth, o_t_mouthThen, o_t_isKept, o_t_lanes, o_t_lengths, o_t_cells, o_t_torn])), (a_t_state, .inl (g.1 1, 192, .inl t_state)), (a_t_rules, .inl (g.1 1, 8, .inl t_rules)), (a_t_words, .inl (g.1 1, 100, .inl t_words))] → va_S A s.heap H locs → ∀ (ls : Array Slot), lv_has ls 8 [(0, .ref a_t), (3, .int x3), (4, .int x4), (5, .int x5), (6, .int x6)] → W p l e rmX12_ask s m args below meth c H locs 0 0 Q (F0 m 48 ls []) := by
    intro x3 x5 t_isAwake t_state
    intro n
    induction n with
    | zero => intro x4 x6 h; exact h.elim
    | succ n ih =>
      intro x4 x6 h H locs hP hD hS ls hl
      have h : F_X12_ask_48 t_rules t_words x3 x5 t_isAwake t_state post (fixN (F_X12_ask_48 t_rules t_words x3 x5 t_isAwake t_state post) n) (x4, x6) := h
      unfold F_X12_ask_48 at h
      try dsimp only at h
      refine lv_iload hx hb dX12_ask_48 (lv_at hl 4 rfl) ?_
      refine lv_aload_n hx hb dX12_ask_50 rfl (lv_at hl 0 rfl) ?_
      refine va_get (ci := 12) (v := .ref a_t_rules) (C := RX12) (T := TX12) (N := 35) hx hb hts icX12 hown hG.k hP 0 rfl rfl 12 (by decide) lk1 (fun _ h9 => h9) rfl dX12_ask_51 ?_
      refine lv_iconst (v := 5) hx hb dX12_ask_54 (by decide) ?_
      obtain ⟨hv8, h⟩ := h
      refine va_iald hx hb hG.k hP 2 1 rfl rfl hv8 dX12_ask_55 ?_
      refine lv_icmp_ge (tgt := 141) hx hb dX12_ask_56 (by decide) (fun c9 => ?_) (fun c9 => ?_)
      · have h := h.1 c9
        refine lv_iload hx hb dX12_ask_141 (lv_at hl 2 rfl) ?_
        exact hret x4 _ _ _ _ _ ⟨t_isAwake, t_state, rfl, h⟩ hP hD hS dX12_ask_143
      · have h := h.2 c9
        refine lv_aload_n hx hb dX12_ask_59 rfl (lv_at hl 0 rfl) ?_
        refine va_get (ci := 12) (v := .ref a_t_state) (C := RX12) (T := TX12) (N := 35) hx hb hts icX12 hown hG.k hP 0 rfl rfl 22 (by decide) lk2 (fun _ h9 => h9) rfl dX12_ask_60 ?_
        refine lv_bipush (v := 50) hx hb dX12_ask_63 (by decide) ?_
        refine lv_iload hx hb dX12_ask_65 (lv_at hl 4 rfl) ?_
        refine lv_iadd hx hb dX12_ask_67 ?_
        obtain ⟨hv10, h⟩ := h
        refine va_iald hx hb hG.k hP 1 1 rfl rfl hv10 dX12_ask_68 ?_
        refine lv_iload hx hb dX12_ask_69 (lv_at hl 3 rfl) ?_
        refine lv_iand hx hb dX12_ask_71 ?_
        refine lv_iload hx hb dX12_ask_72 (lv_at hl 3 rfl) ?_
        refine lv_icmp_ne (tgt := 96) hx hb dX12_ask_74 (by decide) (fun c11 => ?_) (fun c11 => ?_)
        · have h := h.1 c11
          exact L96 x3 x4 x5 x6 t_isAwake t_state _ ih h _ _ hP hD hS _ (lv_sub hl [0, 1, 2, 3, 4] rfl)
        · have h := h.2 c11
          refine lv_aload_n hx hb dX12_ask_77 rfl (lv_at hl 0 rfl) ?_
          refine va_get (ci := 12) (v := .ref a_t_state) (C := RX12) (T := TX12) (N := 35) hx hb hts icX12 hown hG.k hP 0 rfl rfl 22 (by decide) lk2 (fun _ h9 => h9) rfl dX12_ask_78 ?_
          refine lv_bipush (v := 50) hx hb dX12_ask_81 (by decide) ?_
          refine lv_iload hx hb dX12_ask_83 (lv_at hl 4 rfl) ?_
          refine lv_iadd hx hb dX12_ask_85 ?_
          obtain ⟨hv17, h⟩ := h
          refine va_iald hx hb hG.k hP 1 1 rfl rfl hv17 dX12_ask_86 ?_
          refine lv_iload_n hx hb dX12_ask_87 rfl (lv_at hl 1 rfl) ?_
          refine lv_iand hx hb dX12_ask_88 ?_
          refine lv_if_ne (tgt := 96) hx hb dX12_ask_89 (by decide) (fun c18 => ?_) (fun c18 => ?_)
          · have h := h.1 c18
            exact L96 x3 x4 x5 x6 t_isAwake t_state _ ih h _ _ hP hD hS _ (lv_sub hl [0, 1, 2, 3, 4] rfl)
          · have h := h.2 c18
            refine lv_iconst (v := 1) hx hb dX12_ask_92 (by decide) ?_
            refine lv_goto (tgt := 97) hx hb dX12_ask_93 (by decide) ?_
            exact L97 x3 x4 x5 x6 t_isAwake t_state 1 _ ih h _ _ hP hD hS _ (lv_sub hl [0, 1, 2, 3, 4] rfl)
  unfold wp_X12_ask at h
  try dsimp only at h
  refine lv_aload_n hx hb dX12_ask_0 rfl (lv_at hl 0 rfl) ?_
  refine k_v (wr := [(a_t_rules, .inl (g.1 1, 8, .inl t_rules)), (a_t_words, .inl (g.1 1, 100, .inl t_words))]) hA hP hD hS [0, 1] [2, 3] rfl rfl (by decide) (by decide) (va_runV (As := []) (rest := []) ⟨hx, hb, hml, hown, hts⟩ (c_X12_awake l D g a_t a_t_state (o_t_tape) (o_t_taped) (o_t_fault) (o_t_broken) (o_t_brokenAt) (o_t_spot) (o_t_here) (o_t_token) (o_t_value) (o_t_cuts) (o_t_letters) (o_t_plain) (.ref a_t_rules) (.ref a_t_words) (o_t_shorts) (o_t_guards) (o_t_readRules) (o_t_readTable) (o_t_readWords) (o_t_readShorts) (o_t_readGuards) (o_t_toldOnes) (o_t_sums) (o_t_tongue) (o_t_bestTable) (o_t_may) (o_t_mouth) (o_t_mouthThen) (o_t_isKept) (o_t_lanes) (o_t_lengths) (o_t_cells) (o_t_torn) t_isAwake t_state _ h H.size) (cwV 0 hts (gdV (inR_22 (List.mem_of_getElem? (i := 18) rfl)) (inR_22 (List.mem_of_getElem? (i := 19) rfl)) (inR_22 (List.mem_of_getElem? (i := 20) rfl)) (inR_1 (List.mem_of_getElem? (i := 5) rfl)) (inR_22 (List.mem_of_getElem? (i := 21) rfl))) rfl rfl rfl hdX12_awake ⟨Nat.le_of_ble_eq_true rfl, Nat.le_of_ble_eq_true rfl⟩) (k_preV (q0 := 0) hG hA hP hD hS [0, 1] rfl (by decide) rfl rfl) rfl rfl hl.1 rfl (lv_room (Nat.le_of_ble_eq_true rfl)) dX12_ask_1 ⟨Nat.zero_le _, Nat.zero_le _⟩) (fun W' H locs h hP hD hS => ?_)
  obtain ⟨u1_t_isAwake, u1_t_state, rfl, h⟩ := h
  have hP : va_P D vwCl [(a_t, .inr (12, [o_t_tape, o_t_taped, o_t_fault, o_t_broken, o_t_brokenAt, o_t_spot, o_t_here, o_t_token, o_t_value, o_t_cuts, o_t_letters, o_t_plain, .ref a_t_rules, .ref a_t_words, o_t_shorts, o_t_guards, o_t_readRules, o_t_readTable, o_t_readWords, o_t_readShorts, o_t_readGuards, o_t_toldOnes, .ref a_t_state, .int u1_t_isAwake, o_t_sums, o_t_tongue, o_t_bestTable, o_t_may, o_t_mouth, o_t_mouthThen, o_t_isKept, o_t_lanes, o_t_lengths, o_t_cells, o_t_torn])), (a_t_state, .inl (g.1 1, 192, .inl u1_t_state)), (a_t_rules, .inl (g.1 1, 8, .inl t_rules)), (a_t_words, .inl (g.1 1, 100, .inl t_words))] H := hP.sub [2, 3, 0, 1] rfl
  have hD : va_D A [(a_t, .inr (12, [o_t_tape, o_t_taped, o_t_fault, o_t_broken, o_t_brokenAt, o_t_spot, o_t_here, o_t_token, o_t_value, o_t_cuts, o_t_letters, o_t_plain, .ref a_t_rules, .ref a_t_words, o_t_shorts, o_t_guards, o_t_readRules, o_t_readTable, o_t_readWords, o_t_readShorts, o_t_readGuards, o_t_toldOnes, .ref a_t_state, .int u1_t_isAwake, o_t_sums, o_t_tongue, o_t_bestTable, o_t_may, o_t_mouth, o_t_mouthThen, o_t_isKept, o_t_lanes, o_t_lengths, o_t_cells, o_t_torn])), (a_t_state, .inl (g.1 1, 192, .inl u1_t_state)), (a_t_rules, .inl (g.1 1, 8, .inl t_rules)), (a_t_words, .inl (g.1 1, 100, .inl t_words))] := hD.sub [2, 3, 0, 1] (by decide) rfl
  refine lv_iload_n hx hb dX12_ask_4 rfl (lv_at hl 1 rfl) ?_
  refine k_i (wr := [(a_t, .inr (12, [o_t_tape, o_t_taped, o_t_fault, o_t_broken, o_t_brokenAt, o_t_spot, o_t_here, o_t_token, o_t_value, o_t_cuts, o_t_letters, o_t_plain, .ref a_t_rules, .ref a_t_words, o_t_shorts, o_t_guards, o_t_readRules, o_t_readTable, o_t_readWords, o_t_readShorts, o_t_readGuards, o_t_toldOnes, .ref a_t_state, .int u1_t_isAwake, o_t_sums, o_t_tongue, o_t_bestTable, o_t_may, o_t_mouth, o_t_mouthThen, o_t_isKept, o_t_lanes, o_t_lengths, o_t_cells, o_t_torn])), (a_t_state, .inl (g.1 1, 192, .inl u1_t_state)), (a_t_rules, .inl (g.1 1, 8, .inl t_rules)), (a_t_words, .inl (g.1 1, 100, .inl t_words))]) hA hP hD hS [] [0, 1, 2, 3] rfl rfl (by decide) (by decide) (va_runS (As := [.int x1]) (rest := []) ⟨hx, hb, hml, hown, hts⟩ (c_X12_isCell l D g x1 _ h H.size) (va_cwS 1 hts (gdS (inR_47 (List.mem_of_getElem? (i := 2) rfl)) (inR_47 (List.mem_of_getElem? (i := 3) rfl)) (inR_1 (List.mem_of_getElem? (i := 5) rfl)) (inR_47 (List.mem_of_getElem? (i := 4) rfl))) rfl rfl rfl hdX12_isCell.2 ⟨Nat.le_of_ble_eq_true rfl, Nat.le_of_ble_eq_true rfl⟩) (k_preS hG hA hP hD hS [] rfl (by decide)) rfl rfl hl.1 rfl (lv_room (Nat.le_of_ble_eq_true rfl)) dX12_ask_5 ⟨Nat.zero_le _, Nat.zero_le _⟩) (fun r2 W' H locs h hP hD hS => ?_)
  obtain ⟨rfl, h⟩ := h
  have hP : va_P D vwCl [(a_t, .inr (12, [o_t_tape, o_t_taped, o_t_fault, o_t_broken, o_t_brokenAt, o_t_spot, o_t_here, o_t_token, o_t_value, o_t_cuts, o_t_letters, o_t_plain, .ref a_t_rules, .ref a_t_words, o_t_shorts, o_t_guards, o_t_readRules, o_t_readTable, o_t_readWords, o_t_readShorts, o_t_readGuards, o_t_toldOnes, .ref a_t_state, .int u1_t_isAwake, o_t_sums, o_t_tongue, o_t_bestTable, o_t_may, o_t_mouth, o_t_mouthThen, o_t_isKept, o_t_lanes, o_t_lengths, o_t_cells, o_t_torn])), (a_t_state, .inl (g.1 1, 192, .inl u1_t_state)), (a_t_rules, .inl (g.1 1, 8, .inl t_rules)), (a_t_words, .inl (g.1 1, 100, .inl t_words))] H := hP.sub [0, 1, 2, 3] rfl
  have hD : va_D A [(a_t, .inr (12, [o_t_tape, o_t_taped, o_t_fault, o_t_broken, o_t_brokenAt, o_t_spot, o_t_here, o_t_token, o_t_value, o_t_cuts, o_t_letters, o_t_plain, .ref a_t_rules, .ref a_t_words, o_t_shorts, o_t_guards, o_t_readRules, o_t_readTable, o_t_readWords, o_t_readShorts, o_t_readGuards, o_t_toldOnes, .ref a_t_state, .int u1_t_isAwake, o_t_sums, o_t_tongue, o_t_bestTable, o_t_may, o_t_mouth, o_t_mouthThen, o_t_isKept, o_t_lanes, o_t_lengths, o_t_cells, o_t_torn])), (a_t_state, .inl (g.1 1, 192, .inl u1_t_state)), (a_t_rules, .inl (g.1 1, 8, .inl t_rules)), (a_t_words, .inl (g.1 1, 100, .inl t_words))] := hD.sub [0, 1, 2, 3] (by decide) rfl
  refine lv_if_eq (tgt := 30) hx hb dX12_ask_8 (by decide) (fun c3 => ?_) (fun c3 => ?_)
  · have h := h.1 c3
    refine lv_iconst (v := (-1)) hx hb dX12_ask_30 (by decide) ?_
    exact hret ((-1)) _ _ _ _ _ ⟨u1_t_isAwake, u1_t_state, rfl, h⟩ hP hD hS dX12_ask_31
  · have h := h.2 c3
    refine lv_iload_n hx hb dX12_ask_11 rfl (lv_at hl 2 rfl) ?_
    refine k_i (wr := [(a_t, .inr (12, [o_t_tape, o_t_taped, o_t_fault, o_t_broken, o_t_brokenAt, o_t_spot, o_t_here, o_t_token, o_t_value, o_t_cuts, o_t_letters, o_t_plain, .ref a_t_rules, .ref a_t_words, o_t_shorts, o_t_guards, o_t_readRules, o_t_readTable, o_t_readWords, o_t_readShorts, o_t_readGuards, o_t_toldOnes, .ref a_t_state, .int u1_t_isAwake, o_t_sums, o_t_tongue, o_t_bestTable, o_t_may, o_t_mouth, o_t_mouthThen, o_t_isKept, o_t_lanes, o_t_lengths, o_t_cells, o_t_torn])), (a_t_state, .inl (g.1 1, 192, .inl u1_t_state)), (a_t_rules, .inl (g.1 1, 8, .inl t_rules)), (a_t_words, .inl (g.1 1, 100, .inl t_words))]) hA hP hD hS [] [0, 1, 2, 3] rfl rfl (by decide) (by decide) (va_runS (As := [.int x2]) (rest := []) ⟨hx, hb, hml, hown, hts⟩ (c_X12_isCell l D g x2 _ h H.size) (va_cwS 1 hts (gdS (inR_47 (List.mem_of_getElem? (i := 2) rfl)) (inR_47 (List.mem_of_getElem? (i := 3) rfl)) (inR_1 (List.mem_of_getElem? (i := 5) rfl)) (inR_47 (List.mem_of_getElem? (i := 4) rfl))) rfl rfl rfl hdX12_isCell.2 ⟨Nat.le_of_ble_eq_true rfl, Nat.le_of_ble_eq_true rfl⟩) (k_preS hG hA hP hD hS [] rfl (by decide)) rfl rfl hl.1 rfl (lv_room (Nat.le_of_ble_eq_true rfl)) dX12_ask_12 ⟨Nat.zero_le _, Nat.zero_le _⟩) (fun r4 W' H locs h hP hD hS => ?_)
    obtain ⟨rfl, h⟩ := h
    have hP : va_P D vwCl [(a_t, .inr (12, [o_t_tape, o_t_taped, o_t_fault, o_t_broken, o_t_brokenAt, o_t_spot, o_t_here, o_t_token, o_t_value, o_t_cuts, o_t_letters, o_t_plain, .ref a_t_rules, .ref a_t_words, o_t_shorts, o_t_guards, o_t_readRules, o_t_readTable, o_t_readWords, o_t_readShorts, o_t_readGuards, o_t_toldOnes, .ref a_t_state, .int u1_t_isAwake, o_t_sums, o_t_tongue, o_t_bestTable, o_t_may, o_t_mouth, o_t_mouthThen, o_t_isKept, o_t_lanes, o_t_lengths, o_t_cells, o_t_torn])), (a_t_state, .inl (g.1 1, 192, .inl u1_t_state)), (a_t_rules, .inl (g.1 1, 8, .inl t_rules)), (a_t_words, .inl (g.1 1, 100, .inl t_words))] H := hP.sub [0, 1, 2, 3] rfl
    have hD : va_D A [(a_t, .inr (12, [o_t_tape, o_t_taped, o_t_fault, o_t_broken, o_t_brokenAt, o_t_spot, o_t_here, o_t_token, o_t_value, o_t_cuts, o_t_letters, o_t_plain, .ref a_t_rules, .ref a_t_words, o_t_shorts, o_t_guards, o_t_readRules, o_t_readTable, o_t_readWords, o_t_readShorts, o_t_readGuards, o_t_toldOnes, .ref a_t_state, .int u1_t_isAwake, o_t_sums, o_t_tongue, o_t_bestTable, o_t_may, o_t_mouth, o_t_mouthThen, o_t_isKept, o_t_lanes, o_t_lengths, o_t_cells, o_t_torn])), (a_t_state, .inl (g.1 1, 192, .inl u1_t_state)), (a_t_rules, .inl (g.1 1, 8, .inl t_rules)), (a_t_words, .inl (g.1 1, 100, .inl t_words))] := hD.sub [0, 1, 2, 3] (by decide) rfl
    refine lv_if_eq (tgt := 30) hx hb dX12_ask_15 (by decide) (fun c5 => ?_) (fun c5 => ?_)
    · have h := h.1 c5
      refine lv_iconst (v := (-1)) hx hb dX12_ask_30 (by decide) ?_
      exact hret ((-1)) _ _ _ _ _ ⟨u1_t_isAwake, u1_t_state, rfl, h⟩ hP hD hS dX12_ask_31
    · have h := h.2 c5
      refine lv_iload_n hx hb dX12_ask_18 rfl (lv_at hl 3 rfl) ?_
      refine lv_i2l hx hb dX12_ask_19 rfl ?_
      refine lv_lconst (v := 0) hx hb dX12_ask_20 (by decide) ?_
      refine lv_ldc2 hx hb hown lk0 dX12_ask_21 ?_
      refine k_i (wr := [(a_t, .inr (12, [o_t_tape, o_t_taped, o_t_fault, o_t_broken, o_t_brokenAt, o_t_spot, o_t_here, o_t_token, o_t_value, o_t_cuts, o_t_letters, o_t_plain, .ref a_t_rules, .ref a_t_words, o_t_shorts, o_t_guards, o_t_readRules, o_t_readTable, o_t_readWords, o_t_readShorts, o_t_readGuards, o_t_toldOnes, .ref a_t_state, .int u1_t_isAwake, o_t_sums, o_t_tongue, o_t_bestTable, o_t_may, o_t_mouth, o_t_mouthThen, o_t_isKept, o_t_lanes, o_t_lengths, o_t_cells, o_t_torn])), (a_t_state, .inl (g.1 1, 192, .inl u1_t_state)), (a_t_rules, .inl (g.1 1, 8, .inl t_rules)), (a_t_words, .inl (g.1 1, 100, .inl t_words))]) hA hP hD hS [] [0, 1, 2, 3] rfl rfl (by decide) (by decide) (va_runS (As := [.long x3.toInt64, .long 0, .long ((2047))]) (rest := []) ⟨hx, hb, hml, hown, hts⟩ (c_X12_in l D g x3.toInt64 0 ((2047)) _ h H.size) (va_cwS 3 hts (gdS (inR_10 (List.mem_of_getElem? (i := 1) rfl)) (inR_10 (List.mem_of_getElem? (i := 2) rfl)) (inR_1 (List.mem_of_getElem? (i := 5) rfl)) (inR_10 (List.mem_of_getElem? (i := 3) rfl))) rfl rfl rfl hdX12_in.2 ⟨Nat.le_of_ble_eq_true rfl, Nat.le_of_ble_eq_true rfl⟩) (k_preS hG hA hP hD hS [] rfl (by decide)) rfl rfl hl.1 rfl (lv_room (Nat.le_of_ble_eq_true rfl)) dX12_ask_24 ⟨Nat.zero_le _, Nat.zero_le _⟩) (fun r6 W' H locs h hP hD hS => ?_)
      obtain ⟨rfl, h⟩ := h
      have hP : va_P D vwCl [(a_t, .inr (12, [o_t_tape, o_t_taped, o_t_fault, o_t_broken, o_t_brokenAt, o_t_spot, o_t_here, o_t_token, o_t_value, o_t_cuts, o_t_letters, o_t_plain, .ref a_t_rules, .ref a_t_words, o_t_shorts, o_t_guards, o_t_readRules, o_t_readTable, o_t_readWords, o_t_readShorts, o_t_readGuards, o_t_toldOnes, .ref a_t_state, .int u1_t_isAwake, o_t_sums, o_t_tongue, o_t_bestTable, o_t_may, o_t_mouth, o_t_mouthThen, o_t_isKept, o_t_lanes, o_t_lengths, o_t_cells, o_t_torn])), (a_t_state, .inl (g.1 1, 192, .inl u1_t_state)), (a_t_rules, .inl (g.1 1, 8, .inl t_rules)), (a_t_words, .inl (g.1 1, 100, .inl t_words))] H := hP.sub [0, 1, 2, 3] rfl
      have hD : va_D A [(a_t, .inr (12, [o_t_tape, o_t_taped, o_t_fault, o_t_broken, o_t_brokenAt, o_t_spot, o_t_here, o_t_token, o_t_value, o_t_cuts, o_t_letters, o_t_plain, .ref a_t_rules, .ref a_t_words, o_t_shorts, o_t_guards, o_t_readRules, o_t_readTable, o_t_readWords, o_t_readShorts, o_t_readGuards, o_t_toldOnes, .ref a_t_state, .int u1_t_isAwake, o_t_sums, o_t_tongue, o_t_bestTable, o_t_may, o_t_mouth, o_t_mouthThen, o_t_isKept, o_t_lanes, o_t_lengths, o_t_cells, o_t_torn])), (a_t_state, .inl (g.1 1, 192, .inl u1_t_state)), (a_t_rules, .inl (g.1 1, 8, .inl t_rules)), (a_t_words, .inl (g.1 1, 100, .inl t_words))] := hD.sub [0, 1, 2, 3] (by decide) rfl
      refine lv_if_ne (tgt := 32) hx hb dX12_ask_27 (by decide) (fun c7 => ?_) (fun c7 => ?_)
      · have h := h.1 c7
        refine lv_bipush (v := (-4)) hx hb dX12_ask_32 (by decide) ?_
        refine lv_istore (lv' := [(4, .int ((-4))), (0, .ref a_t), (1, .int x1), (2, .int x2), (3, .int x3)]) hx hb dX12_ask_34 hl (by decide) rfl (fun ls hl => ?_)
        refine lv_iconst (v := 1) hx hb dX12_ask_36 (by decide) ?_
        refine lv_iload_n hx hb dX12_ask_37 rfl (lv_at hl 2 rfl) ?_
        refine lv_ishl hx hb dX12_ask_38 ?_
        refine lv_iconst (v := 1) hx hb dX12_ask_39 (by decide) ?_
        refine lv_iload_n hx hb dX12_ask_40 rfl (lv_at hl 3 rfl) ?_
        refine lv_ishl hx hb dX12_ask_41 ?_
        refine lv_ior hx hb dX12_ask_42 ?_
        refine lv_istore (lv' := [(5, .int (((1 : Int32) <<< (x1 &&& 31)) ||| ((1 : Int32) <<< (x2 &&& 31)))), (4, .int ((-4))), (0, .ref a_t), (1, .int x1), (2, .int x2), (3, .int x3)]) hx hb dX12_ask_43 hl (by decide) rfl (fun ls hl => ?_)
        refine lv_iconst (v := 0) hx hb dX12_ask_45 (by decide) ?_
        refine lv_istore (lv' := [(6, .int 0), (5, .int (((1 : Int32) <<< (x1 &&& 31)) ||| ((1 : Int32) <<< (x2 &&& 31)))), (4, .int ((-4))), (0, .ref a_t), (1, .int x1), (2, .int x2), (3, .int x3)]) hx hb dX12_ask_46 hl (by decide) rfl (fun ls hl => ?_)
        obtain ⟨n9, h⟩ := h
        exact L48 x3 (((1 : Int32) <<< (x1 &&& 31)) ||| ((1 : Int32) <<< (x2 &&& 31))) u1_t_isAwake u1_t_state n9 ((-4)) 0 h _ _ hP hD hS _ (lv_sub hl [3, 6, 2, 1, 0] rfl)
      · have h := h.2 c7
        refine lv_iconst (v := (-1)) hx hb dX12_ask_30 (by decide) ?_
        exact hret ((-1)) _ _ _ _ _ ⟨u1_t_isAwake, u1_t_state, rfl, h⟩ hP hD hS dX12_ask_31
theorem hdX12_heardBy : yX12_heardBy.cls = RX12 ∧ yX12_heardBy.cls ≠ "java/lang/invoke/MethodHandle" ∧ yX12_heardBy.cls ≠ "java/lang/invoke/VarHandle" ∧ (parseMethodDescriptor yX12_heardBy.desc).map (fun d => d.parameters.length) = some 1 := by decide +kernel
abbrev rmX12_heardBy : Room := { frames := 2, cells := 0, slots := 0, locals := 200 }
set_option maxHeartbeats 4000000 in
set_option maxRecDepth 100000 in
theorem c_X12_heardBy (l : Launch) (D : va_G) (g : gE) (a_t : Nat) (a_t_rules : Nat) (a_t_state : Nat) (o_t_tape : Value) (o_t_taped : Value) (o_t_fault : Value) (o_t_broken : Value) (o_t_brokenAt : Value) (o_t_spot : Value) (o_t_here : Value) (o_t_token : Value) (o_t_value : Value) (o_t_cuts : Value) (o_t_letters : Value) (o_t_plain : Value) (o_t_words : Value) (o_t_shorts : Value) (o_t_guards : Value) (o_t_readRules : Value) (o_t_readTable : Value) (o_t_readWords : Value) (o_t_readShorts : Value) (o_t_readGuards : Value) (o_t_toldOnes : Value) (o_t_isAwake : Value) (o_t_sums : Value) (o_t_tongue : Value) (o_t_bestTable : Value) (o_t_may : Value) (o_t_mouth : Value) (o_t_mouthThen : Value) (o_t_isKept : Value) (o_t_lanes : Value) (o_t_lengths : Value) (o_t_cells : Value) (o_t_torn : Value) (t_rules : Nat → Int32) (t_state : Nat → Int32) (x1 : Int32) (post : Int32 → Prop) (h : wp_X12_heardBy t_rules t_state x1 post) : Ci l D g yX12_heardBy (.code yX12_heardBy cX12_heardBy 5 (some .int) :: wsL_law) rmX12_heardBy [.ref a_t, .int x1] [(a_t, .inr (12, [o_t_tape, o_t_taped, o_t_fault, o_t_broken, o_t_brokenAt, o_t_spot, o_t_here, o_t_token, o_t_value, o_t_cuts, o_t_letters, o_t_plain, .ref a_t_rules, o_t_words, o_t_shorts, o_t_guards, o_t_readRules, o_t_readTable, o_t_readWords, o_t_readShorts, o_t_readGuards, o_t_toldOnes, .ref a_t_state, o_t_isAwake, o_t_sums, o_t_tongue, o_t_bestTable, o_t_may, o_t_mouth, o_t_mouthThen, o_t_isKept, o_t_lanes, o_t_lengths, o_t_cells, o_t_torn])), (a_t_rules, .inl (g.1 1, 8, .inl t_rules)), (a_t_state, .inl (g.1 1, 192, .inl t_state))] (fun r W' => W' = [(a_t, .inr (12, [o_t_tape, o_t_taped, o_t_fault, o_t_broken, o_t_brokenAt, o_t_spot, o_t_here, o_t_token, o_t_value, o_t_cuts, o_t_letters, o_t_plain, .ref a_t_rules, o_t_words, o_t_shorts, o_t_guards, o_t_readRules, o_t_readTable, o_t_readWords, o_t_readShorts, o_t_readGuards, o_t_toldOnes, .ref a_t_state, o_t_isAwake, o_t_sums, o_t_tongue, o_t_bestTable, o_t_may, o_t_mouth, o_t_mouthThen, o_t_isKept, o_t_lanes, o_t_lengths, o_t_cells, o_t_torn])), (a_t_rules, .inl (g.1 1, 8, .inl t_rules)), (a_t_state, .inl (g.1 1, 192, .inl t_state))] ∧ post r) := by
  refine Ci.of (cc := cX12_heardBy) (maxL := 5) (by decide) rfl (Nat.le_of_ble_eq_true rfl) ?_
  intro p e s m args below meth c A Q hx hb hml hts hown hA H locs hP hD hS hG ls hl hret
  have hown : s.vm.findClass RX12 = some m.cls := hown
  have hl : lv_has ls 5 [(0, .ref a_t), (1, .int x1)] := hl
  have lk0 := hts (.constantLong RX12 290 (2)) (List.mem_cons_of_mem _ (inR_43 (List.mem_of_getElem? (i := 8) rfl)))
  have lk1 := hts (.fieldLink RX12 22 "KnockWallModel" "rules" "[I") (List.mem_cons_of_mem _ (inR_8 (List.mem_of_getElem? (i := 5) rfl)))
  have lk2 := hts (.fieldLink RX12 49 "KnockWallModel" "state" "[I") (List.mem_cons_of_mem _ (inR_8 (List.mem_of_getElem? (i := 14) rfl)))
  have L22 : ∀ (x1 : Int32), ∀ (n : Nat) (x2 : Int32) (x3 : Int32) (x4 : Int32), fixN (F_X12_heardBy_22 t_rules t_state x1 post) n (x2, x3, x4) → ∀ (H : Heap) (locs : List Loc), va_P D vwCl [(a_t, .inr (12, [o_t_tape, o_t_taped, o_t_fault, o_t_broken, o_t_brokenAt, o_t_spot, o_t_here, o_t_token, o_t_value, o_t_cuts, o_t_letters, o_t_plain, .ref a_t_rules, o_t_words, o_t_shorts, o_t_guards, o_t_readRules, o_t_readTable, o_t_readWords, o_t_readShorts, o_t_readGuards, o_t_toldOnes, .ref a_t_state, o_t_isAwake, o_t_sums, o_t_tongue, o_t_bestTable, o_t_may, o_t_mouth, o_t_mouthThen, o_t_isKept, o_t_lanes, o_t_lengths, o_t_cells, o_t_torn])), (a_t_rules, .inl (g.1 1, 8, .inl t_rules)), (a_t_state, .inl (g.1 1, 192, .inl t_state))] H → va_D A [(a_t, .inr (12, [o_t_tape, o_t_taped, o_t_fault, o_t_broken, o_t_brokenAt, o_t_spot, o_t_here, o_t_token, o_t_value, o_t_cuts, o_t_letters, o_t_plain, .ref a_t_rules, o_t_words, o_t_shorts, o_t_guards, o_t_readRules, o_t_readTable, o_t_readWords, o_t_readShorts, o_t_readGuards, o_t_toldOnes, .ref a_t_state, o_t_isAwake, o_t_sums, o_t_tongue, o_t_bestTable, o_t_may, o_t_mouth, o_t_mouthThen, o_t_isKept, o_t_lanes, o_t_lengths, o_t_cells, o_t_torn])), (a_t_rules, .inl (g.1 1, 8, .inl t_rules)), (a_t_state, .inl (g.1 1, 192, .inl t_state))] → va_S A s.heap H locs → ∀ (ls : Array Slot), lv_has ls 5 [(0, .ref a_t), (1, .int x1), (2, .int x2), (3, .int x3), (4, .int x4)] → W p l e rmX12_heardBy s m args below meth c H locs 0 0 Q (F0 m 22 ls []) := by
    intro x1
    intro n
    induction n with
    | zero => intro x2 x3 x4 h; exact h.elim
    | succ n ih =>
      intro x2 x3 x4 h H locs hP hD hS ls hl
      have h : F_X12_heardBy_22 t_rules t_state x1 post (fixN (F_X12_heardBy_22 t_rules t_state x1 post) n) (x2, x3, x4) := h
      unfold F_X12_heardBy_22 at h
      try dsimp only at h
      refine lv_iload hx hb dX12_heardBy_22 (lv_at hl 4 rfl) ?_
      refine lv_aload_n hx hb dX12_heardBy_24 rfl (lv_at hl 0 rfl) ?_
      refine va_get (ci := 12) (v := .ref a_t_rules) (C := RX12) (T := TX12) (N := 35) hx hb hts icX12 hown hG.k hP 0 rfl rfl 12 (by decide) lk1 (fun _ h9 => h9) rfl dX12_heardBy_25 ?_
      refine lv_iconst (v := 5) hx hb dX12_heardBy_28 (by decide) ?_
      obtain ⟨hv3, h⟩ := h
      refine va_iald hx hb hG.k hP 1 1 rfl rfl hv3 dX12_heardBy_29 ?_
      refine lv_icmp_ge (tgt := 93) hx hb dX12_heardBy_30 (by decide) (fun c4 => ?_) (fun c4 => ?_)
      · have h := h.1 c4
        refine lv_iload_n hx hb dX12_heardBy_93 rfl (lv_at hl 1 rfl) ?_
        refine lv_if_ne (tgt := 107) hx hb dX12_heardBy_94 (by decide) (fun c5 => ?_) (fun c5 => ?_)
        · have h := h.1 c5
          refine lv_iload_n hx hb dX12_heardBy_107 rfl (lv_at hl 1 rfl) ?_
          refine lv_iconst (v := 1) hx hb dX12_heardBy_108 (by decide) ?_
          refine lv_icmp_ne (tgt := 116) hx hb dX12_heardBy_109 (by decide) (fun c6 => ?_) (fun c6 => ?_)
          · have h := h.1 c6
            refine lv_iload_n hx hb dX12_heardBy_116 rfl (lv_at hl 3 rfl) ?_
            refine lv_bipush (v := (-4)) hx hb dX12_heardBy_117 (by decide) ?_
            refine lv_icmp_ne (tgt := 126) hx hb dX12_heardBy_119 (by decide) (fun c7 => ?_) (fun c7 => ?_)
            · have h := h.1 c7
              refine lv_aload_n hx hb dX12_heardBy_126 rfl (lv_at hl 0 rfl) ?_
              refine va_get (ci := 12) (v := .ref a_t_state) (C := RX12) (T := TX12) (N := 35) hx hb hts icX12 hown hG.k hP 0 rfl rfl 22 (by decide) lk2 (fun _ h9 => h9) rfl dX12_heardBy_127 ?_
              refine lv_bipush (v := 50) hx hb dX12_heardBy_130 (by decide) ?_
              refine lv_iload_n hx hb dX12_heardBy_132 rfl (lv_at hl 3 rfl) ?_
              refine lv_iadd hx hb dX12_heardBy_133 ?_
              obtain ⟨hv8, h⟩ := h
              refine va_iald hx hb hG.k hP 2 1 rfl rfl hv8 dX12_heardBy_134 ?_
              refine k_i (wr := [(a_t, .inr (12, [o_t_tape, o_t_taped, o_t_fault, o_t_broken, o_t_brokenAt, o_t_spot, o_t_here, o_t_token, o_t_value, o_t_cuts, o_t_letters, o_t_plain, .ref a_t_rules, o_t_words, o_t_shorts, o_t_guards, o_t_readRules, o_t_readTable, o_t_readWords, o_t_readShorts, o_t_readGuards, o_t_toldOnes, .ref a_t_state, o_t_isAwake, o_t_sums, o_t_tongue, o_t_bestTable, o_t_may, o_t_mouth, o_t_mouthThen, o_t_isKept, o_t_lanes, o_t_lengths, o_t_cells, o_t_torn])), (a_t_rules, .inl (g.1 1, 8, .inl t_rules)), (a_t_state, .inl (g.1 1, 192, .inl t_state))]) hA hP hD hS [] [0, 1, 2] rfl rfl (by decide) (by decide) (va_runS (As := [.int (t_state (50 + x3).toNatClampNeg)]) (rest := []) ⟨hx, hb, hml, hown, hts⟩ (c_X12_bitsOf l D g (t_state (50 + x3).toNatClampNeg) _ h H.size) (va_cwS 1 hts (gdS (inR_46 (List.mem_of_getElem? (i := 9) rfl)) (inR_46 (List.mem_of_getElem? (i := 10) rfl)) (inR_1 (List.mem_of_getElem? (i := 5) rfl)) (inR_46 (List.mem_of_getElem? (i := 11) rfl))) rfl rfl rfl hdX12_bitsOf.2 ⟨Nat.le_of_ble_eq_true rfl, Nat.le_of_ble_eq_true rfl⟩) (k_preS hG hA hP hD hS [] rfl (by decide)) rfl rfl hl.1 rfl (lv_room (Nat.le_of_ble_eq_true rfl)) dX12_heardBy_135 ⟨Nat.zero_le _, Nat.zero_le _⟩) (fun r9 W' H locs h hP hD hS => ?_)
              obtain ⟨rfl, h⟩ := h
              have hP : va_P D vwCl [(a_t, .inr (12, [o_t_tape, o_t_taped, o_t_fault, o_t_broken, o_t_brokenAt, o_t_spot, o_t_here, o_t_token, o_t_value, o_t_cuts, o_t_letters, o_t_plain, .ref a_t_rules, o_t_words, o_t_shorts, o_t_guards, o_t_readRules, o_t_readTable, o_t_readWords, o_t_readShorts, o_t_readGuards, o_t_toldOnes, .ref a_t_state, o_t_isAwake, o_t_sums, o_t_tongue, o_t_bestTable, o_t_may, o_t_mouth, o_t_mouthThen, o_t_isKept, o_t_lanes, o_t_lengths, o_t_cells, o_t_torn])), (a_t_rules, .inl (g.1 1, 8, .inl t_rules)), (a_t_state, .inl (g.1 1, 192, .inl t_state))] H := hP.sub [0, 1, 2] rfl
              have hD : va_D A [(a_t, .inr (12, [o_t_tape, o_t_taped, o_t_fault, o_t_broken, o_t_brokenAt, o_t_spot, o_t_here, o_t_token, o_t_value, o_t_cuts, o_t_letters, o_t_plain, .ref a_t_rules, o_t_words, o_t_shorts, o_t_guards, o_t_readRules, o_t_readTable, o_t_readWords, o_t_readShorts, o_t_readGuards, o_t_toldOnes, .ref a_t_state, o_t_isAwake, o_t_sums, o_t_tongue, o_t_bestTable, o_t_may, o_t_mouth, o_t_mouthThen, o_t_isKept, o_t_lanes, o_t_lengths, o_t_cells, o_t_torn])), (a_t_rules, .inl (g.1 1, 8, .inl t_rules)), (a_t_state, .inl (g.1 1, 192, .inl t_state))] := hD.sub [0, 1, 2] (by decide) rfl
              exact hret r9 _ _ _ _ _ ⟨rfl, h⟩ hP hD hS dX12_heardBy_138
            · have h := h.2 c7
              refine lv_iconst (v := 0) hx hb dX12_heardBy_122 (by decide) ?_
              refine lv_goto (tgt := 138) hx hb dX12_heardBy_123 (by decide) ?_
              exact hret 0 _ _ _ _ _ ⟨rfl, h⟩ hP hD hS dX12_heardBy_138
          · have h := h.2 c6
            refine lv_iload_n hx hb dX12_heardBy_112 rfl (lv_at hl 3 rfl) ?_
            refine lv_goto (tgt := 138) hx hb dX12_heardBy_113 (by decide) ?_
            exact hret x3 _ _ _ _ _ ⟨rfl, h⟩ hP hD hS dX12_heardBy_138
        · have h := h.2 c5
          refine lv_bipush (v := 11) hx hb dX12_heardBy_97 (by decide) ?_
          refine lv_iload_n hx hb dX12_heardBy_99 rfl (lv_at hl 2 rfl) ?_
          refine k_i (wr := [(a_t, .inr (12, [o_t_tape, o_t_taped, o_t_fault, o_t_broken, o_t_brokenAt, o_t_spot, o_t_here, o_t_token, o_t_value, o_t_cuts, o_t_letters, o_t_plain, .ref a_t_rules, o_t_words, o_t_shorts, o_t_guards, o_t_readRules, o_t_readTable, o_t_readWords, o_t_readShorts, o_t_readGuards, o_t_toldOnes, .ref a_t_state, o_t_isAwake, o_t_sums, o_t_tongue, o_t_bestTable, o_t_may, o_t_mouth, o_t_mouthThen, o_t_isKept, o_t_lanes, o_t_lengths, o_t_cells, o_t_torn])), (a_t_rules, .inl (g.1 1, 8, .inl t_rules)), (a_t_state, .inl (g.1 1, 192, .inl t_state))]) hA hP hD hS [] [0, 1, 2] rfl rfl (by decide) (by decide) (va_runS (As := [.int x2]) (rest := [.int 11]) ⟨hx, hb, hml, hown, hts⟩ (c_X12_bitsOf l D g x2 _ h H.size) (va_cwS 1 hts (gdS (inR_46 (List.mem_of_getElem? (i := 9) rfl)) (inR_46 (List.mem_of_getElem? (i := 10) rfl)) (inR_1 (List.mem_of_getElem? (i := 5) rfl)) (inR_46 (List.mem_of_getElem? (i := 11) rfl))) rfl rfl rfl hdX12_bitsOf.2 ⟨Nat.le_of_ble_eq_true rfl, Nat.le_of_ble_eq_true rfl⟩) (k_preS hG hA hP hD hS [] rfl (by decide)) rfl rfl hl.1 rfl (lv_room (Nat.le_of_ble_eq_true rfl)) dX12_heardBy_100 ⟨Nat.zero_le _, Nat.zero_le _⟩) (fun r10 W' H locs h hP hD hS => ?_)
          obtain ⟨rfl, h⟩ := h
          have hP : va_P D vwCl [(a_t, .inr (12, [o_t_tape, o_t_taped, o_t_fault, o_t_broken, o_t_brokenAt, o_t_spot, o_t_here, o_t_token, o_t_value, o_t_cuts, o_t_letters, o_t_plain, .ref a_t_rules, o_t_words, o_t_shorts, o_t_guards, o_t_readRules, o_t_readTable, o_t_readWords, o_t_readShorts, o_t_readGuards, o_t_toldOnes, .ref a_t_state, o_t_isAwake, o_t_sums, o_t_tongue, o_t_bestTable, o_t_may, o_t_mouth, o_t_mouthThen, o_t_isKept, o_t_lanes, o_t_lengths, o_t_cells, o_t_torn])), (a_t_rules, .inl (g.1 1, 8, .inl t_rules)), (a_t_state, .inl (g.1 1, 192, .inl t_state))] H := hP.sub [0, 1, 2] rfl
          have hD : va_D A [(a_t, .inr (12, [o_t_tape, o_t_taped, o_t_fault, o_t_broken, o_t_brokenAt, o_t_spot, o_t_here, o_t_token, o_t_value, o_t_cuts, o_t_letters, o_t_plain, .ref a_t_rules, o_t_words, o_t_shorts, o_t_guards, o_t_readRules, o_t_readTable, o_t_readWords, o_t_readShorts, o_t_readGuards, o_t_toldOnes, .ref a_t_state, o_t_isAwake, o_t_sums, o_t_tongue, o_t_bestTable, o_t_may, o_t_mouth, o_t_mouthThen, o_t_isKept, o_t_lanes, o_t_lengths, o_t_cells, o_t_torn])), (a_t_rules, .inl (g.1 1, 8, .inl t_rules)), (a_t_state, .inl (g.1 1, 192, .inl t_state))] := hD.sub [0, 1, 2] (by decide) rfl
          refine lv_isub hx hb dX12_heardBy_103 ?_
          refine lv_goto (tgt := 138) hx hb dX12_heardBy_104 (by decide) ?_
          exact hret (11 - r10) _ _ _ _ _ ⟨rfl, h⟩ hP hD hS dX12_heardBy_138
      · have h := h.2 c4
        refine lv_iload_n hx hb dX12_heardBy_33 rfl (lv_at hl 2 rfl) ?_
        refine lv_aload_n hx hb dX12_heardBy_34 rfl (lv_at hl 0 rfl) ?_
        refine va_get (ci := 12) (v := .ref a_t_state) (C := RX12) (T := TX12) (N := 35) hx hb hts icX12 hown hG.k hP 0 rfl rfl 22 (by decide) lk2 (fun _ h9 => h9) rfl dX12_heardBy_35 ?_
        refine lv_bipush (v := 50) hx hb dX12_heardBy_38 (by decide) ?_
        refine lv_iload hx hb dX12_heardBy_40 (lv_at hl 4 rfl) ?_
        refine lv_iadd hx hb dX12_heardBy_42 ?_
        obtain ⟨hv11, h⟩ := h
        refine va_iald hx hb hG.k hP 2 1 rfl rfl hv11 dX12_heardBy_43 ?_
        refine lv_ior hx hb dX12_heardBy_44 ?_
        refine lv_istore_n (lv' := [(2, .int (x2 ||| (t_state (50 + x4).toNatClampNeg))), (0, .ref a_t), (1, .int x1), (3, .int x3), (4, .int x4)]) hx hb dX12_heardBy_45 rfl hl (by decide) rfl (fun ls hl => ?_)
        refine lv_iload_n hx hb dX12_heardBy_46 rfl (lv_at hl 3 rfl) ?_
        refine lv_bipush (v := (-4)) hx hb dX12_heardBy_47 (by decide) ?_
        refine lv_icmp_eq (tgt := 80) hx hb dX12_heardBy_49 (by decide) (fun c12 => ?_) (fun c12 => ?_)
        · have h := h.1 c12
          refine lv_iload hx hb dX12_heardBy_80 (lv_at hl 4 rfl) ?_
          refine lv_goto (tgt := 86) hx hb dX12_heardBy_82 (by decide) ?_
          refine lv_istore_n (lv' := [(3, .int x4), (2, .int (x2 ||| (t_state (50 + x4).toNatClampNeg))), (0, .ref a_t), (1, .int x1), (4, .int x4)]) hx hb dX12_heardBy_86 rfl hl (by decide) rfl (fun ls hl => ?_)
          refine lv_iinc (v := x4 + 1) (lv' := [(4, .int (x4 + 1)), (3, .int x4), (2, .int (x2 ||| (t_state (50 + x4).toNatClampNeg))), (0, .ref a_t), (1, .int x1)]) hx hb dX12_heardBy_87 hl (k := 4) rfl rfl (by decide) rfl (fun ls hl => ?_)
          refine lv_goto (tgt := 22) hx hb dX12_heardBy_90 (by decide) ?_
          exact ih (x2 ||| (t_state (50 + x4).toNatClampNeg)) x4 (x4 + 1) h _ _ hP hD hS _ (lv_sub hl [3, 4, 2, 1, 0] rfl)
        · have h := h.2 c12
          refine lv_aload_n hx hb dX12_heardBy_52 rfl (lv_at hl 1 rfl) ?_
          refine va_get (ci := 12) (v := .ref a_t_state) (C := RX12) (T := TX12) (N := 35) hx hb hts icX12 hown hG.k hP 0 rfl rfl 22 (by decide) lk2 (fun _ h9 => h9) rfl dX12_heardBy_53 ?_
          refine lv_bipush (v := 50) hx hb dX12_heardBy_56 (by decide) ?_
          refine lv_iload hx hb dX12_heardBy_58 (lv_at hl 4 rfl) ?_
          refine lv_iadd hx hb dX12_heardBy_60 ?_
          obtain ⟨hv13, h⟩ := h
          refine va_iald hx hb hG.k hP 2 1 rfl rfl hv13 dX12_heardBy_61 ?_
          refine k_i (wr := [(a_t, .inr (12, [o_t_tape, o_t_taped, o_t_fault, o_t_broken, o_t_brokenAt, o_t_spot, o_t_here, o_t_token, o_t_value, o_t_cuts, o_t_letters, o_t_plain, .ref a_t_rules, o_t_words, o_t_shorts, o_t_guards, o_t_readRules, o_t_readTable, o_t_readWords, o_t_readShorts, o_t_readGuards, o_t_toldOnes, .ref a_t_state, o_t_isAwake, o_t_sums, o_t_tongue, o_t_bestTable, o_t_may, o_t_mouth, o_t_mouthThen, o_t_isKept, o_t_lanes, o_t_lengths, o_t_cells, o_t_torn])), (a_t_rules, .inl (g.1 1, 8, .inl t_rules)), (a_t_state, .inl (g.1 1, 192, .inl t_state))]) hA hP hD hS [] [0, 1, 2] rfl rfl (by decide) (by decide) (va_runS (As := [.int (t_state (50 + x4).toNatClampNeg)]) (rest := []) ⟨hx, hb, hml, hown, hts⟩ (c_X12_bitsOf l D g (t_state (50 + x4).toNatClampNeg) _ h H.size) (va_cwS 1 hts (gdS (inR_46 (List.mem_of_getElem? (i := 9) rfl)) (inR_46 (List.mem_of_getElem? (i := 10) rfl)) (inR_1 (List.mem_of_getElem? (i := 5) rfl)) (inR_46 (List.mem_of_getElem? (i := 11) rfl))) rfl rfl rfl hdX12_bitsOf.2 ⟨Nat.le_of_ble_eq_true rfl, Nat.le_of_ble_eq_true rfl⟩) (k_preS hG hA hP hD hS [] rfl (by decide)) rfl rfl hl.1 rfl (lv_room (Nat.le_of_ble_eq_true rfl)) dX12_heardBy_62 ⟨Nat.zero_le _, Nat.zero_le _⟩) (fun r14 W' H locs h hP hD hS => ?_)
          obtain ⟨rfl, h⟩ := h
          have hP : va_P D vwCl [(a_t, .inr (12, [o_t_tape, o_t_taped, o_t_fault, o_t_broken, o_t_brokenAt, o_t_spot, o_t_here, o_t_token, o_t_value, o_t_cuts, o_t_letters, o_t_plain, .ref a_t_rules, o_t_words, o_t_shorts, o_t_guards, o_t_readRules, o_t_readTable, o_t_readWords, o_t_readShorts, o_t_readGuards, o_t_toldOnes, .ref a_t_state, o_t_isAwake, o_t_sums, o_t_tongue, o_t_bestTable, o_t_may, o_t_mouth, o_t_mouthThen, o_t_isKept, o_t_lanes, o_t_lengths, o_t_cells, o_t_torn])), (a_t_rules, .inl (g.1 1, 8, .inl t_rules)), (a_t_state, .inl (g.1 1, 192, .inl t_state))] H := hP.sub [0, 1, 2] rfl
          have hD : va_D A [(a_t, .inr (12, [o_t_tape, o_t_taped, o_t_fault, o_t_broken, o_t_brokenAt, o_t_spot, o_t_here, o_t_token, o_t_value, o_t_cuts, o_t_letters, o_t_plain, .ref a_t_rules, o_t_words, o_t_shorts, o_t_guards, o_t_readRules, o_t_readTable, o_t_readWords, o_t_readShorts, o_t_readGuards, o_t_toldOnes, .ref a_t_state, o_t_isAwake, o_t_sums, o_t_tongue, o_t_bestTable, o_t_may, o_t_mouth, o_t_mouthThen, o_t_isKept, o_t_lanes, o_t_lengths, o_t_cells, o_t_torn])), (a_t_rules, .inl (g.1 1, 8, .inl t_rules)), (a_t_state, .inl (g.1 1, 192, .inl t_state))] := hD.sub [0, 1, 2] (by decide) rfl
          refine lv_aload_n hx hb dX12_heardBy_65 rfl (lv_at hl 1 rfl) ?_
          refine va_get (ci := 12) (v := .ref a_t_state) (C := RX12) (T := TX12) (N := 35) hx hb hts icX12 hown hG.k hP 0 rfl rfl 22 (by decide) lk2 (fun _ h9 => h9) rfl dX12_heardBy_66 ?_
          refine lv_bipush (v := 50) hx hb dX12_heardBy_69 (by decide) ?_
          refine lv_iload_n hx hb dX12_heardBy_71 rfl (lv_at hl 3 rfl) ?_
          refine lv_iadd hx hb dX12_heardBy_72 ?_
          obtain ⟨hv15, h⟩ := h
          refine va_iald hx hb hG.k hP 2 1 rfl rfl hv15 dX12_heardBy_73 ?_
          refine k_i (wr := [(a_t, .inr (12, [o_t_tape, o_t_taped, o_t_fault, o_t_broken, o_t_brokenAt, o_t_spot, o_t_here, o_t_token, o_t_value, o_t_cuts, o_t_letters, o_t_plain, .ref a_t_rules, o_t_words, o_t_shorts, o_t_guards, o_t_readRules, o_t_readTable, o_t_readWords, o_t_readShorts, o_t_readGuards, o_t_toldOnes, .ref a_t_state, o_t_isAwake, o_t_sums, o_t_tongue, o_t_bestTable, o_t_may, o_t_mouth, o_t_mouthThen, o_t_isKept, o_t_lanes, o_t_lengths, o_t_cells, o_t_torn])), (a_t_rules, .inl (g.1 1, 8, .inl t_rules)), (a_t_state, .inl (g.1 1, 192, .inl t_state))]) hA hP hD hS [] [0, 1, 2] rfl rfl (by decide) (by decide) (va_runS (As := [.int (t_state (50 + x3).toNatClampNeg)]) (rest := [.int r14]) ⟨hx, hb, hml, hown, hts⟩ (c_X12_bitsOf l D g (t_state (50 + x3).toNatClampNeg) _ h H.size) (va_cwS 1 hts (gdS (inR_46 (List.mem_of_getElem? (i := 9) rfl)) (inR_46 (List.mem_of_getElem? (i := 10) rfl)) (inR_1 (List.mem_of_getElem? (i := 5) rfl)) (inR_46 (List.mem_of_getElem? (i := 11) rfl))) rfl rfl rfl hdX12_bitsOf.2 ⟨Nat.le_of_ble_eq_true rfl, Nat.le_of_ble_eq_true rfl⟩) (k_preS hG hA hP hD hS [] rfl (by decide)) rfl rfl hl.1 rfl (lv_room (Nat.le_of_ble_eq_true rfl)) dX12_heardBy_74 ⟨Nat.zero_le _, Nat.zero_le _⟩) (fun r16 W' H locs h hP hD hS => ?_)
          obtain ⟨rfl, h⟩ := h
          have hP : va_P D vwCl [(a_t, .inr (12, [o_t_tape, o_t_taped, o_t_fault, o_t_broken, o_t_brokenAt, o_t_spot, o_t_here, o_t_token, o_t_value, o_t_cuts, o_t_letters, o_t_plain, .ref a_t_rules, o_t_words, o_t_shorts, o_t_guards, o_t_readRules, o_t_readTable, o_t_readWords, o_t_readShorts, o_t_readGuards, o_t_toldOnes, .ref a_t_state, o_t_isAwake, o_t_sums, o_t_tongue, o_t_bestTable, o_t_may, o_t_mouth, o_t_mouthThen, o_t_isKept, o_t_lanes, o_t_lengths, o_t_cells, o_t_torn])), (a_t_rules, .inl (g.1 1, 8, .inl t_rules)), (a_t_state, .inl (g.1 1, 192, .inl t_state))] H := hP.sub [0, 1, 2] rfl
          have hD : va_D A [(a_t, .inr (12, [o_t_tape, o_t_taped, o_t_fault, o_t_broken, o_t_brokenAt, o_t_spot, o_t_here, o_t_token, o_t_value, o_t_cuts, o_t_letters, o_t_plain, .ref a_t_rules, o_t_words, o_t_shorts, o_t_guards, o_t_readRules, o_t_readTable, o_t_readWords, o_t_readShorts, o_t_readGuards, o_t_toldOnes, .ref a_t_state, o_t_isAwake, o_t_sums, o_t_tongue, o_t_bestTable, o_t_may, o_t_mouth, o_t_mouthThen, o_t_isKept, o_t_lanes, o_t_lengths, o_t_cells, o_t_torn])), (a_t_rules, .inl (g.1 1, 8, .inl t_rules)), (a_t_state, .inl (g.1 1, 192, .inl t_state))] := hD.sub [0, 1, 2] (by decide) rfl
          refine lv_icmp_le (tgt := 85) hx hb dX12_heardBy_77 (by decide) (fun c17 => ?_) (fun c17 => ?_)
          · have h := h.1 c17
            refine lv_iload_n hx hb dX12_heardBy_85 rfl (lv_at hl 3 rfl) ?_
            refine lv_istore_n (lv' := [(3, .int x3), (2, .int (x2 ||| (t_state (50 + x4).toNatClampNeg))), (0, .ref a_t), (1, .int x1), (4, .int x4)]) hx hb dX12_heardBy_86 rfl hl (by decide) rfl (fun ls hl => ?_)
            refine lv_iinc (v := x4 + 1) (lv' := [(4, .int (x4 + 1)), (3, .int x3), (2, .int (x2 ||| (t_state (50 + x4).toNatClampNeg))), (0, .ref a_t), (1, .int x1)]) hx hb dX12_heardBy_87 hl (k := 4) rfl rfl (by decide) rfl (fun ls hl => ?_)
            refine lv_goto (tgt := 22) hx hb dX12_heardBy_90 (by decide) ?_
            exact ih (x2 ||| (t_state (50 + x4).toNatClampNeg)) x3 (x4 + 1) h _ _ hP hD hS _ (lv_sub hl [3, 4, 2, 1, 0] rfl)
          · have h := h.2 c17
            refine lv_iload hx hb dX12_heardBy_80 (lv_at hl 4 rfl) ?_
            refine lv_goto (tgt := 86) hx hb dX12_heardBy_82 (by decide) ?_
            refine lv_istore_n (lv' := [(3, .int x4), (2, .int (x2 ||| (t_state (50 + x4).toNatClampNeg))), (0, .ref a_t), (1, .int x1), (4, .int x4)]) hx hb dX12_heardBy_86 rfl hl (by decide) rfl (fun ls hl => ?_)
            refine lv_iinc (v := x4 + 1) (lv' := [(4, .int (x4 + 1)), (3, .int x4), (2, .int (x2 ||| (t_state (50 + x4).toNatClampNeg))), (0, .ref a_t), (1, .int x1)]) hx hb dX12_heardBy_87 hl (k := 4) rfl rfl (by decide) rfl (fun ls hl => ?_)
            refine lv_goto (tgt := 22) hx hb dX12_heardBy_90 (by decide) ?_
            exact ih (x2 ||| (t_state (50 + x4).toNatClampNeg)) x4 (x4 + 1) h _ _ hP hD hS _ (lv_sub hl [3, 4, 2, 1, 0] rfl)
  unfold wp_X12_heardBy at h
  try dsimp only at h
  refine lv_iload_n hx hb dX12_heardBy_0 rfl (lv_at hl 1 rfl) ?_
  refine lv_i2l hx hb dX12_heardBy_1 rfl ?_
  refine lv_lconst (v := 0) hx hb dX12_heardBy_2 (by decide) ?_
  refine lv_ldc2 hx hb hown lk0 dX12_heardBy_3 ?_
  refine k_i (wr := [(a_t, .inr (12, [o_t_tape, o_t_taped, o_t_fault, o_t_broken, o_t_brokenAt, o_t_spot, o_t_here, o_t_token, o_t_value, o_t_cuts, o_t_letters, o_t_plain, .ref a_t_rules, o_t_words, o_t_shorts, o_t_guards, o_t_readRules, o_t_readTable, o_t_readWords, o_t_readShorts, o_t_readGuards, o_t_toldOnes, .ref a_t_state, o_t_isAwake, o_t_sums, o_t_tongue, o_t_bestTable, o_t_may, o_t_mouth, o_t_mouthThen, o_t_isKept, o_t_lanes, o_t_lengths, o_t_cells, o_t_torn])), (a_t_rules, .inl (g.1 1, 8, .inl t_rules)), (a_t_state, .inl (g.1 1, 192, .inl t_state))]) hA hP hD hS [] [0, 1, 2] rfl rfl (by decide) (by decide) (va_runS (As := [.long x1.toInt64, .long 0, .long ((2))]) (rest := []) ⟨hx, hb, hml, hown, hts⟩ (c_X12_in l D g x1.toInt64 0 ((2)) _ h H.size) (va_cwS 3 hts (gdS (inR_10 (List.mem_of_getElem? (i := 1) rfl)) (inR_10 (List.mem_of_getElem? (i := 2) rfl)) (inR_1 (List.mem_of_getElem? (i := 5) rfl)) (inR_10 (List.mem_of_getElem? (i := 3) rfl))) rfl rfl rfl hdX12_in.2 ⟨Nat.le_of_ble_eq_true rfl, Nat.le_of_ble_eq_true rfl⟩) (k_preS hG hA hP hD hS [] rfl (by decide)) rfl rfl hl.1 rfl (lv_room (Nat.le_of_ble_eq_true rfl)) dX12_heardBy_6 ⟨Nat.zero_le _, Nat.zero_le _⟩) (fun r1 W' H locs h hP hD hS => ?_)
  obtain ⟨rfl, h⟩ := h
  have hP : va_P D vwCl [(a_t, .inr (12, [o_t_tape, o_t_taped, o_t_fault, o_t_broken, o_t_brokenAt, o_t_spot, o_t_here, o_t_token, o_t_value, o_t_cuts, o_t_letters, o_t_plain, .ref a_t_rules, o_t_words, o_t_shorts, o_t_guards, o_t_readRules, o_t_readTable, o_t_readWords, o_t_readShorts, o_t_readGuards, o_t_toldOnes, .ref a_t_state, o_t_isAwake, o_t_sums, o_t_tongue, o_t_bestTable, o_t_may, o_t_mouth, o_t_mouthThen, o_t_isKept, o_t_lanes, o_t_lengths, o_t_cells, o_t_torn])), (a_t_rules, .inl (g.1 1, 8, .inl t_rules)), (a_t_state, .inl (g.1 1, 192, .inl t_state))] H := hP.sub [0, 1, 2] rfl
  have hD : va_D A [(a_t, .inr (12, [o_t_tape, o_t_taped, o_t_fault, o_t_broken, o_t_brokenAt, o_t_spot, o_t_here, o_t_token, o_t_value, o_t_cuts, o_t_letters, o_t_plain, .ref a_t_rules, o_t_words, o_t_shorts, o_t_guards, o_t_readRules, o_t_readTable, o_t_readWords, o_t_readShorts, o_t_readGuards, o_t_toldOnes, .ref a_t_state, o_t_isAwake, o_t_sums, o_t_tongue, o_t_bestTable, o_t_may, o_t_mouth, o_t_mouthThen, o_t_isKept, o_t_lanes, o_t_lengths, o_t_cells, o_t_torn])), (a_t_rules, .inl (g.1 1, 8, .inl t_rules)), (a_t_state, .inl (g.1 1, 192, .inl t_state))] := hD.sub [0, 1, 2] (by decide) rfl
  refine lv_if_ne (tgt := 14) hx hb dX12_heardBy_9 (by decide) (fun c2 => ?_) (fun c2 => ?_)
  · have h := h.1 c2
    refine lv_iconst (v := 0) hx hb dX12_heardBy_14 (by decide) ?_
    refine lv_istore_n (lv' := [(2, .int 0), (0, .ref a_t), (1, .int x1)]) hx hb dX12_heardBy_15 rfl hl (by decide) rfl (fun ls hl => ?_)
    refine lv_bipush (v := (-4)) hx hb dX12_heardBy_16 (by decide) ?_
    refine lv_istore_n (lv' := [(3, .int ((-4))), (2, .int 0), (0, .ref a_t), (1, .int x1)]) hx hb dX12_heardBy_18 rfl hl (by decide) rfl (fun ls hl => ?_)
    refine lv_iconst (v := 0) hx hb dX12_heardBy_19 (by decide) ?_
    refine lv_istore (lv' := [(4, .int 0), (3, .int ((-4))), (2, .int 0), (0, .ref a_t), (1, .int x1)]) hx hb dX12_heardBy_20 hl (by decide) rfl (fun ls hl => ?_)
    obtain ⟨n9, h⟩ := h
    exact L22 x1 n9 0 ((-4)) 0 h _ _ hP hD hS _ (lv_sub hl [3, 4, 2, 1, 0] rfl)
  · have h := h.2 c2
    refine lv_iconst (v := (-1)) hx hb dX12_heardBy_12 (by decide) ?_
    exact hret ((-1)) _ _ _ _ _ ⟨rfl, h⟩ hP hD hS dX12_heardBy_13
theorem hdX12_keep : yX12_keep.cls = RX12 ∧ yX12_keep.cls ≠ "java/lang/invoke/MethodHandle" ∧ yX12_keep.cls ≠ "java/lang/invoke/VarHandle" ∧ (parseMethodDescriptor yX12_keep.desc).map (fun d => d.parameters.length) = some 1 := by decide +kernel
abbrev rmX12_keep : Room := { frames := 2, cells := 0, slots := 0, locals := 200 }
set_option maxHeartbeats 4000000 in
set_option maxRecDepth 100000 in
theorem c_X12_keep (l : Launch) (D : va_G) (g : gE) (a_t : Nat) (a_t_state : Nat) (a_t_isKept : Nat) (o_t_tape : Value) (o_t_taped : Value) (o_t_fault : Value) (o_t_broken : Value) (o_t_brokenAt : Value) (o_t_spot : Value) (o_t_here : Value) (o_t_token : Value) (o_t_value : Value) (o_t_cuts : Value) (o_t_letters : Value) (o_t_plain : Value) (o_t_rules : Value) (o_t_words : Value) (o_t_shorts : Value) (o_t_guards : Value) (o_t_readRules : Value) (o_t_readTable : Value) (o_t_readWords : Value) (o_t_readShorts : Value) (o_t_readGuards : Value) (o_t_toldOnes : Value) (o_t_sums : Value) (o_t_tongue : Value) (o_t_bestTable : Value) (o_t_may : Value) (o_t_mouth : Value) (o_t_mouthThen : Value) (o_t_lanes : Value) (o_t_lengths : Value) (o_t_cells : Value) (o_t_torn : Value) (t_isAwake : Int32) (t_state : Nat → Int32) (t_isKept : Nat → Int32) (x1 : Int32) (post : Int32 → Int32 → (Nat → Int32) → (Nat → Int32) → Prop) (h : wp_X12_keep t_isAwake t_state t_isKept x1 post) : Ci l D g yX12_keep (.code yX12_keep cX12_keep 3 (some .int) :: wsL_law) rmX12_keep [.ref a_t, .int x1] [(a_t, .inr (12, [o_t_tape, o_t_taped, o_t_fault, o_t_broken, o_t_brokenAt, o_t_spot, o_t_here, o_t_token, o_t_value, o_t_cuts, o_t_letters, o_t_plain, o_t_rules, o_t_words, o_t_shorts, o_t_guards, o_t_readRules, o_t_readTable, o_t_readWords, o_t_readShorts, o_t_readGuards, o_t_toldOnes, .ref a_t_state, .int t_isAwake, o_t_sums, o_t_tongue, o_t_bestTable, o_t_may, o_t_mouth, o_t_mouthThen, .ref a_t_isKept, o_t_lanes, o_t_lengths, o_t_cells, o_t_torn])), (a_t_state, .inl (g.1 1, 192, .inl t_state)), (a_t_isKept, .inl (g.1 3, 2, .inl t_isKept))] (fun r W' => ∃ (nw_t_isAwake : Int32) (nw_t_state : Nat → Int32) (nw_t_isKept : Nat → Int32), W' = [(a_t, .inr (12, [o_t_tape, o_t_taped, o_t_fault, o_t_broken, o_t_brokenAt, o_t_spot, o_t_here, o_t_token, o_t_value, o_t_cuts, o_t_letters, o_t_plain, o_t_rules, o_t_words, o_t_shorts, o_t_guards, o_t_readRules, o_t_readTable, o_t_readWords, o_t_readShorts, o_t_readGuards, o_t_toldOnes, .ref a_t_state, .int nw_t_isAwake, o_t_sums, o_t_tongue, o_t_bestTable, o_t_may, o_t_mouth, o_t_mouthThen, .ref a_t_isKept, o_t_lanes, o_t_lengths, o_t_cells, o_t_torn])), (a_t_state, .inl (g.1 1, 192, .inl nw_t_state)), (a_t_isKept, .inl (g.1 3, 2, .inl nw_t_isKept))] ∧ post r nw_t_isAwake nw_t_state nw_t_isKept) := by
  refine Ci.of (cc := cX12_keep) (maxL := 3) (by decide) rfl (Nat.le_of_ble_eq_true rfl) ?_
  intro p e s m args below meth c A Q hx hb hml hts hown hA H locs hP hD hS hG ls hl hret
  have hown : s.vm.findClass RX12 = some m.cls := hown
  have hl : lv_has ls 3 [(0, .ref a_t), (1, .int x1)] := hl
  have lk0 := hts (.fieldLink RX12 71 "KnockWallModel" "isKept" "[Z") (List.mem_cons_of_mem _ (inR_8 (List.mem_of_getElem? (i := 22) rfl)))
  have lk1 := hts (.fieldLink RX12 49 "KnockWallModel" "state" "[I") (List.mem_cons_of_mem _ (inR_8 (List.mem_of_getElem? (i := 14) rfl)))
  have L18 : ∀ (x1 : Int32) (t_isAwake : Int32) (t_isKept : Nat → Int32), ∀ (n : Nat) (x2 : Int32) (t_state : Nat → Int32), fixN (F_X12_keep_18 x1 t_isAwake t_isKept post) n (x2, t_state) → ∀ (H : Heap) (locs : List Loc), va_P D vwCl [(a_t, .inr (12, [o_t_tape, o_t_taped, o_t_fault, o_t_broken, o_t_brokenAt, o_t_spot, o_t_here, o_t_token, o_t_value, o_t_cuts, o_t_letters, o_t_plain, o_t_rules, o_t_words, o_t_shorts, o_t_guards, o_t_readRules, o_t_readTable, o_t_readWords, o_t_readShorts, o_t_readGuards, o_t_toldOnes, .ref a_t_state, .int t_isAwake, o_t_sums, o_t_tongue, o_t_bestTable, o_t_may, o_t_mouth, o_t_mouthThen, .ref a_t_isKept, o_t_lanes, o_t_lengths, o_t_cells, o_t_torn])), (a_t_state, .inl (g.1 1, 192, .inl t_state)), (a_t_isKept, .inl (g.1 3, 2, .inl t_isKept))] H → va_D A [(a_t, .inr (12, [o_t_tape, o_t_taped, o_t_fault, o_t_broken, o_t_brokenAt, o_t_spot, o_t_here, o_t_token, o_t_value, o_t_cuts, o_t_letters, o_t_plain, o_t_rules, o_t_words, o_t_shorts, o_t_guards, o_t_readRules, o_t_readTable, o_t_readWords, o_t_readShorts, o_t_readGuards, o_t_toldOnes, .ref a_t_state, .int t_isAwake, o_t_sums, o_t_tongue, o_t_bestTable, o_t_may, o_t_mouth, o_t_mouthThen, .ref a_t_isKept, o_t_lanes, o_t_lengths, o_t_cells, o_t_torn])), (a_t_state, .inl (g.1 1, 192, .inl t_state)), (a_t_isKept, .inl (g.1 3, 2, .inl t_isKept))] → va_S A s.heap H locs → ∀ (ls : Array Slot), lv_has ls 3 [(0, .ref a_t), (1, .int x1), (2, .int x2)] → W p l e rmX12_keep s m args below meth c H locs 0 0 Q (F0 m 18 ls []) := by
    intro x1 t_isAwake t_isKept
    intro n
    induction n with
    | zero => intro x2 t_state h; exact h.elim
    | succ n ih =>
      intro x2 t_state h H locs hP hD hS ls hl
      have h : F_X12_keep_18 x1 t_isAwake t_isKept post (fixN (F_X12_keep_18 x1 t_isAwake t_isKept post) n) (x2, t_state) := h
      unfold F_X12_keep_18 at h
      try dsimp only at h
      refine lv_iload_n hx hb dX12_keep_18 rfl (lv_at hl 2 rfl) ?_
      refine lv_bipush (v := 64) hx hb dX12_keep_19 (by decide) ?_
      refine lv_icmp_ge (tgt := 49) hx hb dX12_keep_21 (by decide) (fun c4 => ?_) (fun c4 => ?_)
      · have h := h.1 c4
        refine lv_aload_n hx hb dX12_keep_49 rfl (lv_at hl 0 rfl) ?_
        refine va_get (ci := 12) (v := .ref a_t_isKept) (C := RX12) (T := TX12) (N := 35) hx hb hts icX12 hown hG.k hP 0 rfl rfl 30 (by decide) lk0 (fun _ h9 => h9) rfl dX12_keep_50 ?_
        refine lv_iload_n hx hb dX12_keep_53 rfl (lv_at hl 1 rfl) ?_
        obtain ⟨hv5, h⟩ := h
        refine va_zald hx hb hG.k hP 2 3 rfl rfl hv5 dX12_keep_54 ?_
        refine lv_if_eq (tgt := 62) hx hb dX12_keep_55 (by decide) (fun c6 => ?_) (fun c6 => ?_)
        · have h := h.1 c6
          refine lv_iconst (v := 0) hx hb dX12_keep_62 (by decide) ?_
          refine lv_istore_n (lv' := [(2, .int 0), (0, .ref a_t), (1, .int x1)]) hx hb dX12_keep_63 rfl hl (by decide) rfl (fun ls hl => ?_)
          refine lv_aload_n hx hb dX12_keep_64 rfl (lv_at hl 1 rfl) ?_
          refine va_get (ci := 12) (v := .ref a_t_isKept) (C := RX12) (T := TX12) (N := 35) hx hb hts icX12 hown hG.k hP 0 rfl rfl 30 (by decide) lk0 (fun _ h9 => h9) rfl dX12_keep_65 ?_
          refine lv_iload_n hx hb dX12_keep_68 rfl (lv_at hl 2 rfl) ?_
          refine lv_iconst (v := 1) hx hb dX12_keep_69 (by decide) ?_
          obtain ⟨hv7, h⟩ := h
          refine va_zast hx hb hG.k hP hD hS 2 3 rfl rfl hv7 dX12_keep_70 (fun H locs hP hD hS => ?_)
          have hP : va_P D vwCl [(a_t, .inr (12, [o_t_tape, o_t_taped, o_t_fault, o_t_broken, o_t_brokenAt, o_t_spot, o_t_here, o_t_token, o_t_value, o_t_cuts, o_t_letters, o_t_plain, o_t_rules, o_t_words, o_t_shorts, o_t_guards, o_t_readRules, o_t_readTable, o_t_readWords, o_t_readShorts, o_t_readGuards, o_t_toldOnes, .ref a_t_state, .int t_isAwake, o_t_sums, o_t_tongue, o_t_bestTable, o_t_may, o_t_mouth, o_t_mouthThen, .ref a_t_isKept, o_t_lanes, o_t_lengths, o_t_cells, o_t_torn])), (a_t_state, .inl (g.1 1, 192, .inl t_state)), (a_t_isKept, .inl (g.1 3, 2, .inl (upd t_isKept x1.toNatClampNeg (vp_nar .boolean 1))))] H := hP
          have hD : va_D A [(a_t, .inr (12, [o_t_tape, o_t_taped, o_t_fault, o_t_broken, o_t_brokenAt, o_t_spot, o_t_here, o_t_token, o_t_value, o_t_cuts, o_t_letters, o_t_plain, o_t_rules, o_t_words, o_t_shorts, o_t_guards, o_t_readRules, o_t_readTable, o_t_readWords, o_t_readShorts, o_t_readGuards, o_t_toldOnes, .ref a_t_state, .int t_isAwake, o_t_sums, o_t_tongue, o_t_bestTable, o_t_may, o_t_mouth, o_t_mouthThen, .ref a_t_isKept, o_t_lanes, o_t_lengths, o_t_cells, o_t_torn])), (a_t_state, .inl (g.1 1, 192, .inl t_state)), (a_t_isKept, .inl (g.1 3, 2, .inl (upd t_isKept x1.toNatClampNeg (vp_nar .boolean 1))))] := hD
          refine lv_iload_n hx hb dX12_keep_71 rfl (lv_at hl 0 rfl) ?_
          exact hret 0 _ _ _ _ _ ⟨t_isAwake, t_state, upd t_isKept x1.toNatClampNeg (vp_nar .boolean 1), rfl, h⟩ hP hD hS dX12_keep_72
        · have h := h.2 c6
          refine lv_iconst (v := 1) hx hb dX12_keep_58 (by decide) ?_
          refine lv_goto (tgt := 63) hx hb dX12_keep_59 (by decide) ?_
          refine lv_istore_n (lv' := [(2, .int 1), (0, .ref a_t), (1, .int x1)]) hx hb dX12_keep_63 rfl hl (by decide) rfl (fun ls hl => ?_)
          refine lv_aload_n hx hb dX12_keep_64 rfl (lv_at hl 1 rfl) ?_
          refine va_get (ci := 12) (v := .ref a_t_isKept) (C := RX12) (T := TX12) (N := 35) hx hb hts icX12 hown hG.k hP 0 rfl rfl 30 (by decide) lk0 (fun _ h9 => h9) rfl dX12_keep_65 ?_
          refine lv_iload_n hx hb dX12_keep_68 rfl (lv_at hl 2 rfl) ?_
          refine lv_iconst (v := 1) hx hb dX12_keep_69 (by decide) ?_
          obtain ⟨hv8, h⟩ := h
          refine va_zast hx hb hG.k hP hD hS 2 3 rfl rfl hv8 dX12_keep_70 (fun H locs hP hD hS => ?_)
          have hP : va_P D vwCl [(a_t, .inr (12, [o_t_tape, o_t_taped, o_t_fault, o_t_broken, o_t_brokenAt, o_t_spot, o_t_here, o_t_token, o_t_value, o_t_cuts, o_t_letters, o_t_plain, o_t_rules, o_t_words, o_t_shorts, o_t_guards, o_t_readRules, o_t_readTable, o_t_readWords, o_t_readShorts, o_t_readGuards, o_t_toldOnes, .ref a_t_state, .int t_isAwake, o_t_sums, o_t_tongue, o_t_bestTable, o_t_may, o_t_mouth, o_t_mouthThen, .ref a_t_isKept, o_t_lanes, o_t_lengths, o_t_cells, o_t_torn])), (a_t_state, .inl (g.1 1, 192, .inl t_state)), (a_t_isKept, .inl (g.1 3, 2, .inl (upd t_isKept x1.toNatClampNeg (vp_nar .boolean 1))))] H := hP
          have hD : va_D A [(a_t, .inr (12, [o_t_tape, o_t_taped, o_t_fault, o_t_broken, o_t_brokenAt, o_t_spot, o_t_here, o_t_token, o_t_value, o_t_cuts, o_t_letters, o_t_plain, o_t_rules, o_t_words, o_t_shorts, o_t_guards, o_t_readRules, o_t_readTable, o_t_readWords, o_t_readShorts, o_t_readGuards, o_t_toldOnes, .ref a_t_state, .int t_isAwake, o_t_sums, o_t_tongue, o_t_bestTable, o_t_may, o_t_mouth, o_t_mouthThen, .ref a_t_isKept, o_t_lanes, o_t_lengths, o_t_cells, o_t_torn])), (a_t_state, .inl (g.1 1, 192, .inl t_state)), (a_t_isKept, .inl (g.1 3, 2, .inl (upd t_isKept x1.toNatClampNeg (vp_nar .boolean 1))))] := hD
          refine lv_iload_n hx hb dX12_keep_71 rfl (lv_at hl 0 rfl) ?_
          exact hret 1 _ _ _ _ _ ⟨t_isAwake, t_state, upd t_isKept x1.toNatClampNeg (vp_nar .boolean 1), rfl, h⟩ hP hD hS dX12_keep_72
      · have h := h.2 c4
        refine lv_aload_n hx hb dX12_keep_24 rfl (lv_at hl 0 rfl) ?_
        refine va_get (ci := 12) (v := .ref a_t_state) (C := RX12) (T := TX12) (N := 35) hx hb hts icX12 hown hG.k hP 0 rfl rfl 22 (by decide) lk1 (fun _ h9 => h9) rfl dX12_keep_25 ?_
        refine lv_bipush (v := 64) hx hb dX12_keep_28 (by decide) ?_
        refine lv_iload_n hx hb dX12_keep_30 rfl (lv_at hl 1 rfl) ?_
        refine lv_iconst (v := 1) hx hb dX12_keep_31 (by decide) ?_
        refine lv_iadd hx hb dX12_keep_32 ?_
        refine lv_imul hx hb dX12_keep_33 ?_
        refine lv_iload_n hx hb dX12_keep_34 rfl (lv_at hl 2 rfl) ?_
        refine lv_iadd hx hb dX12_keep_35 ?_
        refine lv_aload_n hx hb dX12_keep_36 rfl (lv_at hl 0 rfl) ?_
        refine va_get (ci := 12) (v := .ref a_t_state) (C := RX12) (T := TX12) (N := 35) hx hb hts icX12 hown hG.k hP 0 rfl rfl 22 (by decide) lk1 (fun _ h9 => h9) rfl dX12_keep_37 ?_
        refine lv_iload_n hx hb dX12_keep_40 rfl (lv_at hl 2 rfl) ?_
        obtain ⟨hv9, h⟩ := h
        refine va_iald hx hb hG.k hP 1 1 rfl rfl hv9 dX12_keep_41 ?_
        obtain ⟨hv10, h⟩ := h
        refine va_iast hx hb hG.k hP hD hS 1 1 rfl rfl hv10 dX12_keep_42 (fun H locs hP hD hS => ?_)
        have hP : va_P D vwCl [(a_t, .inr (12, [o_t_tape, o_t_taped, o_t_fault, o_t_broken, o_t_brokenAt, o_t_spot, o_t_here, o_t_token, o_t_value, o_t_cuts, o_t_letters, o_t_plain, o_t_rules, o_t_words, o_t_shorts, o_t_guards, o_t_readRules, o_t_readTable, o_t_readWords, o_t_readShorts, o_t_readGuards, o_t_toldOnes, .ref a_t_state, .int t_isAwake, o_t_sums, o_t_tongue, o_t_bestTable, o_t_may, o_t_mouth, o_t_mouthThen, .ref a_t_isKept, o_t_lanes, o_t_lengths, o_t_cells, o_t_torn])), (a_t_state, .inl (g.1 1, 192, .inl (upd t_state ((64 * (x1 + 1)) + x2).toNatClampNeg (t_state x2.toNatClampNeg)))), (a_t_isKept, .inl (g.1 3, 2, .inl t_isKept))] H := hP
        have hD : va_D A [(a_t, .inr (12, [o_t_tape, o_t_taped, o_t_fault, o_t_broken, o_t_brokenAt, o_t_spot, o_t_here, o_t_token, o_t_value, o_t_cuts, o_t_letters, o_t_plain, o_t_rules, o_t_words, o_t_shorts, o_t_guards, o_t_readRules, o_t_readTable, o_t_readWords, o_t_readShorts, o_t_readGuards, o_t_toldOnes, .ref a_t_state, .int t_isAwake, o_t_sums, o_t_tongue, o_t_bestTable, o_t_may, o_t_mouth, o_t_mouthThen, .ref a_t_isKept, o_t_lanes, o_t_lengths, o_t_cells, o_t_torn])), (a_t_state, .inl (g.1 1, 192, .inl (upd t_state ((64 * (x1 + 1)) + x2).toNatClampNeg (t_state x2.toNatClampNeg)))), (a_t_isKept, .inl (g.1 3, 2, .inl t_isKept))] := hD
        refine lv_iinc (v := x2 + 1) (lv' := [(2, .int (x2 + 1)), (0, .ref a_t), (1, .int x1)]) hx hb dX12_keep_43 hl (k := 2) rfl rfl (by decide) rfl (fun ls hl => ?_)
        refine lv_goto (tgt := 18) hx hb dX12_keep_46 (by decide) ?_
        exact ih (x2 + 1) (upd t_state ((64 * (x1 + 1)) + x2).toNatClampNeg (t_state x2.toNatClampNeg)) h _ _ hP hD hS _ (lv_sub hl [1, 2, 0] rfl)
  unfold wp_X12_keep at h
  try dsimp only at h
  refine lv_aload_n hx hb dX12_keep_0 rfl (lv_at hl 0 rfl) ?_
  refine k_v (wr := [(a_t_isKept, .inl (g.1 3, 2, .inl t_isKept))]) hA hP hD hS [0, 1] [2] rfl rfl (by decide) (by decide) (va_runV (As := []) (rest := []) ⟨hx, hb, hml, hown, hts⟩ (c_X12_awake l D g a_t a_t_state (o_t_tape) (o_t_taped) (o_t_fault) (o_t_broken) (o_t_brokenAt) (o_t_spot) (o_t_here) (o_t_token) (o_t_value) (o_t_cuts) (o_t_letters) (o_t_plain) (o_t_rules) (o_t_words) (o_t_shorts) (o_t_guards) (o_t_readRules) (o_t_readTable) (o_t_readWords) (o_t_readShorts) (o_t_readGuards) (o_t_toldOnes) (o_t_sums) (o_t_tongue) (o_t_bestTable) (o_t_may) (o_t_mouth) (o_t_mouthThen) (.ref a_t_isKept) (o_t_lanes) (o_t_lengths) (o_t_cells) (o_t_torn) t_isAwake t_state _ h H.size) (cwV 0 hts (gdV (inR_22 (List.mem_of_getElem? (i := 18) rfl)) (inR_22 (List.mem_of_getElem? (i := 19) rfl)) (inR_22 (List.mem_of_getElem? (i := 20) rfl)) (inR_1 (List.mem_of_getElem? (i := 5) rfl)) (inR_22 (List.mem_of_getElem? (i := 21) rfl))) rfl rfl rfl hdX12_awake ⟨Nat.le_of_ble_eq_true rfl, Nat.le_of_ble_eq_true rfl⟩) (k_preV (q0 := 0) hG hA hP hD hS [0, 1] rfl (by decide) rfl rfl) rfl rfl hl.1 rfl (lv_room (Nat.le_of_ble_eq_true rfl)) dX12_keep_1 ⟨Nat.zero_le _, Nat.zero_le _⟩) (fun W' H locs h hP hD hS => ?_)
  obtain ⟨u1_t_isAwake, u1_t_state, rfl, h⟩ := h
  have hP : va_P D vwCl [(a_t, .inr (12, [o_t_tape, o_t_taped, o_t_fault, o_t_broken, o_t_brokenAt, o_t_spot, o_t_here, o_t_token, o_t_value, o_t_cuts, o_t_letters, o_t_plain, o_t_rules, o_t_words, o_t_shorts, o_t_guards, o_t_readRules, o_t_readTable, o_t_readWords, o_t_readShorts, o_t_readGuards, o_t_toldOnes, .ref a_t_state, .int u1_t_isAwake, o_t_sums, o_t_tongue, o_t_bestTable, o_t_may, o_t_mouth, o_t_mouthThen, .ref a_t_isKept, o_t_lanes, o_t_lengths, o_t_cells, o_t_torn])), (a_t_state, .inl (g.1 1, 192, .inl u1_t_state)), (a_t_isKept, .inl (g.1 3, 2, .inl t_isKept))] H := hP.sub [1, 2, 0] rfl
  have hD : va_D A [(a_t, .inr (12, [o_t_tape, o_t_taped, o_t_fault, o_t_broken, o_t_brokenAt, o_t_spot, o_t_here, o_t_token, o_t_value, o_t_cuts, o_t_letters, o_t_plain, o_t_rules, o_t_words, o_t_shorts, o_t_guards, o_t_readRules, o_t_readTable, o_t_readWords, o_t_readShorts, o_t_readGuards, o_t_toldOnes, .ref a_t_state, .int u1_t_isAwake, o_t_sums, o_t_tongue, o_t_bestTable, o_t_may, o_t_mouth, o_t_mouthThen, .ref a_t_isKept, o_t_lanes, o_t_lengths, o_t_cells, o_t_torn])), (a_t_state, .inl (g.1 1, 192, .inl u1_t_state)), (a_t_isKept, .inl (g.1 3, 2, .inl t_isKept))] := hD.sub [1, 2, 0] (by decide) rfl
  refine lv_iload_n hx hb dX12_keep_4 rfl (lv_at hl 1 rfl) ?_
  refine lv_i2l hx hb dX12_keep_5 rfl ?_
  refine lv_lconst (v := 0) hx hb dX12_keep_6 (by decide) ?_
  refine lv_lconst (v := 1) hx hb dX12_keep_7 (by decide) ?_
  refine k_i (wr := [(a_t, .inr (12, [o_t_tape, o_t_taped, o_t_fault, o_t_broken, o_t_brokenAt, o_t_spot, o_t_here, o_t_token, o_t_value, o_t_cuts, o_t_letters, o_t_plain, o_t_rules, o_t_words, o_t_shorts, o_t_guards, o_t_readRules, o_t_readTable, o_t_readWords, o_t_readShorts, o_t_readGuards, o_t_toldOnes, .ref a_t_state, .int u1_t_isAwake, o_t_sums, o_t_tongue, o_t_bestTable, o_t_may, o_t_mouth, o_t_mouthThen, .ref a_t_isKept, o_t_lanes, o_t_lengths, o_t_cells, o_t_torn])), (a_t_state, .inl (g.1 1, 192, .inl u1_t_state)), (a_t_isKept, .inl (g.1 3, 2, .inl t_isKept))]) hA hP hD hS [] [0, 1, 2] rfl rfl (by decide) (by decide) (va_runS (As := [.long x1.toInt64, .long 0, .long 1]) (rest := []) ⟨hx, hb, hml, hown, hts⟩ (c_X12_in l D g x1.toInt64 0 1 _ h H.size) (va_cwS 3 hts (gdS (inR_10 (List.mem_of_getElem? (i := 1) rfl)) (inR_10 (List.mem_of_getElem? (i := 2) rfl)) (inR_1 (List.mem_of_getElem? (i := 5) rfl)) (inR_10 (List.mem_of_getElem? (i := 3) rfl))) rfl rfl rfl hdX12_in.2 ⟨Nat.le_of_ble_eq_true rfl, Nat.le_of_ble_eq_true rfl⟩) (k_preS hG hA hP hD hS [] rfl (by decide)) rfl rfl hl.1 rfl (lv_room (Nat.le_of_ble_eq_true rfl)) dX12_keep_8 ⟨Nat.zero_le _, Nat.zero_le _⟩) (fun r2 W' H locs h hP hD hS => ?_)
  obtain ⟨rfl, h⟩ := h
  have hP : va_P D vwCl [(a_t, .inr (12, [o_t_tape, o_t_taped, o_t_fault, o_t_broken, o_t_brokenAt, o_t_spot, o_t_here, o_t_token, o_t_value, o_t_cuts, o_t_letters, o_t_plain, o_t_rules, o_t_words, o_t_shorts, o_t_guards, o_t_readRules, o_t_readTable, o_t_readWords, o_t_readShorts, o_t_readGuards, o_t_toldOnes, .ref a_t_state, .int u1_t_isAwake, o_t_sums, o_t_tongue, o_t_bestTable, o_t_may, o_t_mouth, o_t_mouthThen, .ref a_t_isKept, o_t_lanes, o_t_lengths, o_t_cells, o_t_torn])), (a_t_state, .inl (g.1 1, 192, .inl u1_t_state)), (a_t_isKept, .inl (g.1 3, 2, .inl t_isKept))] H := hP.sub [0, 1, 2] rfl
  have hD : va_D A [(a_t, .inr (12, [o_t_tape, o_t_taped, o_t_fault, o_t_broken, o_t_brokenAt, o_t_spot, o_t_here, o_t_token, o_t_value, o_t_cuts, o_t_letters, o_t_plain, o_t_rules, o_t_words, o_t_shorts, o_t_guards, o_t_readRules, o_t_readTable, o_t_readWords, o_t_readShorts, o_t_readGuards, o_t_toldOnes, .ref a_t_state, .int u1_t_isAwake, o_t_sums, o_t_tongue, o_t_bestTable, o_t_may, o_t_mouth, o_t_mouthThen, .ref a_t_isKept, o_t_lanes, o_t_lengths, o_t_cells, o_t_torn])), (a_t_state, .inl (g.1 1, 192, .inl u1_t_state)), (a_t_isKept, .inl (g.1 3, 2, .inl t_isKept))] := hD.sub [0, 1, 2] (by decide) rfl
  refine lv_if_ne (tgt := 16) hx hb dX12_keep_11 (by decide) (fun c3 => ?_) (fun c3 => ?_)
  · have h := h.1 c3
    refine lv_iconst (v := 0) hx hb dX12_keep_16 (by decide) ?_
    refine lv_istore_n (lv' := [(2, .int 0), (0, .ref a_t), (1, .int x1)]) hx hb dX12_keep_17 rfl hl (by decide) rfl (fun ls hl => ?_)
    obtain ⟨n9, h⟩ := h
    exact L18 x1 u1_t_isAwake t_isKept n9 0 u1_t_state h _ _ hP hD hS _ (lv_sub hl [1, 2, 0] rfl)
  · have h := h.2 c3
    refine lv_iconst (v := (-1)) hx hb dX12_keep_14 (by decide) ?_
    exact hret ((-1)) _ _ _ _ _ ⟨u1_t_isAwake, u1_t_state, t_isKept, rfl, h⟩ hP hD hS dX12_keep_15
