def wp_X9_isLetter (x0 : Int32) (post : Int32 → Prop) : Prop :=
  (((x0 : Int32) < 97 → post 0) ∧ (¬ (x0 : Int32) < 97 → (((122 : Int32) < x0 → post 0) ∧ (¬ (122 : Int32) < x0 → post 1))))
theorem hdX9_isLetter : yX9_isLetter.cls = RX9 ∧ yX9_isLetter.cls ≠ "java/lang/invoke/MethodHandle" ∧ yX9_isLetter.cls ≠ "java/lang/invoke/VarHandle" ∧ (parseMethodDescriptor yX9_isLetter.desc).map (fun d => d.parameters.length) = some 1 := by decide +kernel
abbrev rmX9_isLetter : Room := { frames := 1, cells := 0, slots := 0, locals := 100 }
set_option maxHeartbeats 4000000 in
set_option maxRecDepth 100000 in
theorem c_X9_isLetter (l : Launch) (D : va_G) (g : gE) (x0 : Int32) (post : Int32 → Prop) (h : wp_X9_isLetter x0 post) : Ci l D g yX9_isLetter wsX9_isLetter rmX9_isLetter [.int x0] [] (fun r W' => W' = [] ∧ post r) := by
  refine Cz.of (cc := cX9_isLetter) (maxL := 1) (by decide) rfl (Nat.le_of_ble_eq_true rfl) ?_
  intro p e s m below meth c A Q hx hb hml hts hown hA hP hD hS hG ls hl hret
  have hown : s.vm.findClass RX9 = some m.cls := hown
  have hl : lv_has ls 1 [(0, .int x0)] := hl
  unfold wp_X9_isLetter at h
  try dsimp only at h
  refine lv_iload_n hx hb dX9_isLetter_0 rfl (lv_at hl 0 rfl) ?_
  refine lv_bipush (v := 97) hx hb dX9_isLetter_1 (by decide) ?_
  refine lv_icmp_lt (tgt := 16) hx hb dX9_isLetter_3 (by decide) (fun c1 => ?_) (fun c1 => ?_)
  · have h := h.1 c1
    refine lv_iconst (v := 0) hx hb dX9_isLetter_16 (by decide) ?_
    exact hret 0 _ _ _ _ _ (Or.inl rfl) ⟨rfl, h⟩ hP hD hS dX9_isLetter_17
  · have h := h.2 c1
    refine lv_iload_n hx hb dX9_isLetter_6 rfl (lv_at hl 0 rfl) ?_
    refine lv_bipush (v := 122) hx hb dX9_isLetter_7 (by decide) ?_
    refine lv_icmp_gt (tgt := 16) hx hb dX9_isLetter_9 (by decide) (fun c2 => ?_) (fun c2 => ?_)
    · have h := h.1 c2
      refine lv_iconst (v := 0) hx hb dX9_isLetter_16 (by decide) ?_
      exact hret 0 _ _ _ _ _ (Or.inl rfl) ⟨rfl, h⟩ hP hD hS dX9_isLetter_17
    · have h := h.2 c2
      refine lv_iconst (v := 1) hx hb dX9_isLetter_12 (by decide) ?_
      refine lv_goto (tgt := 17) hx hb dX9_isLetter_13 (by decide) ?_
      exact hret 1 _ _ _ _ _ (Or.inr rfl) ⟨rfl, h⟩ hP hD hS dX9_isLetter_17

def wp_X11_isPlace (x0 : Int32) (post : Int32 → Prop) : Prop :=
  (((x0 : Int32) < 0 → post 0) ∧ (¬ (x0 : Int32) < 0 → (((25 : Int32) ≤ x0 → post 0) ∧ (¬ (25 : Int32) ≤ x0 → post 1))))
theorem hdX11_isPlace : yX11_isPlace.cls = RX11 ∧ yX11_isPlace.cls ≠ "java/lang/invoke/MethodHandle" ∧ yX11_isPlace.cls ≠ "java/lang/invoke/VarHandle" ∧ (parseMethodDescriptor yX11_isPlace.desc).map (fun d => d.parameters.length) = some 1 := by decide +kernel
abbrev rmX11_isPlace : Room := { frames := 1, cells := 0, slots := 0, locals := 100 }
set_option maxHeartbeats 4000000 in
set_option maxRecDepth 100000 in
theorem c_X11_isPlace (l : Launch) (D : va_G) (g : gE) (x0 : Int32) (post : Int32 → Prop) (h : wp_X11_isPlace x0 post) : Ci l D g yX11_isPlace wsX11_isPlace rmX11_isPlace [.int x0] [] (fun r W' => W' = [] ∧ post r) := by
  refine Cz.of (cc := cX11_isPlace) (maxL := 1) (by decide) rfl (Nat.le_of_ble_eq_true rfl) ?_
  intro p e s m below meth c A Q hx hb hml hts hown hA hP hD hS hG ls hl hret
  have hown : s.vm.findClass RX11 = some m.cls := hown
  have hl : lv_has ls 1 [(0, .int x0)] := hl
  unfold wp_X11_isPlace at h
  try dsimp only at h
  refine lv_iload_n hx hb dX11_isPlace_0 rfl (lv_at hl 0 rfl) ?_
  refine lv_if_lt (tgt := 14) hx hb dX11_isPlace_1 (by decide) (fun c1 => ?_) (fun c1 => ?_)
  · have h := h.1 c1
    refine lv_iconst (v := 0) hx hb dX11_isPlace_14 (by decide) ?_
    exact hret 0 _ _ _ _ _ (Or.inl rfl) ⟨rfl, h⟩ hP hD hS dX11_isPlace_15
  · have h := h.2 c1
    refine lv_iload_n hx hb dX11_isPlace_4 rfl (lv_at hl 0 rfl) ?_
    refine lv_bipush (v := 25) hx hb dX11_isPlace_5 (by decide) ?_
    refine lv_icmp_ge (tgt := 14) hx hb dX11_isPlace_7 (by decide) (fun c2 => ?_) (fun c2 => ?_)
    · have h := h.1 c2
      refine lv_iconst (v := 0) hx hb dX11_isPlace_14 (by decide) ?_
      exact hret 0 _ _ _ _ _ (Or.inl rfl) ⟨rfl, h⟩ hP hD hS dX11_isPlace_15
    · have h := h.2 c2
      refine lv_iconst (v := 1) hx hb dX11_isPlace_10 (by decide) ?_
      refine lv_goto (tgt := 15) hx hb dX11_isPlace_11 (by decide) ?_
      exact hret 1 _ _ _ _ _ (Or.inr rfl) ⟨rfl, h⟩ hP hD hS dX11_isPlace_15

def wp_X4_lengthOf (n_t_lengths : Nat) (t_size : Int32) (t_lengths : Nat → Int32) (x1 : Int32) (post : Int32 → Prop) : Prop :=
  (((x1 : Int32) < 0 → post 0) ∧ (¬ (x1 : Int32) < 0 → (((t_size : Int32) ≤ x1 → post 0) ∧ (¬ (t_size : Int32) ≤ x1 → (vp_in x1 n_t_lengths ∧ post (t_lengths x1.toNatClampNeg))))))
theorem hdX4_lengthOf : yX4_lengthOf.cls = RX4 ∧ yX4_lengthOf.cls ≠ "java/lang/invoke/MethodHandle" ∧ yX4_lengthOf.cls ≠ "java/lang/invoke/VarHandle" ∧ (parseMethodDescriptor yX4_lengthOf.desc).map (fun d => d.parameters.length) = some 1 := by decide +kernel
abbrev rmX4_lengthOf : Room := { frames := 1, cells := 0, slots := 0, locals := 100 }
set_option maxHeartbeats 4000000 in
set_option maxRecDepth 100000 in
theorem c_X4_lengthOf (l : Launch) (D : va_G) (g : gE) (a_t : Nat) (a_t_lengths : Nat) (o_t_most : Value) (o_t_width : Value) (o_t_letters : Value) (o_t_masks : Value) (n_t_lengths : Nat) (t_size : Int32) (t_lengths : Nat → Int32) (x1 : Int32) (post : Int32 → Prop) (h : wp_X4_lengthOf n_t_lengths t_size t_lengths x1 post) : Ci l D g yX4_lengthOf wsX4_lengthOf rmX4_lengthOf [.ref a_t, .int x1] [(a_t, .inr (4, [o_t_most, o_t_width, o_t_letters, .ref a_t_lengths, o_t_masks, .int t_size])), (a_t_lengths, .inl (g.1 1, n_t_lengths, .inl t_lengths))] (fun r W' => W' = [(a_t, .inr (4, [o_t_most, o_t_width, o_t_letters, .ref a_t_lengths, o_t_masks, .int t_size])), (a_t_lengths, .inl (g.1 1, n_t_lengths, .inl t_lengths))] ∧ post r) := by
  refine Ci.of (cc := cX4_lengthOf) (maxL := 2) (by decide) rfl (Nat.le_of_ble_eq_true rfl) ?_
  intro p e s m below meth c A Q hx hb hml hts hown hA hP hD hS hG ls hl hret
  have hown : s.vm.findClass RX4 = some m.cls := hown
  have hl : lv_has ls 2 [(0, .ref a_t), (1, .int x1)] := hl
  have hiX4 : ∀ w ∈ u_ws RX4 TX4 6, w ∈ wsX4_lengthOf := fun _ h => List.mem_cons_of_mem _ (List.mem_append_right _ h)
  have lk1 := hts (.fieldLink RX4 35 "KnockWall$Names" "size" "I") (List.mem_of_getElem? (i := 1) rfl)
  have lk2 := hts (.fieldLink RX4 20 "KnockWall$Names" "lengths" "[I") (List.mem_of_getElem? (i := 2) rfl)
  unfold wp_X4_lengthOf at h
  try dsimp only at h
  refine lv_iload_n hx hb dX4_lengthOf_0 rfl (lv_at hl 1 rfl) ?_
  refine lv_if_lt (tgt := 21) hx hb dX4_lengthOf_1 (by decide) (fun c1 => ?_) (fun c1 => ?_)
  · have h := h.1 c1
    refine lv_iconst (v := 0) hx hb dX4_lengthOf_21 (by decide) ?_
    exact hret 0 _ _ _ _ _ ⟨rfl, h⟩ hP hD hS dX4_lengthOf_22
  · have h := h.2 c1
    refine lv_iload_n hx hb dX4_lengthOf_4 rfl (lv_at hl 1 rfl) ?_
    refine lv_aload_n hx hb dX4_lengthOf_5 rfl (lv_at hl 0 rfl) ?_
    refine va_get (ci := 4) (v := .int t_size) (C := RX4) (T := TX4) (N := 6) hx hb hts hiX4 hown hG.k hP 0 rfl rfl 5 (by decide) lk1 (fun _ h9 => h9) rfl dX4_lengthOf_6 ?_
    refine lv_icmp_ge (tgt := 21) hx hb dX4_lengthOf_9 (by decide) (fun c2 => ?_) (fun c2 => ?_)
    · have h := h.1 c2
      refine lv_iconst (v := 0) hx hb dX4_lengthOf_21 (by decide) ?_
      exact hret 0 _ _ _ _ _ ⟨rfl, h⟩ hP hD hS dX4_lengthOf_22
    · have h := h.2 c2
      refine lv_aload_n hx hb dX4_lengthOf_12 rfl (lv_at hl 0 rfl) ?_
      refine va_get (ci := 4) (v := .ref a_t_lengths) (C := RX4) (T := TX4) (N := 6) hx hb hts hiX4 hown hG.k hP 0 rfl rfl 3 (by decide) lk2 (fun _ h9 => h9) rfl dX4_lengthOf_13 ?_
      refine lv_iload_n hx hb dX4_lengthOf_16 rfl (lv_at hl 1 rfl) ?_
      obtain ⟨hv3, h⟩ := h
      refine va_iald hx hb hG.k hP 1 1 rfl rfl hv3 dX4_lengthOf_17 ?_
      refine lv_goto (tgt := 22) hx hb dX4_lengthOf_18 (by decide) ?_
      exact hret (t_lengths x1.toNatClampNeg) _ _ _ _ _ ⟨rfl, h⟩ hP hD hS dX4_lengthOf_22

def wp_X4_letterAt (n_t_lengths : Nat) (n_t_letters : Nat) (t_width : Int32) (t_size : Int32) (t_lengths : Nat → Int32) (t_letters : Nat → Int32) (x1 : Int32) (x2 : Int32) (post : Int32 → Prop) : Prop :=
  (((x2 : Int32) < 0 → post 0) ∧ (¬ (x2 : Int32) < 0 → (wp_X4_lengthOf n_t_lengths t_size t_lengths x1 (fun r2 => (((r2 : Int32) ≤ x2 → post 0) ∧ (¬ (r2 : Int32) ≤ x2 → (vp_in ((x1 * t_width) + x2) n_t_letters ∧ post (t_letters ((x1 * t_width) + x2).toNatClampNeg))))))))
theorem hdX4_letterAt : yX4_letterAt.cls = RX4 ∧ yX4_letterAt.cls ≠ "java/lang/invoke/MethodHandle" ∧ yX4_letterAt.cls ≠ "java/lang/invoke/VarHandle" ∧ (parseMethodDescriptor yX4_letterAt.desc).map (fun d => d.parameters.length) = some 2 := by decide +kernel
abbrev rmX4_letterAt : Room := { frames := 2, cells := 0, slots := 0, locals := 200 }
set_option maxHeartbeats 4000000 in
set_option maxRecDepth 100000 in
theorem c_X4_letterAt (l : Launch) (D : va_G) (g : gE) (a_t : Nat) (a_t_lengths : Nat) (a_t_letters : Nat) (o_t_most : Value) (o_t_masks : Value) (n_t_lengths : Nat) (n_t_letters : Nat) (t_width : Int32) (t_size : Int32) (t_lengths : Nat → Int32) (t_letters : Nat → Int32) (x1 : Int32) (x2 : Int32) (post : Int32 → Prop) (h : wp_X4_letterAt n_t_lengths n_t_letters t_width t_size t_lengths t_letters x1 x2 post) : Ci l D g yX4_letterAt wsX4_letterAt rmX4_letterAt [.ref a_t, .int x1, .int x2] [(a_t, .inr (4, [o_t_most, .int t_width, .ref a_t_letters, .ref a_t_lengths, o_t_masks, .int t_size])), (a_t_lengths, .inl (g.1 1, n_t_lengths, .inl t_lengths)), (a_t_letters, .inl (g.1 0, n_t_letters, .inl t_letters))] (fun r W' => W' = [(a_t, .inr (4, [o_t_most, .int t_width, .ref a_t_letters, .ref a_t_lengths, o_t_masks, .int t_size])), (a_t_lengths, .inl (g.1 1, n_t_lengths, .inl t_lengths)), (a_t_letters, .inl (g.1 0, n_t_letters, .inl t_letters))] ∧ post r) := by
  refine Ci.of (cc := cX4_letterAt) (maxL := 3) (by decide) rfl (Nat.le_of_ble_eq_true rfl) ?_
  intro p e s m below meth c A Q hx hb hml hts hown hA hP hD hS hG ls hl hret
  have hown : s.vm.findClass RX4 = some m.cls := hown
  have hl : lv_has ls 3 [(0, .ref a_t), (1, .int x1), (2, .int x2)] := hl
  have hiX4 : ∀ w ∈ u_ws RX4 TX4 6, w ∈ wsX4_letterAt := fun _ h => List.mem_cons_of_mem _ (List.mem_append_right _ h)
  have lk1 := hts (.fieldLink RX4 16 "KnockWall$Names" "letters" "[B") (List.mem_of_getElem? (i := 1) rfl)
  have lk2 := hts (.fieldLink RX4 13 "KnockWall$Names" "width" "I") (List.mem_of_getElem? (i := 2) rfl)
  unfold wp_X4_letterAt at h
  try dsimp only at h
  refine lv_iload_n hx hb dX4_letterAt_0 rfl (lv_at hl 2 rfl) ?_
  refine lv_if_lt (tgt := 29) hx hb dX4_letterAt_1 (by decide) (fun c1 => ?_) (fun c1 => ?_)
  · have h := h.1 c1
    refine lv_iconst (v := 0) hx hb dX4_letterAt_29 (by decide) ?_
    exact hret 0 _ _ _ _ _ ⟨rfl, h⟩ hP hD hS dX4_letterAt_30
  · have h := h.2 c1
    refine lv_iload_n hx hb dX4_letterAt_4 rfl (lv_at hl 2 rfl) ?_
    refine lv_aload_n hx hb dX4_letterAt_5 rfl (lv_at hl 0 rfl) ?_
    refine lv_iload_n hx hb dX4_letterAt_6 rfl (lv_at hl 1 rfl) ?_
    refine k_i (wr := [(a_t_letters, .inl (g.1 0, n_t_letters, .inl t_letters))]) hA hP hD hS [0, 1] [2] rfl rfl (by decide) (by decide) (va_runV (As := [.int x1]) (rest := [.int x2]) ⟨hx, hb, hml, hown, hts⟩ (c_X4_lengthOf l D g a_t a_t_lengths (o_t_most) (.int t_width) (.ref a_t_letters) (o_t_masks) n_t_lengths t_size t_lengths x1 _ h H.size) (cwV 1 hts gX4_letterAt_X4_lengthOf rfl rfl rfl hdX4_lengthOf ⟨Nat.le_of_ble_eq_true rfl, Nat.le_of_ble_eq_true rfl⟩) (k_preV (q0 := 0) hG hA hP hD hS [0, 1] rfl (by decide) rfl rfl) rfl rfl hl.1 rfl (lv_room (Nat.le_of_ble_eq_true rfl)) dX4_letterAt_7 ⟨Nat.zero_le _, Nat.zero_le _⟩) (fun r2 W' H locs h hP hD hS => ?_)
    obtain ⟨rfl, h⟩ := h
    have hP : va_P D vwCl [(a_t, .inr (4, [o_t_most, .int t_width, .ref a_t_letters, .ref a_t_lengths, o_t_masks, .int t_size])), (a_t_lengths, .inl (g.1 1, n_t_lengths, .inl t_lengths)), (a_t_letters, .inl (g.1 0, n_t_letters, .inl t_letters))] H := hP.sub [1, 2, 0] rfl
    have hD : va_D A [(a_t, .inr (4, [o_t_most, .int t_width, .ref a_t_letters, .ref a_t_lengths, o_t_masks, .int t_size])), (a_t_lengths, .inl (g.1 1, n_t_lengths, .inl t_lengths)), (a_t_letters, .inl (g.1 0, n_t_letters, .inl t_letters))] := hD.sub [1, 2, 0] (by decide) rfl
    refine lv_icmp_ge (tgt := 29) hx hb dX4_letterAt_10 (by decide) (fun c3 => ?_) (fun c3 => ?_)
    · have h := h.1 c3
      refine lv_iconst (v := 0) hx hb dX4_letterAt_29 (by decide) ?_
      exact hret 0 _ _ _ _ _ ⟨rfl, h⟩ hP hD hS dX4_letterAt_30
    · have h := h.2 c3
      refine lv_aload_n hx hb dX4_letterAt_13 rfl (lv_at hl 0 rfl) ?_
      refine va_get (ci := 4) (v := .ref a_t_letters) (C := RX4) (T := TX4) (N := 6) hx hb hts hiX4 hown hG.k hP 0 rfl rfl 2 (by decide) lk1 (fun _ h9 => h9) rfl dX4_letterAt_14 ?_
      refine lv_iload_n hx hb dX4_letterAt_17 rfl (lv_at hl 1 rfl) ?_
      refine lv_aload_n hx hb dX4_letterAt_18 rfl (lv_at hl 0 rfl) ?_
      refine va_get (ci := 4) (v := .int t_width) (C := RX4) (T := TX4) (N := 6) hx hb hts hiX4 hown hG.k hP 0 rfl rfl 1 (by decide) lk2 (fun _ h9 => h9) rfl dX4_letterAt_19 ?_
      refine lv_imul hx hb dX4_letterAt_22 ?_
      refine lv_iload_n hx hb dX4_letterAt_23 rfl (lv_at hl 2 rfl) ?_
      refine lv_iadd hx hb dX4_letterAt_24 ?_
      obtain ⟨hv4, h⟩ := h
      refine va_bald hx hb hG.k hP 2 0 rfl rfl hv4 dX4_letterAt_25 ?_
      refine lv_goto (tgt := 30) hx hb dX4_letterAt_26 (by decide) ?_
      exact hret (t_letters ((x1 * t_width) + x2).toNatClampNeg) _ _ _ _ _ ⟨rfl, h⟩ hP hD hS dX4_letterAt_30

def B_X9_nextNumber_85 (t_from : Int32) (t_at : Int32) (t_value : Int32) (post : Int32 → Int32 → Int32 → Prop) : Prop :=
  (((t_at : Int32) ≤ t_from → post t_at 0 t_value) ∧ (¬ (t_at : Int32) ≤ t_from → (((3 : Int32) < (t_at - t_from) → post t_at 0 t_value) ∧ (¬ (3 : Int32) < (t_at - t_from) → post t_at 3 t_value))))
def F_X9_nextNumber_5 (t_size : Int32) (t_from : Int32) (t_bytes : Nat → Int32) (post : Int32 → Int32 → Int32 → Prop) (K_5 : (Int32 × Int32) → Prop) (v : Int32 × Int32) : Prop :=
  (fun (t_at : Int32) (t_value : Int32) => (((t_size : Int32) ≤ t_at → (B_X9_nextNumber_85 t_from t_at t_value post)) ∧ (¬ (t_size : Int32) ≤ t_at → (vp_in t_at 320 ∧ (((t_bytes t_at.toNatClampNeg : Int32) < 48 → (B_X9_nextNumber_85 t_from t_at t_value post)) ∧ (¬ (t_bytes t_at.toNatClampNeg : Int32) < 48 → (vp_in t_at 320 ∧ (((57 : Int32) < (t_bytes t_at.toNatClampNeg) → (B_X9_nextNumber_85 t_from t_at t_value post)) ∧ (¬ (57 : Int32) < (t_bytes t_at.toNatClampNeg) → (vp_in t_at 320 ∧ K_5 (t_at + 1, (((10 * t_value) + (t_bytes t_at.toNatClampNeg)) - 48) - (((10 * t_value) + (t_bytes t_at.toNatClampNeg)) - 48) / 1000 * 1000))))))))))) v.1 v.2
def wp_X9_nextNumber (t_size : Int32) (t_at : Int32) (t_token : Int32) (t_from : Int32) (t_value : Int32) (t_bytes : Nat → Int32) (post : Int32 → Int32 → Int32 → Prop) : Prop :=
  (∃ n, fixN (F_X9_nextNumber_5 t_size t_from t_bytes post) n (t_at, 0))
theorem hdX9_nextNumber : yX9_nextNumber.cls = RX9 ∧ yX9_nextNumber.cls ≠ "java/lang/invoke/MethodHandle" ∧ yX9_nextNumber.cls ≠ "java/lang/invoke/VarHandle" ∧ (parseMethodDescriptor yX9_nextNumber.desc).map (fun d => d.parameters.length) = some 0 := by decide +kernel
abbrev rmX9_nextNumber : Room := { frames := 1, cells := 0, slots := 0, locals := 100 }
set_option maxHeartbeats 4000000 in
set_option maxRecDepth 100000 in
theorem c_X9_nextNumber (l : Launch) (D : va_G) (g : gE) (a_t : Nat) (a_t_bytes : Nat) (t_size : Int32) (t_at : Int32) (t_token : Int32) (t_from : Int32) (t_value : Int32) (t_bytes : Nat → Int32) (post : Int32 → Int32 → Int32 → Prop) (h : wp_X9_nextNumber t_size t_at t_token t_from t_value t_bytes post) : Cv l D g yX9_nextNumber wsX9_nextNumber rmX9_nextNumber [.ref a_t] [(a_t, .inr (9, [.ref a_t_bytes, .int t_size, .int t_at, .int t_token, .int t_from, .int t_value])), (a_t_bytes, .inl (g.1 0, 320, .inl t_bytes))] (fun W' => ∃ (w_t_at : Int32) (w_t_token : Int32) (w_t_value : Int32), W' = [(a_t, .inr (9, [.ref a_t_bytes, .int t_size, .int w_t_at, .int w_t_token, .int t_from, .int w_t_value])), (a_t_bytes, .inl (g.1 0, 320, .inl t_bytes))] ∧ post w_t_at w_t_token w_t_value) := by
  refine Cv.of (cc := cX9_nextNumber) (maxL := 1) (by decide) rfl (Nat.le_of_ble_eq_true rfl) ?_
  intro p e s m below meth c A Q hx hb hml hts hown hA hP hD hS hG ls hl hret
  have hown : s.vm.findClass RX9 = some m.cls := hown
  have hl : lv_has ls 1 [(0, .ref a_t)] := hl
  have hiX9 : ∀ w ∈ u_ws RX9 TX9 6, w ∈ wsX9_nextNumber := fun _ h => List.mem_cons_of_mem _ (List.mem_append_right _ h)
  have lk1 := hts (.fieldLink RX9 35 "KnockWall$Tape" "value" "I") (List.mem_of_getElem? (i := 1) rfl)
  have lk2 := hts (.fieldLink RX9 19 "KnockWall$Tape" "at" "I") (List.mem_of_getElem? (i := 2) rfl)
  have lk3 := hts (.fieldLink RX9 15 "KnockWall$Tape" "size" "I") (List.mem_of_getElem? (i := 3) rfl)
  have lk4 := hts (.fieldLink RX9 22 "KnockWall$Tape" "from" "I") (List.mem_of_getElem? (i := 5) rfl)
  have lk5 := hts (.fieldLink RX9 25 "KnockWall$Tape" "token" "I") (List.mem_of_getElem? (i := 6) rfl)
  have lk6 := hts (.fieldLink RX9 9 "KnockWall$Tape" "bytes" "[B") (List.mem_of_getElem? (i := 4) rfl)
  have L85 : ∀ (t_at : Int32) (t_token : Int32) (t_value : Int32), B_X9_nextNumber_85 t_from t_at t_value post → ∀ (H : Heap) (locs : List Loc), va_P D vwCl [(a_t, .inr (9, [.ref a_t_bytes, .int t_size, .int t_at, .int t_token, .int t_from, .int t_value])), (a_t_bytes, .inl (g.1 0, 320, .inl t_bytes))] H → va_D A [(a_t, .inr (9, [.ref a_t_bytes, .int t_size, .int t_at, .int t_token, .int t_from, .int t_value])), (a_t_bytes, .inl (g.1 0, 320, .inl t_bytes))] → va_S A s.heap H locs → ∀ (ls : Array Slot), lv_has ls 1 [(0, .ref a_t)] → W p l e rmX9_nextNumber s m _ below meth c H locs 0 0 Q (F0 m 85 ls []) := by
    intro t_at t_token t_value
    intro h H locs hP hD hS ls hl
    unfold B_X9_nextNumber_85 at h
    try dsimp only at h
    refine lv_aload_n hx hb dX9_nextNumber_85 rfl (lv_at hl 0 rfl) ?_
    refine lv_aload_n hx hb dX9_nextNumber_86 rfl (lv_at hl 0 rfl) ?_
    refine va_get (ci := 9) (v := .int t_at) (C := RX9) (T := TX9) (N := 6) hx hb hts hiX9 hown hG.k hP 0 rfl rfl 2 (by decide) lk2 (fun _ h9 => h9) rfl dX9_nextNumber_87 ?_
    refine lv_aload_n hx hb dX9_nextNumber_90 rfl (lv_at hl 0 rfl) ?_
    refine va_get (ci := 9) (v := .int t_from) (C := RX9) (T := TX9) (N := 6) hx hb hts hiX9 hown hG.k hP 0 rfl rfl 4 (by decide) lk4 (fun _ h9 => h9) rfl dX9_nextNumber_91 ?_
    refine lv_icmp_le (tgt := 114) hx hb dX9_nextNumber_94 (by decide) (fun c2 => ?_) (fun c2 => ?_)
    · have h := h.1 c2
      refine lv_iconst (v := 0) hx hb dX9_nextNumber_114 (by decide) ?_
      refine va_put (ci := 9) (v := .int 0) (C := RX9) (T := TX9) (N := 6) hx hb hts hiX9 tyX9 tyX9_ok nmX9 hown hG.k hP hD hS 0 rfl rfl 3 (by decide) lk5 (fun _ h9 => h9) rfl (tyX9_ok 3 (by decide)) rfl rfl (Nat.le_of_ble_eq_true rfl) dX9_nextNumber_115 (fun H locs hP hD hS => ?_)
      have hP : va_P D vwCl [(a_t, .inr (9, [.ref a_t_bytes, .int t_size, .int t_at, .int 0, .int t_from, .int t_value])), (a_t_bytes, .inl (g.1 0, 320, .inl t_bytes))] H := hP
      have hD : va_D A [(a_t, .inr (9, [.ref a_t_bytes, .int t_size, .int t_at, .int 0, .int t_from, .int t_value])), (a_t_bytes, .inl (g.1 0, 320, .inl t_bytes))] := hD
      exact hret _ _ _ _ _ ⟨t_at, 0, t_value, rfl, h⟩ hP hD hS dX9_nextNumber_118
    · have h := h.2 c2
      refine lv_aload_n hx hb dX9_nextNumber_97 rfl (lv_at hl 0 rfl) ?_
      refine va_get (ci := 9) (v := .int t_at) (C := RX9) (T := TX9) (N := 6) hx hb hts hiX9 hown hG.k hP 0 rfl rfl 2 (by decide) lk2 (fun _ h9 => h9) rfl dX9_nextNumber_98 ?_
      refine lv_aload_n hx hb dX9_nextNumber_101 rfl (lv_at hl 0 rfl) ?_
      refine va_get (ci := 9) (v := .int t_from) (C := RX9) (T := TX9) (N := 6) hx hb hts hiX9 hown hG.k hP 0 rfl rfl 4 (by decide) lk4 (fun _ h9 => h9) rfl dX9_nextNumber_102 ?_
      refine lv_isub hx hb dX9_nextNumber_105 ?_
      refine lv_iconst (v := 3) hx hb dX9_nextNumber_106 (by decide) ?_
      refine lv_icmp_gt (tgt := 114) hx hb dX9_nextNumber_107 (by decide) (fun c3 => ?_) (fun c3 => ?_)
      · have h := h.1 c3
        refine lv_iconst (v := 0) hx hb dX9_nextNumber_114 (by decide) ?_
        refine va_put (ci := 9) (v := .int 0) (C := RX9) (T := TX9) (N := 6) hx hb hts hiX9 tyX9 tyX9_ok nmX9 hown hG.k hP hD hS 0 rfl rfl 3 (by decide) lk5 (fun _ h9 => h9) rfl (tyX9_ok 3 (by decide)) rfl rfl (Nat.le_of_ble_eq_true rfl) dX9_nextNumber_115 (fun H locs hP hD hS => ?_)
        have hP : va_P D vwCl [(a_t, .inr (9, [.ref a_t_bytes, .int t_size, .int t_at, .int 0, .int t_from, .int t_value])), (a_t_bytes, .inl (g.1 0, 320, .inl t_bytes))] H := hP
        have hD : va_D A [(a_t, .inr (9, [.ref a_t_bytes, .int t_size, .int t_at, .int 0, .int t_from, .int t_value])), (a_t_bytes, .inl (g.1 0, 320, .inl t_bytes))] := hD
        exact hret _ _ _ _ _ ⟨t_at, 0, t_value, rfl, h⟩ hP hD hS dX9_nextNumber_118
      · have h := h.2 c3
        refine lv_iconst (v := 3) hx hb dX9_nextNumber_110 (by decide) ?_
        refine lv_goto (tgt := 115) hx hb dX9_nextNumber_111 (by decide) ?_
        refine va_put (ci := 9) (v := .int 3) (C := RX9) (T := TX9) (N := 6) hx hb hts hiX9 tyX9 tyX9_ok nmX9 hown hG.k hP hD hS 0 rfl rfl 3 (by decide) lk5 (fun _ h9 => h9) rfl (tyX9_ok 3 (by decide)) rfl rfl (Nat.le_of_ble_eq_true rfl) dX9_nextNumber_115 (fun H locs hP hD hS => ?_)
        have hP : va_P D vwCl [(a_t, .inr (9, [.ref a_t_bytes, .int t_size, .int t_at, .int 3, .int t_from, .int t_value])), (a_t_bytes, .inl (g.1 0, 320, .inl t_bytes))] H := hP
        have hD : va_D A [(a_t, .inr (9, [.ref a_t_bytes, .int t_size, .int t_at, .int 3, .int t_from, .int t_value])), (a_t_bytes, .inl (g.1 0, 320, .inl t_bytes))] := hD
        exact hret _ _ _ _ _ ⟨t_at, 3, t_value, rfl, h⟩ hP hD hS dX9_nextNumber_118
  have L5 : ∀ (t_token : Int32), ∀ (n : Nat) (t_at : Int32) (t_value : Int32), fixN (F_X9_nextNumber_5 t_size t_from t_bytes post) n (t_at, t_value) → ∀ (H : Heap) (locs : List Loc), va_P D vwCl [(a_t, .inr (9, [.ref a_t_bytes, .int t_size, .int t_at, .int t_token, .int t_from, .int t_value])), (a_t_bytes, .inl (g.1 0, 320, .inl t_bytes))] H → va_D A [(a_t, .inr (9, [.ref a_t_bytes, .int t_size, .int t_at, .int t_token, .int t_from, .int t_value])), (a_t_bytes, .inl (g.1 0, 320, .inl t_bytes))] → va_S A s.heap H locs → ∀ (ls : Array Slot), lv_has ls 1 [(0, .ref a_t)] → W p l e rmX9_nextNumber s m _ below meth c H locs 0 0 Q (F0 m 5 ls []) := by
    intro t_token
    intro n
    induction n with
    | zero => intro t_at t_value h; exact h.elim
    | succ n ih =>
      intro t_at t_value h H locs hP hD hS ls hl
      have h : F_X9_nextNumber_5 t_size t_from t_bytes post (fixN (F_X9_nextNumber_5 t_size t_from t_bytes post) n) (t_at, t_value) := h
      unfold F_X9_nextNumber_5 at h
      try dsimp only at h
      refine lv_aload_n hx hb dX9_nextNumber_5 rfl (lv_at hl 0 rfl) ?_
      refine va_get (ci := 9) (v := .int t_at) (C := RX9) (T := TX9) (N := 6) hx hb hts hiX9 hown hG.k hP 0 rfl rfl 2 (by decide) lk2 (fun _ h9 => h9) rfl dX9_nextNumber_6 ?_
      refine lv_aload_n hx hb dX9_nextNumber_9 rfl (lv_at hl 0 rfl) ?_
      refine va_get (ci := 9) (v := .int t_size) (C := RX9) (T := TX9) (N := 6) hx hb hts hiX9 hown hG.k hP 0 rfl rfl 1 (by decide) lk3 (fun _ h9 => h9) rfl dX9_nextNumber_10 ?_
      refine lv_icmp_ge (tgt := 85) hx hb dX9_nextNumber_13 (by decide) (fun c1 => ?_) (fun c1 => ?_)
      · have h := h.1 c1
        exact L85 t_at t_token t_value h _ _ hP hD hS _ (lv_sub hl [0] rfl)
      · have h := h.2 c1
        refine lv_aload_n hx hb dX9_nextNumber_16 rfl (lv_at hl 0 rfl) ?_
        refine va_get (ci := 9) (v := .ref a_t_bytes) (C := RX9) (T := TX9) (N := 6) hx hb hts hiX9 hown hG.k hP 0 rfl rfl 0 (by decide) lk6 (fun _ h9 => h9) rfl dX9_nextNumber_17 ?_
        refine lv_aload_n hx hb dX9_nextNumber_20 rfl (lv_at hl 0 rfl) ?_
        refine va_get (ci := 9) (v := .int t_at) (C := RX9) (T := TX9) (N := 6) hx hb hts hiX9 hown hG.k hP 0 rfl rfl 2 (by decide) lk2 (fun _ h9 => h9) rfl dX9_nextNumber_21 ?_
        obtain ⟨hv4, h⟩ := h
        refine va_bald hx hb hG.k hP 1 0 rfl rfl hv4 dX9_nextNumber_24 ?_
        refine lv_bipush (v := 48) hx hb dX9_nextNumber_25 (by decide) ?_
        refine lv_icmp_lt (tgt := 85) hx hb dX9_nextNumber_27 (by decide) (fun c5 => ?_) (fun c5 => ?_)
        · have h := h.1 c5
          exact L85 t_at t_token t_value h _ _ hP hD hS _ (lv_sub hl [0] rfl)
        · have h := h.2 c5
          refine lv_aload_n hx hb dX9_nextNumber_30 rfl (lv_at hl 0 rfl) ?_
          refine va_get (ci := 9) (v := .ref a_t_bytes) (C := RX9) (T := TX9) (N := 6) hx hb hts hiX9 hown hG.k hP 0 rfl rfl 0 (by decide) lk6 (fun _ h9 => h9) rfl dX9_nextNumber_31 ?_
          refine lv_aload_n hx hb dX9_nextNumber_34 rfl (lv_at hl 0 rfl) ?_
          refine va_get (ci := 9) (v := .int t_at) (C := RX9) (T := TX9) (N := 6) hx hb hts hiX9 hown hG.k hP 0 rfl rfl 2 (by decide) lk2 (fun _ h9 => h9) rfl dX9_nextNumber_35 ?_
          obtain ⟨hv6, h⟩ := h
          refine va_bald hx hb hG.k hP 1 0 rfl rfl hv6 dX9_nextNumber_38 ?_
          refine lv_bipush (v := 57) hx hb dX9_nextNumber_39 (by decide) ?_
          refine lv_icmp_gt (tgt := 85) hx hb dX9_nextNumber_41 (by decide) (fun c7 => ?_) (fun c7 => ?_)
          · have h := h.1 c7
            exact L85 t_at t_token t_value h _ _ hP hD hS _ (lv_sub hl [0] rfl)
          · have h := h.2 c7
            refine lv_aload_n hx hb dX9_nextNumber_44 rfl (lv_at hl 0 rfl) ?_
            refine lv_bipush (v := 10) hx hb dX9_nextNumber_45 (by decide) ?_
            refine lv_aload_n hx hb dX9_nextNumber_47 rfl (lv_at hl 0 rfl) ?_
            refine va_get (ci := 9) (v := .int t_value) (C := RX9) (T := TX9) (N := 6) hx hb hts hiX9 hown hG.k hP 0 rfl rfl 5 (by decide) lk1 (fun _ h9 => h9) rfl dX9_nextNumber_48 ?_
            refine lv_imul hx hb dX9_nextNumber_51 ?_
            refine lv_aload_n hx hb dX9_nextNumber_52 rfl (lv_at hl 0 rfl) ?_
            refine va_get (ci := 9) (v := .ref a_t_bytes) (C := RX9) (T := TX9) (N := 6) hx hb hts hiX9 hown hG.k hP 0 rfl rfl 0 (by decide) lk6 (fun _ h9 => h9) rfl dX9_nextNumber_53 ?_
            refine lv_aload_n hx hb dX9_nextNumber_56 rfl (lv_at hl 0 rfl) ?_
            refine va_get (ci := 9) (v := .int t_at) (C := RX9) (T := TX9) (N := 6) hx hb hts hiX9 hown hG.k hP 0 rfl rfl 2 (by decide) lk2 (fun _ h9 => h9) rfl dX9_nextNumber_57 ?_
            obtain ⟨hv8, h⟩ := h
            refine va_bald hx hb hG.k hP 1 0 rfl rfl hv8 dX9_nextNumber_60 ?_
            refine lv_iadd hx hb dX9_nextNumber_61 ?_
            refine lv_bipush (v := 48) hx hb dX9_nextNumber_62 (by decide) ?_
            refine lv_isub hx hb dX9_nextNumber_64 ?_
            refine lv_sipush (v := 1000) hx hb dX9_nextNumber_65 (by decide) ?_
            refine lv_irem hx hb dX9_nextNumber_68 (by decide) ?_
            refine va_put (ci := 9) (v := .int ((((10 * t_value) + (t_bytes t_at.toNatClampNeg)) - 48) - (((10 * t_value) + (t_bytes t_at.toNatClampNeg)) - 48) / 1000 * 1000)) (C := RX9) (T := TX9) (N := 6) hx hb hts hiX9 tyX9 tyX9_ok nmX9 hown hG.k hP hD hS 0 rfl rfl 5 (by decide) lk1 (fun _ h9 => h9) rfl (tyX9_ok 5 (by decide)) rfl rfl (Nat.le_of_ble_eq_true rfl) dX9_nextNumber_69 (fun H locs hP hD hS => ?_)
            have hP : va_P D vwCl [(a_t, .inr (9, [.ref a_t_bytes, .int t_size, .int t_at, .int t_token, .int t_from, .int ((((10 * t_value) + (t_bytes t_at.toNatClampNeg)) - 48) - (((10 * t_value) + (t_bytes t_at.toNatClampNeg)) - 48) / 1000 * 1000)])), (a_t_bytes, .inl (g.1 0, 320, .inl t_bytes))] H := hP
            have hD : va_D A [(a_t, .inr (9, [.ref a_t_bytes, .int t_size, .int t_at, .int t_token, .int t_from, .int ((((10 * t_value) + (t_bytes t_at.toNatClampNeg)) - 48) - (((10 * t_value) + (t_bytes t_at.toNatClampNeg)) - 48) / 1000 * 1000)])), (a_t_bytes, .inl (g.1 0, 320, .inl t_bytes))] := hD
            refine lv_aload_n hx hb dX9_nextNumber_72 rfl (lv_at hl 0 rfl) ?_
            refine lv_dup hx hb dX9_nextNumber_73 rfl ?_
            refine va_get (ci := 9) (v := .int t_at) (C := RX9) (T := TX9) (N := 6) hx hb hts hiX9 hown hG.k hP 0 rfl rfl 2 (by decide) lk2 (fun _ h9 => h9) rfl dX9_nextNumber_74 ?_
            refine lv_iconst (v := 1) hx hb dX9_nextNumber_77 (by decide) ?_
            refine lv_iadd hx hb dX9_nextNumber_78 ?_
            refine va_put (ci := 9) (v := .int (t_at + 1)) (C := RX9) (T := TX9) (N := 6) hx hb hts hiX9 tyX9 tyX9_ok nmX9 hown hG.k hP hD hS 0 rfl rfl 2 (by decide) lk2 (fun _ h9 => h9) rfl (tyX9_ok 2 (by decide)) rfl rfl (Nat.le_of_ble_eq_true rfl) dX9_nextNumber_79 (fun H locs hP hD hS => ?_)
            have hP : va_P D vwCl [(a_t, .inr (9, [.ref a_t_bytes, .int t_size, .int (t_at + 1), .int t_token, .int t_from, .int ((((10 * t_value) + (t_bytes t_at.toNatClampNeg)) - 48) - (((10 * t_value) + (t_bytes t_at.toNatClampNeg)) - 48) / 1000 * 1000)])), (a_t_bytes, .inl (g.1 0, 320, .inl t_bytes))] H := hP
            have hD : va_D A [(a_t, .inr (9, [.ref a_t_bytes, .int t_size, .int (t_at + 1), .int t_token, .int t_from, .int ((((10 * t_value) + (t_bytes t_at.toNatClampNeg)) - 48) - (((10 * t_value) + (t_bytes t_at.toNatClampNeg)) - 48) / 1000 * 1000)])), (a_t_bytes, .inl (g.1 0, 320, .inl t_bytes))] := hD
            refine lv_goto (tgt := 5) hx hb dX9_nextNumber_82 (by decide) ?_
            exact ih (t_at + 1) ((((10 * t_value) + (t_bytes t_at.toNatClampNeg)) - 48) - (((10 * t_value) + (t_bytes t_at.toNatClampNeg)) - 48) / 1000 * 1000) h _ _ hP hD hS _ (lv_sub hl [0] rfl)
  unfold wp_X9_nextNumber at h
  try dsimp only at h
  refine lv_aload_n hx hb dX9_nextNumber_0 rfl (lv_at hl 0 rfl) ?_
  refine lv_iconst (v := 0) hx hb dX9_nextNumber_1 (by decide) ?_
  refine va_put (ci := 9) (v := .int 0) (C := RX9) (T := TX9) (N := 6) hx hb hts hiX9 tyX9 tyX9_ok nmX9 hown hG.k hP hD hS 0 rfl rfl 5 (by decide) lk1 (fun _ h9 => h9) rfl (tyX9_ok 5 (by decide)) rfl rfl (Nat.le_of_ble_eq_true rfl) dX9_nextNumber_2 (fun H locs hP hD hS => ?_)
  have hP : va_P D vwCl [(a_t, .inr (9, [.ref a_t_bytes, .int t_size, .int t_at, .int t_token, .int t_from, .int 0])), (a_t_bytes, .inl (g.1 0, 320, .inl t_bytes))] H := hP
  have hD : va_D A [(a_t, .inr (9, [.ref a_t_bytes, .int t_size, .int t_at, .int t_token, .int t_from, .int 0])), (a_t_bytes, .inl (g.1 0, 320, .inl t_bytes))] := hD
  obtain ⟨n9, h⟩ := h
  exact L5 t_token n9 t_at 0 h _ _ hP hD hS _ (lv_sub hl [0] rfl)

def F_X9_nextToken_117 (t_size : Int32) (t_bytes : Nat → Int32) (t_token : Int32) (t_from : Int32) (t_value : Int32) (post : Int32 → Int32 → Int32 → Int32 → Prop) (K_117 : Int32 → Prop) (v : Int32) : Prop :=
  (fun (t_at : Int32) => (((t_size : Int32) ≤ t_at → post t_at t_token t_from t_value) ∧ (¬ (t_size : Int32) ≤ t_at → (vp_in t_at 320 ∧ (wp_X9_isLetter (t_bytes t_at.toNatClampNeg) (fun r11 => (((r11 : Int32) = 0 → post t_at t_token t_from t_value) ∧ (¬ (r11 : Int32) = 0 → K_117 (t_at + 1))))))))) v
def B_X9_nextToken_38 (t_size : Int32) (t_bytes : Nat → Int32) (t_at : Int32) (t_token : Int32) (t_value : Int32) (post : Int32 → Int32 → Int32 → Int32 → Prop) : Prop :=
  (((t_at : Int32) < t_size → (vp_in t_at 320 ∧ ((¬ (t_bytes t_at.toNatClampNeg : Int32) = 59 → (vp_in t_at 320 ∧ (wp_X9_isLetter (t_bytes t_at.toNatClampNeg) (fun r6 => (((r6 : Int32) = 0 → (wp_X9_nextNumber t_size t_at t_token t_at t_value t_bytes (fun u8_t_at u8_t_token u8_t_value => post u8_t_at u8_t_token t_at u8_t_value))) ∧ (¬ (r6 : Int32) = 0 → (∃ n, fixN (F_X9_nextToken_117 t_size t_bytes 2 t_at t_value post) n t_at))))))) ∧ ((t_bytes t_at.toNatClampNeg : Int32) = 59 → post (t_at + 1) 4 t_at t_value)))) ∧ (¬ (t_at : Int32) < t_size → post t_at 1 t_at t_value))
def F_X9_nextToken_0 (t_size : Int32) (t_bytes : Nat → Int32) (t_token : Int32) (t_value : Int32) (post : Int32 → Int32 → Int32 → Int32 → Prop) (K_0 : Int32 → Prop) (v : Int32) : Prop :=
  (fun (t_at : Int32) => (((t_size : Int32) ≤ t_at → (B_X9_nextToken_38 t_size t_bytes t_at t_token t_value post)) ∧ (¬ (t_size : Int32) ≤ t_at → (vp_in t_at 320 ∧ ((¬ (t_bytes t_at.toNatClampNeg : Int32) = 32 → (B_X9_nextToken_38 t_size t_bytes t_at t_token t_value post)) ∧ ((t_bytes t_at.toNatClampNeg : Int32) = 32 → K_0 (t_at + 1))))))) v
def wp_X9_nextToken (t_size : Int32) (t_at : Int32) (t_token : Int32) (t_from : Int32) (t_value : Int32) (t_bytes : Nat → Int32) (post : Int32 → Int32 → Int32 → Int32 → Prop) : Prop :=
  (∃ n, fixN (F_X9_nextToken_0 t_size t_bytes t_token t_value post) n t_at)
theorem hdX9_nextToken : yX9_nextToken.cls = RX9 ∧ yX9_nextToken.cls ≠ "java/lang/invoke/MethodHandle" ∧ yX9_nextToken.cls ≠ "java/lang/invoke/VarHandle" ∧ (parseMethodDescriptor yX9_nextToken.desc).map (fun d => d.parameters.length) = some 0 := by decide +kernel
abbrev rmX9_nextToken : Room := { frames := 2, cells := 0, slots := 0, locals := 200 }
set_option maxHeartbeats 4000000 in
set_option maxRecDepth 100000 in
theorem c_X9_nextToken (l : Launch) (D : va_G) (g : gE) (a_t : Nat) (a_t_bytes : Nat) (t_size : Int32) (t_at : Int32) (t_token : Int32) (t_from : Int32) (t_value : Int32) (t_bytes : Nat → Int32) (post : Int32 → Int32 → Int32 → Int32 → Prop) (h : wp_X9_nextToken t_size t_at t_token t_from t_value t_bytes post) : Cv l D g yX9_nextToken wsX9_nextToken rmX9_nextToken [.ref a_t] [(a_t, .inr (9, [.ref a_t_bytes, .int t_size, .int t_at, .int t_token, .int t_from, .int t_value])), (a_t_bytes, .inl (g.1 0, 320, .inl t_bytes))] (fun W' => ∃ (w_t_at : Int32) (w_t_token : Int32) (w_t_from : Int32) (w_t_value : Int32), W' = [(a_t, .inr (9, [.ref a_t_bytes, .int t_size, .int w_t_at, .int w_t_token, .int w_t_from, .int w_t_value])), (a_t_bytes, .inl (g.1 0, 320, .inl t_bytes))] ∧ post w_t_at w_t_token w_t_from w_t_value) := by
  refine Cv.of (cc := cX9_nextToken) (maxL := 1) (by decide) rfl (Nat.le_of_ble_eq_true rfl) ?_
  intro p e s m below meth c A Q hx hb hml hts hown hA hP hD hS hG ls hl hret
  have hown : s.vm.findClass RX9 = some m.cls := hown
  have hl : lv_has ls 1 [(0, .ref a_t)] := hl
  have hiX9 : ∀ w ∈ u_ws RX9 TX9 6, w ∈ wsX9_nextToken := fun _ h => List.mem_cons_of_mem _ (List.mem_append_right _ h)
  have lk1 := hts (.fieldLink RX9 19 "KnockWall$Tape" "at" "I") (List.mem_of_getElem? (i := 1) rfl)
  have lk2 := hts (.fieldLink RX9 15 "KnockWall$Tape" "size" "I") (List.mem_of_getElem? (i := 2) rfl)
  have lk3 := hts (.fieldLink RX9 22 "KnockWall$Tape" "from" "I") (List.mem_of_getElem? (i := 4) rfl)
  have lk4 := hts (.fieldLink RX9 9 "KnockWall$Tape" "bytes" "[B") (List.mem_of_getElem? (i := 3) rfl)
  have lk5 := hts (.fieldLink RX9 25 "KnockWall$Tape" "token" "I") (List.mem_of_getElem? (i := 5) rfl)
  have L117 : ∀ (t_token : Int32) (t_from : Int32) (t_value : Int32), ∀ (n : Nat) (t_at : Int32), fixN (F_X9_nextToken_117 t_size t_bytes t_token t_from t_value post) n t_at → ∀ (H : Heap) (locs : List Loc), va_P D vwCl [(a_t, .inr (9, [.ref a_t_bytes, .int t_size, .int t_at, .int t_token, .int t_from, .int t_value])), (a_t_bytes, .inl (g.1 0, 320, .inl t_bytes))] H → va_D A [(a_t, .inr (9, [.ref a_t_bytes, .int t_size, .int t_at, .int t_token, .int t_from, .int t_value])), (a_t_bytes, .inl (g.1 0, 320, .inl t_bytes))] → va_S A s.heap H locs → ∀ (ls : Array Slot), lv_has ls 1 [(0, .ref a_t)] → W p l e rmX9_nextToken s m _ below meth c H locs 0 0 Q (F0 m 117 ls []) := by
    intro t_token t_from t_value
    intro n
    induction n with
    | zero => intro t_at h; exact h.elim
    | succ n ih =>
      intro t_at h H locs hP hD hS ls hl
      have h : F_X9_nextToken_117 t_size t_bytes t_token t_from t_value post (fixN (F_X9_nextToken_117 t_size t_bytes t_token t_from t_value post) n) t_at := h
      unfold F_X9_nextToken_117 at h
      try dsimp only at h
      refine lv_aload_n hx hb dX9_nextToken_117 rfl (lv_at hl 0 rfl) ?_
      refine va_get (ci := 9) (v := .int t_at) (C := RX9) (T := TX9) (N := 6) hx hb hts hiX9 hown hG.k hP 0 rfl rfl 2 (by decide) lk1 (fun _ h9 => h9) rfl dX9_nextToken_118 ?_
      refine lv_aload_n hx hb dX9_nextToken_121 rfl (lv_at hl 0 rfl) ?_
      refine va_get (ci := 9) (v := .int t_size) (C := RX9) (T := TX9) (N := 6) hx hb hts hiX9 hown hG.k hP 0 rfl rfl 1 (by decide) lk2 (fun _ h9 => h9) rfl dX9_nextToken_122 ?_
      refine lv_icmp_ge (tgt := 160) hx hb dX9_nextToken_125 (by decide) (fun c9 => ?_) (fun c9 => ?_)
      · have h := h.1 c9
        exact hret _ _ _ _ _ ⟨t_at, t_token, t_from, t_value, rfl, h⟩ hP hD hS dX9_nextToken_160
      · have h := h.2 c9
        refine lv_aload_n hx hb dX9_nextToken_128 rfl (lv_at hl 0 rfl) ?_
        refine va_get (ci := 9) (v := .ref a_t_bytes) (C := RX9) (T := TX9) (N := 6) hx hb hts hiX9 hown hG.k hP 0 rfl rfl 0 (by decide) lk4 (fun _ h9 => h9) rfl dX9_nextToken_129 ?_
        refine lv_aload_n hx hb dX9_nextToken_132 rfl (lv_at hl 0 rfl) ?_
        refine va_get (ci := 9) (v := .int t_at) (C := RX9) (T := TX9) (N := 6) hx hb hts hiX9 hown hG.k hP 0 rfl rfl 2 (by decide) lk1 (fun _ h9 => h9) rfl dX9_nextToken_133 ?_
        obtain ⟨hv10, h⟩ := h
        refine va_bald hx hb hG.k hP 1 0 rfl rfl hv10 dX9_nextToken_136 ?_
        refine k_i (wr := [(a_t, .inr (9, [.ref a_t_bytes, .int t_size, .int t_at, .int t_token, .int t_from, .int t_value])), (a_t_bytes, .inl (g.1 0, 320, .inl t_bytes))]) hA hP hD hS [] [0, 1] rfl rfl (by decide) (by decide) (va_runS (As := [.int (t_bytes t_at.toNatClampNeg)]) (rest := []) ⟨hx, hb, hml, hown, hts⟩ (c_X9_isLetter l D g (t_bytes t_at.toNatClampNeg) _ h H.size) (va_cwS 1 hts gX9_nextToken_X9_isLetter rfl rfl rfl hdX9_isLetter.2 ⟨Nat.le_of_ble_eq_true rfl, Nat.le_of_ble_eq_true rfl⟩) (k_preS hG hA hP hD hS [] rfl (by decide)) rfl rfl hl.1 rfl (lv_room (Nat.le_of_ble_eq_true rfl)) dX9_nextToken_137 ⟨Nat.zero_le _, Nat.zero_le _⟩) (fun r11 W' H locs h hP hD hS => ?_)
        obtain ⟨rfl, h⟩ := h
        have hP : va_P D vwCl [(a_t, .inr (9, [.ref a_t_bytes, .int t_size, .int t_at, .int t_token, .int t_from, .int t_value])), (a_t_bytes, .inl (g.1 0, 320, .inl t_bytes))] H := hP.sub [0, 1] rfl
        have hD : va_D A [(a_t, .inr (9, [.ref a_t_bytes, .int t_size, .int t_at, .int t_token, .int t_from, .int t_value])), (a_t_bytes, .inl (g.1 0, 320, .inl t_bytes))] := hD.sub [0, 1] (by decide) rfl
        refine lv_if_eq (tgt := 160) hx hb dX9_nextToken_140 (by decide) (fun c12 => ?_) (fun c12 => ?_)
        · have h := h.1 c12
          exact hret _ _ _ _ _ ⟨t_at, t_token, t_from, t_value, rfl, h⟩ hP hD hS dX9_nextToken_160
        · have h := h.2 c12
          refine lv_aload_n hx hb dX9_nextToken_143 rfl (lv_at hl 0 rfl) ?_
          refine lv_dup hx hb dX9_nextToken_144 rfl ?_
          refine va_get (ci := 9) (v := .int t_at) (C := RX9) (T := TX9) (N := 6) hx hb hts hiX9 hown hG.k hP 0 rfl rfl 2 (by decide) lk1 (fun _ h9 => h9) rfl dX9_nextToken_145 ?_
          refine lv_iconst (v := 1) hx hb dX9_nextToken_148 (by decide) ?_
          refine lv_iadd hx hb dX9_nextToken_149 ?_
          refine va_put (ci := 9) (v := .int (t_at + 1)) (C := RX9) (T := TX9) (N := 6) hx hb hts hiX9 tyX9 tyX9_ok nmX9 hown hG.k hP hD hS 0 rfl rfl 2 (by decide) lk1 (fun _ h9 => h9) rfl (tyX9_ok 2 (by decide)) rfl rfl (Nat.le_of_ble_eq_true rfl) dX9_nextToken_150 (fun H locs hP hD hS => ?_)
          have hP : va_P D vwCl [(a_t, .inr (9, [.ref a_t_bytes, .int t_size, .int (t_at + 1), .int t_token, .int t_from, .int t_value])), (a_t_bytes, .inl (g.1 0, 320, .inl t_bytes))] H := hP
          have hD : va_D A [(a_t, .inr (9, [.ref a_t_bytes, .int t_size, .int (t_at + 1), .int t_token, .int t_from, .int t_value])), (a_t_bytes, .inl (g.1 0, 320, .inl t_bytes))] := hD
          refine lv_goto (tgt := 117) hx hb dX9_nextToken_153 (by decide) ?_
          exact ih (t_at + 1) h _ _ hP hD hS _ (lv_sub hl [0] rfl)
  have L38 : ∀ (t_at : Int32) (t_token : Int32) (t_from : Int32) (t_value : Int32), B_X9_nextToken_38 t_size t_bytes t_at t_token t_value post → ∀ (H : Heap) (locs : List Loc), va_P D vwCl [(a_t, .inr (9, [.ref a_t_bytes, .int t_size, .int t_at, .int t_token, .int t_from, .int t_value])), (a_t_bytes, .inl (g.1 0, 320, .inl t_bytes))] H → va_D A [(a_t, .inr (9, [.ref a_t_bytes, .int t_size, .int t_at, .int t_token, .int t_from, .int t_value])), (a_t_bytes, .inl (g.1 0, 320, .inl t_bytes))] → va_S A s.heap H locs → ∀ (ls : Array Slot), lv_has ls 1 [(0, .ref a_t)] → W p l e rmX9_nextToken s m _ below meth c H locs 0 0 Q (F0 m 38 ls []) := by
    intro t_at t_token t_from t_value
    intro h H locs hP hD hS ls hl
    unfold B_X9_nextToken_38 at h
    try dsimp only at h
    refine lv_aload_n hx hb dX9_nextToken_38 rfl (lv_at hl 0 rfl) ?_
    refine lv_aload_n hx hb dX9_nextToken_39 rfl (lv_at hl 0 rfl) ?_
    refine va_get (ci := 9) (v := .int t_at) (C := RX9) (T := TX9) (N := 6) hx hb hts hiX9 hown hG.k hP 0 rfl rfl 2 (by decide) lk1 (fun _ h9 => h9) rfl dX9_nextToken_40 ?_
    refine va_put (ci := 9) (v := .int t_at) (C := RX9) (T := TX9) (N := 6) hx hb hts hiX9 tyX9 tyX9_ok nmX9 hown hG.k hP hD hS 0 rfl rfl 4 (by decide) lk3 (fun _ h9 => h9) rfl (tyX9_ok 4 (by decide)) rfl rfl (Nat.le_of_ble_eq_true rfl) dX9_nextToken_43 (fun H locs hP hD hS => ?_)
    have hP : va_P D vwCl [(a_t, .inr (9, [.ref a_t_bytes, .int t_size, .int t_at, .int t_token, .int t_at, .int t_value])), (a_t_bytes, .inl (g.1 0, 320, .inl t_bytes))] H := hP
    have hD : va_D A [(a_t, .inr (9, [.ref a_t_bytes, .int t_size, .int t_at, .int t_token, .int t_at, .int t_value])), (a_t_bytes, .inl (g.1 0, 320, .inl t_bytes))] := hD
    refine lv_aload_n hx hb dX9_nextToken_46 rfl (lv_at hl 0 rfl) ?_
    refine va_get (ci := 9) (v := .int t_at) (C := RX9) (T := TX9) (N := 6) hx hb hts hiX9 hown hG.k hP 0 rfl rfl 2 (by decide) lk1 (fun _ h9 => h9) rfl dX9_nextToken_47 ?_
    refine lv_aload_n hx hb dX9_nextToken_50 rfl (lv_at hl 0 rfl) ?_
    refine va_get (ci := 9) (v := .int t_size) (C := RX9) (T := TX9) (N := 6) hx hb hts hiX9 hown hG.k hP 0 rfl rfl 1 (by decide) lk2 (fun _ h9 => h9) rfl dX9_nextToken_51 ?_
    refine lv_icmp_lt (tgt := 65) hx hb dX9_nextToken_54 (by decide) (fun c2 => ?_) (fun c2 => ?_)
    · have h := h.1 c2
      refine lv_aload_n hx hb dX9_nextToken_65 rfl (lv_at hl 0 rfl) ?_
      refine va_get (ci := 9) (v := .ref a_t_bytes) (C := RX9) (T := TX9) (N := 6) hx hb hts hiX9 hown hG.k hP 0 rfl rfl 0 (by decide) lk4 (fun _ h9 => h9) rfl dX9_nextToken_66 ?_
      refine lv_aload_n hx hb dX9_nextToken_69 rfl (lv_at hl 0 rfl) ?_
      refine va_get (ci := 9) (v := .int t_at) (C := RX9) (T := TX9) (N := 6) hx hb hts hiX9 hown hG.k hP 0 rfl rfl 2 (by decide) lk1 (fun _ h9 => h9) rfl dX9_nextToken_70 ?_
      obtain ⟨hv3, h⟩ := h
      refine va_bald hx hb hG.k hP 1 0 rfl rfl hv3 dX9_nextToken_73 ?_
      refine lv_bipush (v := 59) hx hb dX9_nextToken_74 (by decide) ?_
      refine lv_icmp_ne (tgt := 97) hx hb dX9_nextToken_76 (by decide) (fun c4 => ?_) (fun c4 => ?_)
      · have h := h.1 c4
        refine lv_aload_n hx hb dX9_nextToken_97 rfl (lv_at hl 0 rfl) ?_
        refine va_get (ci := 9) (v := .ref a_t_bytes) (C := RX9) (T := TX9) (N := 6) hx hb hts hiX9 hown hG.k hP 0 rfl rfl 0 (by decide) lk4 (fun _ h9 => h9) rfl dX9_nextToken_98 ?_
        refine lv_aload_n hx hb dX9_nextToken_101 rfl (lv_at hl 0 rfl) ?_
        refine va_get (ci := 9) (v := .int t_at) (C := RX9) (T := TX9) (N := 6) hx hb hts hiX9 hown hG.k hP 0 rfl rfl 2 (by decide) lk1 (fun _ h9 => h9) rfl dX9_nextToken_102 ?_
        obtain ⟨hv5, h⟩ := h
        refine va_bald hx hb hG.k hP 1 0 rfl rfl hv5 dX9_nextToken_105 ?_
        refine k_i (wr := [(a_t, .inr (9, [.ref a_t_bytes, .int t_size, .int t_at, .int t_token, .int t_at, .int t_value])), (a_t_bytes, .inl (g.1 0, 320, .inl t_bytes))]) hA hP hD hS [] [0, 1] rfl rfl (by decide) (by decide) (va_runS (As := [.int (t_bytes t_at.toNatClampNeg)]) (rest := []) ⟨hx, hb, hml, hown, hts⟩ (c_X9_isLetter l D g (t_bytes t_at.toNatClampNeg) _ h H.size) (va_cwS 1 hts gX9_nextToken_X9_isLetter rfl rfl rfl hdX9_isLetter.2 ⟨Nat.le_of_ble_eq_true rfl, Nat.le_of_ble_eq_true rfl⟩) (k_preS hG hA hP hD hS [] rfl (by decide)) rfl rfl hl.1 rfl (lv_room (Nat.le_of_ble_eq_true rfl)) dX9_nextToken_106 ⟨Nat.zero_le _, Nat.zero_le _⟩) (fun r6 W' H locs h hP hD hS => ?_)
        obtain ⟨rfl, h⟩ := h
        have hP : va_P D vwCl [(a_t, .inr (9, [.ref a_t_bytes, .int t_size, .int t_at, .int t_token, .int t_at, .int t_value])), (a_t_bytes, .inl (g.1 0, 320, .inl t_bytes))] H := hP.sub [0, 1] rfl
        have hD : va_D A [(a_t, .inr (9, [.ref a_t_bytes, .int t_size, .int t_at, .int t_token, .int t_at, .int t_value])), (a_t_bytes, .inl (g.1 0, 320, .inl t_bytes))] := hD.sub [0, 1] (by decide) rfl
        refine lv_if_eq (tgt := 156) hx hb dX9_nextToken_109 (by decide) (fun c7 => ?_) (fun c7 => ?_)
        · have h := h.1 c7
          refine lv_aload_n hx hb dX9_nextToken_156 rfl (lv_at hl 0 rfl) ?_
          refine k_v (wr := []) hA hP hD hS [0, 1] [] rfl rfl (by decide) (by decide) (va_runV (As := []) (rest := []) ⟨hx, hb, hml, hown, hts⟩ (c_X9_nextNumber l D g a_t a_t_bytes t_size t_at t_token t_at t_value t_bytes _ h H.size) (cwV 0 hts gX9_nextToken_X9_nextNumber rfl rfl rfl hdX9_nextNumber ⟨Nat.le_of_ble_eq_true rfl, Nat.le_of_ble_eq_true rfl⟩) (k_preV (q0 := 0) hG hA hP hD hS [0, 1] rfl (by decide) rfl rfl) rfl rfl hl.1 rfl (lv_room (Nat.le_of_ble_eq_true rfl)) dX9_nextToken_157 ⟨Nat.zero_le _, Nat.zero_le _⟩) (fun W' H locs h hP hD hS => ?_)
          obtain ⟨u8_t_at, u8_t_token, u8_t_value, rfl, h⟩ := h
          have hP : va_P D vwCl [(a_t, .inr (9, [.ref a_t_bytes, .int t_size, .int u8_t_at, .int u8_t_token, .int t_at, .int u8_t_value])), (a_t_bytes, .inl (g.1 0, 320, .inl t_bytes))] H := hP.sub [0, 1] rfl
          have hD : va_D A [(a_t, .inr (9, [.ref a_t_bytes, .int t_size, .int u8_t_at, .int u8_t_token, .int t_at, .int u8_t_value])), (a_t_bytes, .inl (g.1 0, 320, .inl t_bytes))] := hD.sub [0, 1] (by decide) rfl
          exact hret _ _ _ _ _ ⟨u8_t_at, u8_t_token, t_at, u8_t_value, rfl, h⟩ hP hD hS dX9_nextToken_160
        · have h := h.2 c7
          refine lv_aload_n hx hb dX9_nextToken_112 rfl (lv_at hl 0 rfl) ?_
          refine lv_iconst (v := 2) hx hb dX9_nextToken_113 (by decide) ?_
          refine va_put (ci := 9) (v := .int 2) (C := RX9) (T := TX9) (N := 6) hx hb hts hiX9 tyX9 tyX9_ok nmX9 hown hG.k hP hD hS 0 rfl rfl 3 (by decide) lk5 (fun _ h9 => h9) rfl (tyX9_ok 3 (by decide)) rfl rfl (Nat.le_of_ble_eq_true rfl) dX9_nextToken_114 (fun H locs hP hD hS => ?_)
          have hP : va_P D vwCl [(a_t, .inr (9, [.ref a_t_bytes, .int t_size, .int t_at, .int 2, .int t_at, .int t_value])), (a_t_bytes, .inl (g.1 0, 320, .inl t_bytes))] H := hP
          have hD : va_D A [(a_t, .inr (9, [.ref a_t_bytes, .int t_size, .int t_at, .int 2, .int t_at, .int t_value])), (a_t_bytes, .inl (g.1 0, 320, .inl t_bytes))] := hD
          obtain ⟨n9, h⟩ := h
          exact L117 2 t_at t_value n9 t_at h _ _ hP hD hS _ (lv_sub hl [0] rfl)
      · have h := h.2 c4
        refine lv_aload_n hx hb dX9_nextToken_79 rfl (lv_at hl 0 rfl) ?_
        refine lv_iconst (v := 4) hx hb dX9_nextToken_80 (by decide) ?_
        refine va_put (ci := 9) (v := .int 4) (C := RX9) (T := TX9) (N := 6) hx hb hts hiX9 tyX9 tyX9_ok nmX9 hown hG.k hP hD hS 0 rfl rfl 3 (by decide) lk5 (fun _ h9 => h9) rfl (tyX9_ok 3 (by decide)) rfl rfl (Nat.le_of_ble_eq_true rfl) dX9_nextToken_81 (fun H locs hP hD hS => ?_)
        have hP : va_P D vwCl [(a_t, .inr (9, [.ref a_t_bytes, .int t_size, .int t_at, .int 4, .int t_at, .int t_value])), (a_t_bytes, .inl (g.1 0, 320, .inl t_bytes))] H := hP
        have hD : va_D A [(a_t, .inr (9, [.ref a_t_bytes, .int t_size, .int t_at, .int 4, .int t_at, .int t_value])), (a_t_bytes, .inl (g.1 0, 320, .inl t_bytes))] := hD
        refine lv_aload_n hx hb dX9_nextToken_84 rfl (lv_at hl 0 rfl) ?_
        refine lv_dup hx hb dX9_nextToken_85 rfl ?_
        refine va_get (ci := 9) (v := .int t_at) (C := RX9) (T := TX9) (N := 6) hx hb hts hiX9 hown hG.k hP 0 rfl rfl 2 (by decide) lk1 (fun _ h9 => h9) rfl dX9_nextToken_86 ?_
        refine lv_iconst (v := 1) hx hb dX9_nextToken_89 (by decide) ?_
        refine lv_iadd hx hb dX9_nextToken_90 ?_
        refine va_put (ci := 9) (v := .int (t_at + 1)) (C := RX9) (T := TX9) (N := 6) hx hb hts hiX9 tyX9 tyX9_ok nmX9 hown hG.k hP hD hS 0 rfl rfl 2 (by decide) lk1 (fun _ h9 => h9) rfl (tyX9_ok 2 (by decide)) rfl rfl (Nat.le_of_ble_eq_true rfl) dX9_nextToken_91 (fun H locs hP hD hS => ?_)
        have hP : va_P D vwCl [(a_t, .inr (9, [.ref a_t_bytes, .int t_size, .int (t_at + 1), .int 4, .int t_at, .int t_value])), (a_t_bytes, .inl (g.1 0, 320, .inl t_bytes))] H := hP
        have hD : va_D A [(a_t, .inr (9, [.ref a_t_bytes, .int t_size, .int (t_at + 1), .int 4, .int t_at, .int t_value])), (a_t_bytes, .inl (g.1 0, 320, .inl t_bytes))] := hD
        refine lv_goto (tgt := 160) hx hb dX9_nextToken_94 (by decide) ?_
        exact hret _ _ _ _ _ ⟨t_at + 1, 4, t_at, t_value, rfl, h⟩ hP hD hS dX9_nextToken_160
    · have h := h.2 c2
      refine lv_aload_n hx hb dX9_nextToken_57 rfl (lv_at hl 0 rfl) ?_
      refine lv_iconst (v := 1) hx hb dX9_nextToken_58 (by decide) ?_
      refine va_put (ci := 9) (v := .int 1) (C := RX9) (T := TX9) (N := 6) hx hb hts hiX9 tyX9 tyX9_ok nmX9 hown hG.k hP hD hS 0 rfl rfl 3 (by decide) lk5 (fun _ h9 => h9) rfl (tyX9_ok 3 (by decide)) rfl rfl (Nat.le_of_ble_eq_true rfl) dX9_nextToken_59 (fun H locs hP hD hS => ?_)
      have hP : va_P D vwCl [(a_t, .inr (9, [.ref a_t_bytes, .int t_size, .int t_at, .int 1, .int t_at, .int t_value])), (a_t_bytes, .inl (g.1 0, 320, .inl t_bytes))] H := hP
      have hD : va_D A [(a_t, .inr (9, [.ref a_t_bytes, .int t_size, .int t_at, .int 1, .int t_at, .int t_value])), (a_t_bytes, .inl (g.1 0, 320, .inl t_bytes))] := hD
      refine lv_goto (tgt := 160) hx hb dX9_nextToken_62 (by decide) ?_
      exact hret _ _ _ _ _ ⟨t_at, 1, t_at, t_value, rfl, h⟩ hP hD hS dX9_nextToken_160
  have L0 : ∀ (t_token : Int32) (t_from : Int32) (t_value : Int32), ∀ (n : Nat) (t_at : Int32), fixN (F_X9_nextToken_0 t_size t_bytes t_token t_value post) n t_at → ∀ (H : Heap) (locs : List Loc), va_P D vwCl [(a_t, .inr (9, [.ref a_t_bytes, .int t_size, .int t_at, .int t_token, .int t_from, .int t_value])), (a_t_bytes, .inl (g.1 0, 320, .inl t_bytes))] H → va_D A [(a_t, .inr (9, [.ref a_t_bytes, .int t_size, .int t_at, .int t_token, .int t_from, .int t_value])), (a_t_bytes, .inl (g.1 0, 320, .inl t_bytes))] → va_S A s.heap H locs → ∀ (ls : Array Slot), lv_has ls 1 [(0, .ref a_t)] → W p l e rmX9_nextToken s m _ below meth c H locs 0 0 Q (F0 m 0 ls []) := by
    intro t_token t_from t_value
    intro n
    induction n with
    | zero => intro t_at h; exact h.elim
    | succ n ih =>
      intro t_at h H locs hP hD hS ls hl
      have h : F_X9_nextToken_0 t_size t_bytes t_token t_value post (fixN (F_X9_nextToken_0 t_size t_bytes t_token t_value post) n) t_at := h
      unfold F_X9_nextToken_0 at h
      try dsimp only at h
      refine lv_aload_n hx hb dX9_nextToken_0 rfl (lv_at hl 0 rfl) ?_
      refine va_get (ci := 9) (v := .int t_at) (C := RX9) (T := TX9) (N := 6) hx hb hts hiX9 hown hG.k hP 0 rfl rfl 2 (by decide) lk1 (fun _ h9 => h9) rfl dX9_nextToken_1 ?_
      refine lv_aload_n hx hb dX9_nextToken_4 rfl (lv_at hl 0 rfl) ?_
      refine va_get (ci := 9) (v := .int t_size) (C := RX9) (T := TX9) (N := 6) hx hb hts hiX9 hown hG.k hP 0 rfl rfl 1 (by decide) lk2 (fun _ h9 => h9) rfl dX9_nextToken_5 ?_
      refine lv_icmp_ge (tgt := 38) hx hb dX9_nextToken_8 (by decide) (fun c1 => ?_) (fun c1 => ?_)
      · have h := h.1 c1
        exact L38 t_at t_token t_from t_value h _ _ hP hD hS _ (lv_sub hl [0] rfl)
      · have h := h.2 c1
        refine lv_aload_n hx hb dX9_nextToken_11 rfl (lv_at hl 0 rfl) ?_
        refine va_get (ci := 9) (v := .ref a_t_bytes) (C := RX9) (T := TX9) (N := 6) hx hb hts hiX9 hown hG.k hP 0 rfl rfl 0 (by decide) lk4 (fun _ h9 => h9) rfl dX9_nextToken_12 ?_
        refine lv_aload_n hx hb dX9_nextToken_15 rfl (lv_at hl 0 rfl) ?_
        refine va_get (ci := 9) (v := .int t_at) (C := RX9) (T := TX9) (N := 6) hx hb hts hiX9 hown hG.k hP 0 rfl rfl 2 (by decide) lk1 (fun _ h9 => h9) rfl dX9_nextToken_16 ?_
        obtain ⟨hv13, h⟩ := h
        refine va_bald hx hb hG.k hP 1 0 rfl rfl hv13 dX9_nextToken_19 ?_
        refine lv_bipush (v := 32) hx hb dX9_nextToken_20 (by decide) ?_
        refine lv_icmp_ne (tgt := 38) hx hb dX9_nextToken_22 (by decide) (fun c14 => ?_) (fun c14 => ?_)
        · have h := h.1 c14
          exact L38 t_at t_token t_from t_value h _ _ hP hD hS _ (lv_sub hl [0] rfl)
        · have h := h.2 c14
          refine lv_aload_n hx hb dX9_nextToken_25 rfl (lv_at hl 0 rfl) ?_
          refine lv_dup hx hb dX9_nextToken_26 rfl ?_
          refine va_get (ci := 9) (v := .int t_at) (C := RX9) (T := TX9) (N := 6) hx hb hts hiX9 hown hG.k hP 0 rfl rfl 2 (by decide) lk1 (fun _ h9 => h9) rfl dX9_nextToken_27 ?_
          refine lv_iconst (v := 1) hx hb dX9_nextToken_30 (by decide) ?_
          refine lv_iadd hx hb dX9_nextToken_31 ?_
          refine va_put (ci := 9) (v := .int (t_at + 1)) (C := RX9) (T := TX9) (N := 6) hx hb hts hiX9 tyX9 tyX9_ok nmX9 hown hG.k hP hD hS 0 rfl rfl 2 (by decide) lk1 (fun _ h9 => h9) rfl (tyX9_ok 2 (by decide)) rfl rfl (Nat.le_of_ble_eq_true rfl) dX9_nextToken_32 (fun H locs hP hD hS => ?_)
          have hP : va_P D vwCl [(a_t, .inr (9, [.ref a_t_bytes, .int t_size, .int (t_at + 1), .int t_token, .int t_from, .int t_value])), (a_t_bytes, .inl (g.1 0, 320, .inl t_bytes))] H := hP
          have hD : va_D A [(a_t, .inr (9, [.ref a_t_bytes, .int t_size, .int (t_at + 1), .int t_token, .int t_from, .int t_value])), (a_t_bytes, .inl (g.1 0, 320, .inl t_bytes))] := hD
          refine lv_goto (tgt := 0) hx hb dX9_nextToken_35 (by decide) ?_
          exact ih (t_at + 1) h _ _ hP hD hS _ (lv_sub hl [0] rfl)
  unfold wp_X9_nextToken at h
  try dsimp only at h
  obtain ⟨n9, h⟩ := h
  exact L0 t_token t_from t_value n9 t_at h _ _ hP hD hS _ (lv_sub hl [0] rfl)

def wp_X2_placeOf (t_places : Nat → Int32) (x1 : Int32) (post : Int32 → Prop) : Prop :=
  (wp_X9_isLetter x1 (fun r1 => (((r1 : Int32) = 0 → post ((-1))) ∧ (¬ (r1 : Int32) = 0 → (vp_in (x1 - 97) 26 ∧ post (t_places (x1 - 97).toNatClampNeg))))))
theorem hdX2_placeOf : yX2_placeOf.cls = RX2 ∧ yX2_placeOf.cls ≠ "java/lang/invoke/MethodHandle" ∧ yX2_placeOf.cls ≠ "java/lang/invoke/VarHandle" ∧ (parseMethodDescriptor yX2_placeOf.desc).map (fun d => d.parameters.length) = some 1 := by decide +kernel
abbrev rmX2_placeOf : Room := { frames := 2, cells := 0, slots := 0, locals := 200 }
set_option maxHeartbeats 4000000 in
set_option maxRecDepth 100000 in
theorem c_X2_placeOf (l : Launch) (D : va_G) (g : gE) (a_t : Nat) (a_t_places : Nat) (o_t_letters : Value) (o_t_heardCounts : Value) (o_t_heardSize : Value) (o_t_knowers : Value) (o_t_kept : Value) (t_places : Nat → Int32) (x1 : Int32) (post : Int32 → Prop) (h : wp_X2_placeOf t_places x1 post) : Ci l D g yX2_placeOf wsX2_placeOf rmX2_placeOf [.ref a_t, .int x1] [(a_t, .inr (2, [o_t_letters, .ref a_t_places, o_t_heardCounts, o_t_heardSize, o_t_knowers, o_t_kept])), (a_t_places, .inl (g.1 0, 26, .inl t_places))] (fun r W' => W' = [(a_t, .inr (2, [o_t_letters, .ref a_t_places, o_t_heardCounts, o_t_heardSize, o_t_knowers, o_t_kept])), (a_t_places, .inl (g.1 0, 26, .inl t_places))] ∧ post r) := by
  refine Ci.of (cc := cX2_placeOf) (maxL := 2) (by decide) rfl (Nat.le_of_ble_eq_true rfl) ?_
  intro p e s m below meth c A Q hx hb hml hts hown hA hP hD hS hG ls hl hret
  have hown : s.vm.findClass RX2 = some m.cls := hown
  have hl : lv_has ls 2 [(0, .ref a_t), (1, .int x1)] := hl
  have hiX2 : ∀ w ∈ u_ws RX2 TX2 6, w ∈ wsX2_placeOf := fun _ h => List.mem_cons_of_mem _ (List.mem_append_right _ h)
  have lk1 := hts (.fieldLink RX2 15 "KnockWall$Image" "places" "[B") (List.mem_of_getElem? (i := 1) rfl)
  unfold wp_X2_placeOf at h
  try dsimp only at h
  refine lv_iload_n hx hb dX2_placeOf_0 rfl (lv_at hl 1 rfl) ?_
  refine k_i (wr := [(a_t, .inr (2, [o_t_letters, .ref a_t_places, o_t_heardCounts, o_t_heardSize, o_t_knowers, o_t_kept])), (a_t_places, .inl (g.1 0, 26, .inl t_places))]) hA hP hD hS [] [0, 1] rfl rfl (by decide) (by decide) (va_runS (As := [.int x1]) (rest := []) ⟨hx, hb, hml, hown, hts⟩ (c_X9_isLetter l D g x1 _ h H.size) (va_cwS 1 hts gX2_placeOf_X9_isLetter rfl rfl rfl hdX9_isLetter.2 ⟨Nat.le_of_ble_eq_true rfl, Nat.le_of_ble_eq_true rfl⟩) (k_preS hG hA hP hD hS [] rfl (by decide)) rfl rfl hl.1 rfl (lv_room (Nat.le_of_ble_eq_true rfl)) dX2_placeOf_1 ⟨Nat.zero_le _, Nat.zero_le _⟩) (fun r1 W' H locs h hP hD hS => ?_)
  obtain ⟨rfl, h⟩ := h
  have hP : va_P D vwCl [(a_t, .inr (2, [o_t_letters, .ref a_t_places, o_t_heardCounts, o_t_heardSize, o_t_knowers, o_t_kept])), (a_t_places, .inl (g.1 0, 26, .inl t_places))] H := hP.sub [0, 1] rfl
  have hD : va_D A [(a_t, .inr (2, [o_t_letters, .ref a_t_places, o_t_heardCounts, o_t_heardSize, o_t_knowers, o_t_kept])), (a_t_places, .inl (g.1 0, 26, .inl t_places))] := hD.sub [0, 1] (by decide) rfl
  refine lv_if_eq (tgt := 19) hx hb dX2_placeOf_4 (by decide) (fun c2 => ?_) (fun c2 => ?_)
  · have h := h.1 c2
    refine lv_iconst (v := (-1)) hx hb dX2_placeOf_19 (by decide) ?_
    exact hret ((-1)) _ _ _ _ _ ⟨rfl, h⟩ hP hD hS dX2_placeOf_20
  · have h := h.2 c2
    refine lv_aload_n hx hb dX2_placeOf_7 rfl (lv_at hl 0 rfl) ?_
    refine va_get (ci := 2) (v := .ref a_t_places) (C := RX2) (T := TX2) (N := 6) hx hb hts hiX2 hown hG.k hP 0 rfl rfl 1 (by decide) lk1 (fun _ h9 => h9) rfl dX2_placeOf_8 ?_
    refine lv_iload_n hx hb dX2_placeOf_11 rfl (lv_at hl 1 rfl) ?_
    refine lv_bipush (v := 97) hx hb dX2_placeOf_12 (by decide) ?_
    refine lv_isub hx hb dX2_placeOf_14 ?_
    obtain ⟨hv3, h⟩ := h
    refine va_bald hx hb hG.k hP 1 0 rfl rfl hv3 dX2_placeOf_15 ?_
    refine lv_goto (tgt := 20) hx hb dX2_placeOf_16 (by decide) ?_
    exact hret (t_places (x1 - 97).toNatClampNeg) _ _ _ _ _ ⟨rfl, h⟩ hP hD hS dX2_placeOf_20

def wp_X2_knocksOf (t_places : Nat → Int32) (x1 : Int32) (post : Int32 → Prop) : Prop :=
  (wp_X2_placeOf t_places x1 (fun r1 => (((0 : Int32) ≤ r1 → post (((r1 / 5) + (r1 - r1 / 5 * 5)) + 2)) ∧ (¬ (0 : Int32) ≤ r1 → post 0))))
theorem hdX2_knocksOf : yX2_knocksOf.cls = RX2 ∧ yX2_knocksOf.cls ≠ "java/lang/invoke/MethodHandle" ∧ yX2_knocksOf.cls ≠ "java/lang/invoke/VarHandle" ∧ (parseMethodDescriptor yX2_knocksOf.desc).map (fun d => d.parameters.length) = some 1 := by decide +kernel
abbrev rmX2_knocksOf : Room := { frames := 3, cells := 0, slots := 0, locals := 300 }
set_option maxHeartbeats 4000000 in
set_option maxRecDepth 100000 in
theorem c_X2_knocksOf (l : Launch) (D : va_G) (g : gE) (a_t : Nat) (a_t_places : Nat) (o_t_letters : Value) (o_t_heardCounts : Value) (o_t_heardSize : Value) (o_t_knowers : Value) (o_t_kept : Value) (t_places : Nat → Int32) (x1 : Int32) (post : Int32 → Prop) (h : wp_X2_knocksOf t_places x1 post) : Ci l D g yX2_knocksOf wsX2_knocksOf rmX2_knocksOf [.ref a_t, .int x1] [(a_t, .inr (2, [o_t_letters, .ref a_t_places, o_t_heardCounts, o_t_heardSize, o_t_knowers, o_t_kept])), (a_t_places, .inl (g.1 0, 26, .inl t_places))] (fun r W' => W' = [(a_t, .inr (2, [o_t_letters, .ref a_t_places, o_t_heardCounts, o_t_heardSize, o_t_knowers, o_t_kept])), (a_t_places, .inl (g.1 0, 26, .inl t_places))] ∧ post r) := by
  refine Ci.of (cc := cX2_knocksOf) (maxL := 3) (by decide) rfl (Nat.le_of_ble_eq_true rfl) ?_
  intro p e s m below meth c A Q hx hb hml hts hown hA hP hD hS hG ls hl hret
  have hown : s.vm.findClass RX2 = some m.cls := hown
  have hl : lv_has ls 3 [(0, .ref a_t), (1, .int x1)] := hl
  unfold wp_X2_knocksOf at h
  try dsimp only at h
  refine lv_aload_n hx hb dX2_knocksOf_0 rfl (lv_at hl 0 rfl) ?_
  refine lv_iload_n hx hb dX2_knocksOf_1 rfl (lv_at hl 1 rfl) ?_
  refine k_i (wr := []) hA hP hD hS [0, 1] [] rfl rfl (by decide) (by decide) (va_runV (As := [.int x1]) (rest := []) ⟨hx, hb, hml, hown, hts⟩ (c_X2_placeOf l D g a_t a_t_places (o_t_letters) (o_t_heardCounts) (o_t_heardSize) (o_t_knowers) (o_t_kept) t_places x1 _ h H.size) (cwV 1 hts gX2_knocksOf_X2_placeOf rfl rfl rfl hdX2_placeOf ⟨Nat.le_of_ble_eq_true rfl, Nat.le_of_ble_eq_true rfl⟩) (k_preV (q0 := 0) hG hA hP hD hS [0, 1] rfl (by decide) rfl rfl) rfl rfl hl.1 rfl (lv_room (Nat.le_of_ble_eq_true rfl)) dX2_knocksOf_2 ⟨Nat.zero_le _, Nat.zero_le _⟩) (fun r1 W' H locs h hP hD hS => ?_)
  obtain ⟨rfl, h⟩ := h
  have hP : va_P D vwCl [(a_t, .inr (2, [o_t_letters, .ref a_t_places, o_t_heardCounts, o_t_heardSize, o_t_knowers, o_t_kept])), (a_t_places, .inl (g.1 0, 26, .inl t_places))] H := hP.sub [0, 1] rfl
  have hD : va_D A [(a_t, .inr (2, [o_t_letters, .ref a_t_places, o_t_heardCounts, o_t_heardSize, o_t_knowers, o_t_kept])), (a_t_places, .inl (g.1 0, 26, .inl t_places))] := hD.sub [0, 1] (by decide) rfl
  refine lv_istore_n (lv' := [(2, .int r1), (0, .ref a_t), (1, .int x1)]) hx hb dX2_knocksOf_5 rfl hl (by decide) rfl (fun ls hl => ?_)
  refine lv_iload_n hx hb dX2_knocksOf_6 rfl (lv_at hl 0 rfl) ?_
  refine lv_if_ge (tgt := 14) hx hb dX2_knocksOf_7 (by decide) (fun c2 => ?_) (fun c2 => ?_)
  · have h := h.1 c2
    refine lv_iload_n hx hb dX2_knocksOf_14 rfl (lv_at hl 0 rfl) ?_
    refine lv_iconst (v := 5) hx hb dX2_knocksOf_15 (by decide) ?_
    refine lv_idiv hx hb dX2_knocksOf_16 (by decide) ?_
    refine lv_iload_n hx hb dX2_knocksOf_17 rfl (lv_at hl 0 rfl) ?_
    refine lv_iconst (v := 5) hx hb dX2_knocksOf_18 (by decide) ?_
    refine lv_irem hx hb dX2_knocksOf_19 (by decide) ?_
    refine lv_iadd hx hb dX2_knocksOf_20 ?_
    refine lv_iconst (v := 2) hx hb dX2_knocksOf_21 (by decide) ?_
    refine lv_iadd hx hb dX2_knocksOf_22 ?_
    exact hret (((r1 / 5) + (r1 - r1 / 5 * 5)) + 2) _ _ _ _ _ ⟨rfl, h⟩ hP hD hS dX2_knocksOf_23
  · have h := h.2 c2
    refine lv_iconst (v := 0) hx hb dX2_knocksOf_10 (by decide) ?_
    refine lv_goto (tgt := 23) hx hb dX2_knocksOf_11 (by decide) ?_
    exact hret 0 _ _ _ _ _ ⟨rfl, h⟩ hP hD hS dX2_knocksOf_23

def F_X2_knocksOfName_5 (n_p1_lengths : Nat) (n_p1_letters : Nat) (p1_width : Int32) (p1_size : Int32) (p1_lengths : Nat → Int32) (p1_letters : Nat → Int32) (t_places : Nat → Int32) (x2 : Int32) (post : Int32 → Prop) (K_5 : (Int32 × Int32) → Prop) (v : Int32 × Int32) : Prop :=
  (fun (x3 : Int32) (x4 : Int32) => (wp_X4_lengthOf n_p1_lengths p1_size p1_lengths x2 (fun r1 => (((r1 : Int32) ≤ x4 → post x3) ∧ (¬ (r1 : Int32) ≤ x4 → (wp_X4_letterAt n_p1_lengths n_p1_letters p1_width p1_size p1_lengths p1_letters x2 x4 (fun r3 => (wp_X2_knocksOf t_places r3 (fun r4 => K_5 (x3 + r4, x4 + 1)))))))))) v.1 v.2
def wp_X2_knocksOfName (n_p1_lengths : Nat) (n_p1_letters : Nat) (p1_width : Int32) (p1_size : Int32) (p1_lengths : Nat → Int32) (p1_letters : Nat → Int32) (t_places : Nat → Int32) (x2 : Int32) (post : Int32 → Prop) : Prop :=
  (∃ n, fixN (F_X2_knocksOfName_5 n_p1_lengths n_p1_letters p1_width p1_size p1_lengths p1_letters t_places x2 post) n (0, 0))
theorem hdX2_knocksOfName : yX2_knocksOfName.cls = RX2 ∧ yX2_knocksOfName.cls ≠ "java/lang/invoke/MethodHandle" ∧ yX2_knocksOfName.cls ≠ "java/lang/invoke/VarHandle" ∧ (parseMethodDescriptor yX2_knocksOfName.desc).map (fun d => d.parameters.length) = some 2 := by decide +kernel
abbrev rmX2_knocksOfName : Room := { frames := 4, cells := 0, slots := 0, locals := 400 }
set_option maxHeartbeats 4000000 in
set_option maxRecDepth 100000 in
theorem c_X2_knocksOfName (l : Launch) (D : va_G) (g : gE) (a_t : Nat) (a_p1 : Nat) (a_p1_lengths : Nat) (a_p1_letters : Nat) (a_t_places : Nat) (o_t_letters : Value) (o_t_heardCounts : Value) (o_t_heardSize : Value) (o_t_knowers : Value) (o_t_kept : Value) (o_p1_most : Value) (o_p1_masks : Value) (n_p1_lengths : Nat) (n_p1_letters : Nat) (p1_width : Int32) (p1_size : Int32) (p1_lengths : Nat → Int32) (p1_letters : Nat → Int32) (t_places : Nat → Int32) (x2 : Int32) (post : Int32 → Prop) (h : wp_X2_knocksOfName n_p1_lengths n_p1_letters p1_width p1_size p1_lengths p1_letters t_places x2 post) : Ci l D g yX2_knocksOfName wsX2_knocksOfName rmX2_knocksOfName [.ref a_t, .ref a_p1, .int x2] [(a_t, .inr (2, [o_t_letters, .ref a_t_places, o_t_heardCounts, o_t_heardSize, o_t_knowers, o_t_kept])), (a_p1, .inr (4, [o_p1_most, .int p1_width, .ref a_p1_letters, .ref a_p1_lengths, o_p1_masks, .int p1_size])), (a_p1_lengths, .inl (g.1 1, n_p1_lengths, .inl p1_lengths)), (a_p1_letters, .inl (g.1 0, n_p1_letters, .inl p1_letters)), (a_t_places, .inl (g.1 0, 26, .inl t_places))] (fun r W' => W' = [(a_t, .inr (2, [o_t_letters, .ref a_t_places, o_t_heardCounts, o_t_heardSize, o_t_knowers, o_t_kept])), (a_p1, .inr (4, [o_p1_most, .int p1_width, .ref a_p1_letters, .ref a_p1_lengths, o_p1_masks, .int p1_size])), (a_p1_lengths, .inl (g.1 1, n_p1_lengths, .inl p1_lengths)), (a_p1_letters, .inl (g.1 0, n_p1_letters, .inl p1_letters)), (a_t_places, .inl (g.1 0, 26, .inl t_places))] ∧ post r) := by
  refine Ci.of (cc := cX2_knocksOfName) (maxL := 5) (by decide) rfl (Nat.le_of_ble_eq_true rfl) ?_
  intro p e s m below meth c A Q hx hb hml hts hown hA hP hD hS hG ls hl hret
  have hown : s.vm.findClass RX2 = some m.cls := hown
  have hl : lv_has ls 5 [(0, .ref a_t), (1, .ref a_p1), (2, .int x2)] := hl
  have L5 : ∀ (x2 : Int32), ∀ (n : Nat) (x3 : Int32) (x4 : Int32), fixN (F_X2_knocksOfName_5 n_p1_lengths n_p1_letters p1_width p1_size p1_lengths p1_letters t_places x2 post) n (x3, x4) → ∀ (H : Heap) (locs : List Loc), va_P D vwCl [(a_t, .inr (2, [o_t_letters, .ref a_t_places, o_t_heardCounts, o_t_heardSize, o_t_knowers, o_t_kept])), (a_p1, .inr (4, [o_p1_most, .int p1_width, .ref a_p1_letters, .ref a_p1_lengths, o_p1_masks, .int p1_size])), (a_p1_lengths, .inl (g.1 1, n_p1_lengths, .inl p1_lengths)), (a_p1_letters, .inl (g.1 0, n_p1_letters, .inl p1_letters)), (a_t_places, .inl (g.1 0, 26, .inl t_places))] H → va_D A [(a_t, .inr (2, [o_t_letters, .ref a_t_places, o_t_heardCounts, o_t_heardSize, o_t_knowers, o_t_kept])), (a_p1, .inr (4, [o_p1_most, .int p1_width, .ref a_p1_letters, .ref a_p1_lengths, o_p1_masks, .int p1_size])), (a_p1_lengths, .inl (g.1 1, n_p1_lengths, .inl p1_lengths)), (a_p1_letters, .inl (g.1 0, n_p1_letters, .inl p1_letters)), (a_t_places, .inl (g.1 0, 26, .inl t_places))] → va_S A s.heap H locs → ∀ (ls : Array Slot), lv_has ls 5 [(0, .ref a_t), (1, .ref a_p1), (2, .int x2), (3, .int x3), (4, .int x4)] → W p l e rmX2_knocksOfName s m _ below meth c H locs 0 0 Q (F0 m 5 ls []) := by
    intro x2
    intro n
    induction n with
    | zero => intro x3 x4 h; exact h.elim
    | succ n ih =>
      intro x3 x4 h H locs hP hD hS ls hl
      have h : F_X2_knocksOfName_5 n_p1_lengths n_p1_letters p1_width p1_size p1_lengths p1_letters t_places x2 post (fixN (F_X2_knocksOfName_5 n_p1_lengths n_p1_letters p1_width p1_size p1_lengths p1_letters t_places x2 post) n) (x3, x4) := h
      unfold F_X2_knocksOfName_5 at h
      try dsimp only at h
      refine lv_iload hx hb dX2_knocksOfName_5 (lv_at hl 4 rfl) ?_
      refine lv_aload_n hx hb dX2_knocksOfName_7 rfl (lv_at hl 1 rfl) ?_
      refine lv_iload_n hx hb dX2_knocksOfName_8 rfl (lv_at hl 2 rfl) ?_
      refine k_i (wr := [(a_t, .inr (2, [o_t_letters, .ref a_t_places, o_t_heardCounts, o_t_heardSize, o_t_knowers, o_t_kept])), (a_p1_letters, .inl (g.1 0, n_p1_letters, .inl p1_letters)), (a_t_places, .inl (g.1 0, 26, .inl t_places))]) hA hP hD hS [1, 2] [0, 3, 4] rfl rfl (by decide) (by decide) (va_runV (As := [.int x2]) (rest := [.int x4]) ⟨hx, hb, hml, hown, hts⟩ (c_X4_lengthOf l D g a_p1 a_p1_lengths (o_p1_most) (.int p1_width) (.ref a_p1_letters) (o_p1_masks) n_p1_lengths p1_size p1_lengths x2 _ h H.size) (cwV 1 hts gX2_knocksOfName_X4_lengthOf rfl rfl rfl hdX4_lengthOf ⟨Nat.le_of_ble_eq_true rfl, Nat.le_of_ble_eq_true rfl⟩) (k_preV (q0 := 1) hG hA hP hD hS [1, 2] rfl (by decide) rfl rfl) rfl rfl hl.1 rfl (lv_room (Nat.le_of_ble_eq_true rfl)) dX2_knocksOfName_9 ⟨Nat.zero_le _, Nat.zero_le _⟩) (fun r1 W' H locs h hP hD hS => ?_)
      obtain ⟨rfl, h⟩ := h
      have hP : va_P D vwCl [(a_t, .inr (2, [o_t_letters, .ref a_t_places, o_t_heardCounts, o_t_heardSize, o_t_knowers, o_t_kept])), (a_p1, .inr (4, [o_p1_most, .int p1_width, .ref a_p1_letters, .ref a_p1_lengths, o_p1_masks, .int p1_size])), (a_p1_lengths, .inl (g.1 1, n_p1_lengths, .inl p1_lengths)), (a_p1_letters, .inl (g.1 0, n_p1_letters, .inl p1_letters)), (a_t_places, .inl (g.1 0, 26, .inl t_places))] H := hP.sub [0, 3, 4, 1, 2] rfl
      have hD : va_D A [(a_t, .inr (2, [o_t_letters, .ref a_t_places, o_t_heardCounts, o_t_heardSize, o_t_knowers, o_t_kept])), (a_p1, .inr (4, [o_p1_most, .int p1_width, .ref a_p1_letters, .ref a_p1_lengths, o_p1_masks, .int p1_size])), (a_p1_lengths, .inl (g.1 1, n_p1_lengths, .inl p1_lengths)), (a_p1_letters, .inl (g.1 0, n_p1_letters, .inl p1_letters)), (a_t_places, .inl (g.1 0, 26, .inl t_places))] := hD.sub [0, 3, 4, 1, 2] (by decide) rfl
      refine lv_icmp_ge (tgt := 35) hx hb dX2_knocksOfName_12 (by decide) (fun c2 => ?_) (fun c2 => ?_)
      · have h := h.1 c2
        refine lv_iload_n hx hb dX2_knocksOfName_35 rfl (lv_at hl 3 rfl) ?_
        exact hret x3 _ _ _ _ _ ⟨rfl, h⟩ hP hD hS dX2_knocksOfName_36
      · have h := h.2 c2
        refine lv_iload_n hx hb dX2_knocksOfName_15 rfl (lv_at hl 3 rfl) ?_
        refine lv_aload_n hx hb dX2_knocksOfName_16 rfl (lv_at hl 0 rfl) ?_
        refine lv_aload_n hx hb dX2_knocksOfName_17 rfl (lv_at hl 1 rfl) ?_
        refine lv_iload_n hx hb dX2_knocksOfName_18 rfl (lv_at hl 2 rfl) ?_
        refine lv_iload hx hb dX2_knocksOfName_19 (lv_at hl 4 rfl) ?_
        refine k_i (wr := [(a_t, .inr (2, [o_t_letters, .ref a_t_places, o_t_heardCounts, o_t_heardSize, o_t_knowers, o_t_kept])), (a_t_places, .inl (g.1 0, 26, .inl t_places))]) hA hP hD hS [1, 2, 3] [0, 4] rfl rfl (by decide) (by decide) (va_runV (As := [.int x2, .int x4]) (rest := [.ref a_t, .int x3]) ⟨hx, hb, hml, hown, hts⟩ (c_X4_letterAt l D g a_p1 a_p1_lengths a_p1_letters (o_p1_most) (o_p1_masks) n_p1_lengths n_p1_letters p1_width p1_size p1_lengths p1_letters x2 x4 _ h H.size) (cwV 2 hts gX2_knocksOfName_X4_letterAt rfl rfl rfl hdX4_letterAt ⟨Nat.le_of_ble_eq_true rfl, Nat.le_of_ble_eq_true rfl⟩) (k_preV (q0 := 1) hG hA hP hD hS [1, 2, 3] rfl (by decide) rfl rfl) rfl rfl hl.1 rfl (lv_room (Nat.le_of_ble_eq_true rfl)) dX2_knocksOfName_21 ⟨Nat.zero_le _, Nat.zero_le _⟩) (fun r3 W' H locs h hP hD hS => ?_)
        obtain ⟨rfl, h⟩ := h
        have hP : va_P D vwCl [(a_t, .inr (2, [o_t_letters, .ref a_t_places, o_t_heardCounts, o_t_heardSize, o_t_knowers, o_t_kept])), (a_p1, .inr (4, [o_p1_most, .int p1_width, .ref a_p1_letters, .ref a_p1_lengths, o_p1_masks, .int p1_size])), (a_p1_lengths, .inl (g.1 1, n_p1_lengths, .inl p1_lengths)), (a_p1_letters, .inl (g.1 0, n_p1_letters, .inl p1_letters)), (a_t_places, .inl (g.1 0, 26, .inl t_places))] H := hP.sub [0, 2, 3, 4, 1] rfl
        have hD : va_D A [(a_t, .inr (2, [o_t_letters, .ref a_t_places, o_t_heardCounts, o_t_heardSize, o_t_knowers, o_t_kept])), (a_p1, .inr (4, [o_p1_most, .int p1_width, .ref a_p1_letters, .ref a_p1_lengths, o_p1_masks, .int p1_size])), (a_p1_lengths, .inl (g.1 1, n_p1_lengths, .inl p1_lengths)), (a_p1_letters, .inl (g.1 0, n_p1_letters, .inl p1_letters)), (a_t_places, .inl (g.1 0, 26, .inl t_places))] := hD.sub [0, 2, 3, 4, 1] (by decide) rfl
        refine k_i (wr := [(a_p1, .inr (4, [o_p1_most, .int p1_width, .ref a_p1_letters, .ref a_p1_lengths, o_p1_masks, .int p1_size])), (a_p1_lengths, .inl (g.1 1, n_p1_lengths, .inl p1_lengths)), (a_p1_letters, .inl (g.1 0, n_p1_letters, .inl p1_letters))]) hA hP hD hS [0, 4] [1, 2, 3] rfl rfl (by decide) (by decide) (va_runV (As := [.int r3]) (rest := [.int x3]) ⟨hx, hb, hml, hown, hts⟩ (c_X2_knocksOf l D g a_t a_t_places (o_t_letters) (o_t_heardCounts) (o_t_heardSize) (o_t_knowers) (o_t_kept) t_places r3 _ h H.size) (cwV 1 hts gX2_knocksOfName_X2_knocksOf rfl rfl rfl hdX2_knocksOf ⟨Nat.le_of_ble_eq_true rfl, Nat.le_of_ble_eq_true rfl⟩) (k_preV (q0 := 0) hG hA hP hD hS [0, 4] rfl (by decide) rfl rfl) rfl rfl hl.1 rfl (lv_room (Nat.le_of_ble_eq_true rfl)) dX2_knocksOfName_24 ⟨Nat.zero_le _, Nat.zero_le _⟩) (fun r4 W' H locs h hP hD hS => ?_)
        obtain ⟨rfl, h⟩ := h
        have hP : va_P D vwCl [(a_t, .inr (2, [o_t_letters, .ref a_t_places, o_t_heardCounts, o_t_heardSize, o_t_knowers, o_t_kept])), (a_p1, .inr (4, [o_p1_most, .int p1_width, .ref a_p1_letters, .ref a_p1_lengths, o_p1_masks, .int p1_size])), (a_p1_lengths, .inl (g.1 1, n_p1_lengths, .inl p1_lengths)), (a_p1_letters, .inl (g.1 0, n_p1_letters, .inl p1_letters)), (a_t_places, .inl (g.1 0, 26, .inl t_places))] H := hP.sub [3, 0, 1, 2, 4] rfl
        have hD : va_D A [(a_t, .inr (2, [o_t_letters, .ref a_t_places, o_t_heardCounts, o_t_heardSize, o_t_knowers, o_t_kept])), (a_p1, .inr (4, [o_p1_most, .int p1_width, .ref a_p1_letters, .ref a_p1_lengths, o_p1_masks, .int p1_size])), (a_p1_lengths, .inl (g.1 1, n_p1_lengths, .inl p1_lengths)), (a_p1_letters, .inl (g.1 0, n_p1_letters, .inl p1_letters)), (a_t_places, .inl (g.1 0, 26, .inl t_places))] := hD.sub [3, 0, 1, 2, 4] (by decide) rfl
        refine lv_iadd hx hb dX2_knocksOfName_27 ?_
        refine lv_istore_n (lv' := [(3, .int (x3 + r4)), (0, .ref a_t), (1, .ref a_p1), (2, .int x2), (4, .int x4)]) hx hb dX2_knocksOfName_28 rfl hl (by decide) rfl (fun ls hl => ?_)
        refine lv_iinc (v := x4 + 1) (lv' := [(4, .int (x4 + 1)), (3, .int (x3 + r4)), (0, .ref a_t), (1, .ref a_p1), (2, .int x2)]) hx hb dX2_knocksOfName_29 hl (k := 4) rfl rfl (by decide) rfl (fun ls hl => ?_)
        refine lv_goto (tgt := 5) hx hb dX2_knocksOfName_32 (by decide) ?_
        exact ih (x3 + r4) (x4 + 1) h _ _ hP hD hS _ (lv_sub hl [2, 3, 4, 1, 0] rfl)
  unfold wp_X2_knocksOfName at h
  try dsimp only at h
  refine lv_iconst (v := 0) hx hb dX2_knocksOfName_0 (by decide) ?_
  refine lv_istore_n (lv' := [(3, .int 0), (0, .ref a_t), (1, .ref a_p1), (2, .int x2)]) hx hb dX2_knocksOfName_1 rfl hl (by decide) rfl (fun ls hl => ?_)
  refine lv_iconst (v := 0) hx hb dX2_knocksOfName_2 (by decide) ?_
  refine lv_istore (lv' := [(4, .int 0), (3, .int 0), (0, .ref a_t), (1, .ref a_p1), (2, .int x2)]) hx hb dX2_knocksOfName_3 hl (by decide) rfl (fun ls hl => ?_)
  obtain ⟨n9, h⟩ := h
  exact L5 x2 n9 0 0 h _ _ hP hD hS _ (lv_sub hl [2, 3, 4, 1, 0] rfl)

