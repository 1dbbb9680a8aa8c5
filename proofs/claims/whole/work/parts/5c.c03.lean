theorem hdX4_firstLike : yX4_firstLike.cls = RX4 ∧ yX4_firstLike.cls ≠ "java/lang/invoke/MethodHandle" ∧ yX4_firstLike.cls ≠ "java/lang/invoke/VarHandle" ∧ (parseMethodDescriptor yX4_firstLike.desc).map (fun d => d.parameters.length) = some 3 := by decide +kernel
abbrev rmX4_firstLike : Room := { frames := 2, cells := 0, slots := 0, locals := 200 }
set_option maxHeartbeats 4000000 in
set_option maxRecDepth 100000 in
theorem c_X4_firstLike (l : Launch) (D : va_G) (g : gE) (a_t : Nat) (a_p1 : Nat) (a_t_lengths : Nat) (a_t_letters : Nat) (a_p1_bytes : Nat) (o_t_most : Value) (o_t_masks : Value) (o_p1_size : Value) (o_p1_at : Value) (o_p1_token : Value) (o_p1_from : Value) (o_p1_value : Value) (n_t_lengths : Nat) (n_t_letters : Nat) (t_width : Int32) (t_size : Int32) (t_lengths : Nat → Int32) (t_letters : Nat → Int32) (p1_bytes : Nat → Int32) (x2 : Int32) (x3 : Int32) (post : Int32 → Prop) (h : wp_X4_firstLike n_t_lengths n_t_letters t_width t_size t_lengths t_letters p1_bytes x2 x3 post) : Ci l D g yX4_firstLike (.code yX4_firstLike cX4_firstLike 5 (some .int) :: wsL_law) rmX4_firstLike [.ref a_t, .ref a_p1, .int x2, .int x3] [(a_t, .inr (4, [o_t_most, .int t_width, .ref a_t_letters, .ref a_t_lengths, o_t_masks, .int t_size])), (a_p1, .inr (9, [.ref a_p1_bytes, o_p1_size, o_p1_at, o_p1_token, o_p1_from, o_p1_value])), (a_t_lengths, .inl (g.1 1, n_t_lengths, .inl t_lengths)), (a_t_letters, .inl (g.1 0, n_t_letters, .inl t_letters)), (a_p1_bytes, .inl (g.1 0, 320, .inl p1_bytes))] (fun r W' => W' = [(a_t, .inr (4, [o_t_most, .int t_width, .ref a_t_letters, .ref a_t_lengths, o_t_masks, .int t_size])), (a_p1, .inr (9, [.ref a_p1_bytes, o_p1_size, o_p1_at, o_p1_token, o_p1_from, o_p1_value])), (a_t_lengths, .inl (g.1 1, n_t_lengths, .inl t_lengths)), (a_t_letters, .inl (g.1 0, n_t_letters, .inl t_letters)), (a_p1_bytes, .inl (g.1 0, 320, .inl p1_bytes))] ∧ post r) := by
  refine Ci.of (cc := cX4_firstLike) (maxL := 5) (by decide) rfl (Nat.le_of_ble_eq_true rfl) ?_
  intro p e s m args below meth c A Q hx hb hml hts hown hA H locs hP hD hS hG ls hl hret
  have hown : s.vm.findClass RX4 = some m.cls := hown
  have hl : lv_has ls 5 [(0, .ref a_t), (1, .ref a_p1), (2, .int x2), (3, .int x3)] := hl
  have lk0 := hts (.fieldLink RX4 35 "KnockWall$Names" "size" "I") (List.mem_cons_of_mem _ (inR_16 (List.mem_of_getElem? (i := 1) rfl)))
  have lk1 := hts (.fieldLink RX4 20 "KnockWall$Names" "lengths" "[I") (List.mem_cons_of_mem _ (inR_5 (List.mem_of_getElem? (i := 18) rfl)))
  have L3 : ∀ (x2 : Int32) (x3 : Int32), ∀ (n : Nat) (x4 : Int32), fixN (F_X4_firstLike_3 n_t_lengths n_t_letters t_width t_size t_lengths t_letters p1_bytes x2 x3 post) n x4 → ∀ (H : Heap) (locs : List Loc), va_P D vwCl [(a_t, .inr (4, [o_t_most, .int t_width, .ref a_t_letters, .ref a_t_lengths, o_t_masks, .int t_size])), (a_p1, .inr (9, [.ref a_p1_bytes, o_p1_size, o_p1_at, o_p1_token, o_p1_from, o_p1_value])), (a_t_lengths, .inl (g.1 1, n_t_lengths, .inl t_lengths)), (a_t_letters, .inl (g.1 0, n_t_letters, .inl t_letters)), (a_p1_bytes, .inl (g.1 0, 320, .inl p1_bytes))] H → va_D A [(a_t, .inr (4, [o_t_most, .int t_width, .ref a_t_letters, .ref a_t_lengths, o_t_masks, .int t_size])), (a_p1, .inr (9, [.ref a_p1_bytes, o_p1_size, o_p1_at, o_p1_token, o_p1_from, o_p1_value])), (a_t_lengths, .inl (g.1 1, n_t_lengths, .inl t_lengths)), (a_t_letters, .inl (g.1 0, n_t_letters, .inl t_letters)), (a_p1_bytes, .inl (g.1 0, 320, .inl p1_bytes))] → va_S A s.heap H locs → ∀ (ls : Array Slot), lv_has ls 5 [(0, .ref a_t), (1, .ref a_p1), (2, .int x2), (3, .int x3), (4, .int x4)] → W p l e rmX4_firstLike s m args below meth c H locs 0 0 Q (F0 m 3 ls []) := by
    intro x2 x3
    intro n
    induction n with
    | zero => intro x4 h; exact h.elim
    | succ n ih =>
      intro x4 h H locs hP hD hS ls hl
      have h : F_X4_firstLike_3 n_t_lengths n_t_letters t_width t_size t_lengths t_letters p1_bytes x2 x3 post (fixN (F_X4_firstLike_3 n_t_lengths n_t_letters t_width t_size t_lengths t_letters p1_bytes x2 x3 post) n) x4 := h
      unfold F_X4_firstLike_3 at h
      try dsimp only at h
      refine lv_iload hx hb dX4_firstLike_3 (lv_at hl 4 rfl) ?_
      refine lv_aload_n hx hb dX4_firstLike_5 rfl (lv_at hl 0 rfl) ?_
      refine va_get (ci := 4) (v := .int t_size) (C := RX4) (T := TX4) (N := 6) hx hb hts icX4 hown hG.k hP 0 rfl rfl 5 (by decide) lk0 (fun _ h9 => h9) rfl dX4_firstLike_6 ?_
      refine lv_icmp_ge (tgt := 43) hx hb dX4_firstLike_9 (by decide) (fun c1 => ?_) (fun c1 => ?_)
      · have h := h.1 c1
        refine lv_iconst (v := (-1)) hx hb dX4_firstLike_43 (by decide) ?_
        exact hret ((-1)) _ _ _ _ _ ⟨rfl, h⟩ hP hD hS dX4_firstLike_44
      · have h := h.2 c1
        refine lv_aload_n hx hb dX4_firstLike_12 rfl (lv_at hl 0 rfl) ?_
        refine va_get (ci := 4) (v := .ref a_t_lengths) (C := RX4) (T := TX4) (N := 6) hx hb hts icX4 hown hG.k hP 0 rfl rfl 3 (by decide) lk1 (fun _ h9 => h9) rfl dX4_firstLike_13 ?_
        refine lv_iload hx hb dX4_firstLike_16 (lv_at hl 4 rfl) ?_
        obtain ⟨hv2, h⟩ := h
        refine va_iald hx hb hG.k hP 2 1 rfl rfl hv2 dX4_firstLike_18 ?_
        refine lv_iload_n hx hb dX4_firstLike_19 rfl (lv_at hl 3 rfl) ?_
        refine lv_icmp_ne (tgt := 37) hx hb dX4_firstLike_20 (by decide) (fun c3 => ?_) (fun c3 => ?_)
        · have h := h.1 c3
          refine lv_iinc (v := x4 + 1) (lv' := [(4, .int (x4 + 1)), (0, .ref a_t), (1, .ref a_p1), (2, .int x2), (3, .int x3)]) hx hb dX4_firstLike_37 hl (k := 4) rfl rfl (by decide) rfl (fun ls hl => ?_)
          refine lv_goto (tgt := 3) hx hb dX4_firstLike_40 (by decide) ?_
          exact ih (x4 + 1) h _ _ hP hD hS _ (lv_sub hl [1, 2, 3, 4, 0] rfl)
        · have h := h.2 c3
          refine lv_aload_n hx hb dX4_firstLike_23 rfl (lv_at hl 0 rfl) ?_
          refine lv_iload hx hb dX4_firstLike_24 (lv_at hl 4 rfl) ?_
          refine lv_aload_n hx hb dX4_firstLike_26 rfl (lv_at hl 1 rfl) ?_
          refine lv_iload_n hx hb dX4_firstLike_27 rfl (lv_at hl 2 rfl) ?_
          refine k_i (wr := []) hA hP hD hS [0, 1, 2, 3, 4] [] rfl rfl (by decide) (by decide) (va_runV (As := [.int x4, .ref a_p1, .int x2]) (rest := []) ⟨hx, hb, hml, hown, hts⟩ (c_X4_isLike l D g a_t a_p1 a_t_lengths a_t_letters a_p1_bytes (o_t_most) (o_t_masks) (.int t_size) (o_p1_size) (o_p1_at) (o_p1_token) (o_p1_from) (o_p1_value) n_t_lengths n_t_letters t_width t_lengths t_letters p1_bytes x4 x2 _ h H.size) (cwV 3 hts (gdV (inR_28 (List.mem_of_getElem? (i := 6) rfl)) (inR_28 (List.mem_of_getElem? (i := 7) rfl)) (inR_28 (List.mem_of_getElem? (i := 8) rfl)) (inR_5 (List.mem_of_getElem? (i := 2) rfl)) (inR_28 (List.mem_of_getElem? (i := 9) rfl))) rfl rfl rfl hdX4_isLike ⟨Nat.le_of_ble_eq_true rfl, Nat.le_of_ble_eq_true rfl⟩) (k_preV (q0 := 0) hG hA hP hD hS [0, 1, 2, 3, 4] rfl (by decide) rfl rfl) rfl rfl hl.1 rfl (lv_room (Nat.le_of_ble_eq_true rfl)) dX4_firstLike_28 ⟨Nat.zero_le _, Nat.zero_le _⟩) (fun r4 W' H locs h hP hD hS => ?_)
          obtain ⟨rfl, h⟩ := h
          have hP : va_P D vwCl [(a_t, .inr (4, [o_t_most, .int t_width, .ref a_t_letters, .ref a_t_lengths, o_t_masks, .int t_size])), (a_p1, .inr (9, [.ref a_p1_bytes, o_p1_size, o_p1_at, o_p1_token, o_p1_from, o_p1_value])), (a_t_lengths, .inl (g.1 1, n_t_lengths, .inl t_lengths)), (a_t_letters, .inl (g.1 0, n_t_letters, .inl t_letters)), (a_p1_bytes, .inl (g.1 0, 320, .inl p1_bytes))] H := hP.sub [0, 1, 2, 3, 4] rfl
          have hD : va_D A [(a_t, .inr (4, [o_t_most, .int t_width, .ref a_t_letters, .ref a_t_lengths, o_t_masks, .int t_size])), (a_p1, .inr (9, [.ref a_p1_bytes, o_p1_size, o_p1_at, o_p1_token, o_p1_from, o_p1_value])), (a_t_lengths, .inl (g.1 1, n_t_lengths, .inl t_lengths)), (a_t_letters, .inl (g.1 0, n_t_letters, .inl t_letters)), (a_p1_bytes, .inl (g.1 0, 320, .inl p1_bytes))] := hD.sub [0, 1, 2, 3, 4] (by decide) rfl
          refine lv_if_eq (tgt := 37) hx hb dX4_firstLike_31 (by decide) (fun c5 => ?_) (fun c5 => ?_)
          · have h := h.1 c5
            refine lv_iinc (v := x4 + 1) (lv' := [(4, .int (x4 + 1)), (0, .ref a_t), (1, .ref a_p1), (2, .int x2), (3, .int x3)]) hx hb dX4_firstLike_37 hl (k := 4) rfl rfl (by decide) rfl (fun ls hl => ?_)
            refine lv_goto (tgt := 3) hx hb dX4_firstLike_40 (by decide) ?_
            exact ih (x4 + 1) h _ _ hP hD hS _ (lv_sub hl [1, 2, 3, 4, 0] rfl)
          · have h := h.2 c5
            refine lv_iload hx hb dX4_firstLike_34 (lv_at hl 4 rfl) ?_
            exact hret x4 _ _ _ _ _ ⟨rfl, h⟩ hP hD hS dX4_firstLike_36
  unfold wp_X4_firstLike at h
  try dsimp only at h
  refine lv_iconst (v := 0) hx hb dX4_firstLike_0 (by decide) ?_
  refine lv_istore (lv' := [(4, .int 0), (0, .ref a_t), (1, .ref a_p1), (2, .int x2), (3, .int x3)]) hx hb dX4_firstLike_1 hl (by decide) rfl (fun ls hl => ?_)
  obtain ⟨n9, h⟩ := h
  exact L3 x2 x3 n9 0 h _ _ hP hD hS _ (lv_sub hl [1, 2, 3, 4, 0] rfl)
theorem hdX5_watch : yX5_watch.cls = RX5 ∧ yX5_watch.cls ≠ "java/lang/invoke/MethodHandle" ∧ yX5_watch.cls ≠ "java/lang/invoke/VarHandle" ∧ (parseMethodDescriptor yX5_watch.desc).map (fun d => d.parameters.length) = some 2 := by decide +kernel
abbrev rmX5_watch : Room := { frames := 1, cells := 0, slots := 0, locals := 100 }
set_option maxHeartbeats 4000000 in
set_option maxRecDepth 100000 in
theorem c_X5_watch (l : Launch) (D : va_G) (g : gE) (a_t : Nat) (a_t_watched : Nat) (t_watched : Nat → Int32) (x1 : Int32) (x2 : Int32) (post : (Nat → Int32) → Prop) (h : wp_X5_watch t_watched x1 x2 post) : Cv l D g yX5_watch (.code yX5_watch cX5_watch 4 none :: wsL_law) rmX5_watch [.ref a_t, .int x1, .int x2] [(a_t, .inr (5, [.ref a_t_watched])), (a_t_watched, .inl (g.1 0, 600, .inl t_watched))] (fun W' => ∃ (nw_t_watched : Nat → Int32), W' = [(a_t, .inr (5, [.ref a_t_watched])), (a_t_watched, .inl (g.1 0, 600, .inl nw_t_watched))] ∧ post nw_t_watched) := by
  refine Cv.of (cc := cX5_watch) (maxL := 4) (by decide) rfl (Nat.le_of_ble_eq_true rfl) ?_
  intro p e s m args below meth c A Q hx hb hml hts hown hA H locs hP hD hS hG ls hl hret
  have hown : s.vm.findClass RX5 = some m.cls := hown
  have hl : lv_has ls 4 [(0, .ref a_t), (1, .int x1), (2, .int x2)] := hl
  have lk0 := hts (.methodLink RX5 21 Lib.Math.max.name) (List.mem_cons_of_mem _ (inR_17 (List.mem_of_getElem? (i := 14) rfl)))
  have lk1 := hts (.static Lib.Math.max.name) (List.mem_cons_of_mem _ (inR_17 (List.mem_of_getElem? (i := 15) rfl)))
  have lk2 := hts (.initialized "java/lang/Math") (List.mem_cons_of_mem _ (inR_17 (List.mem_of_getElem? (i := 16) rfl)))
  have lk3 := hts (.code Lib.Math.max.name Lib.Math.max.code 2 (some .int)) (List.mem_cons_of_mem _ (inR_17 (List.mem_of_getElem? (i := 17) rfl)))
  have lk4 := hts (.fieldLink RX5 9 "KnockWall$Night" "watched" "[B") (List.mem_cons_of_mem _ (inR_5 (List.mem_of_getElem? (i := 23) rfl)))
  have L6 : ∀ (x1 : Int32) (x2 : Int32), ∀ (n : Nat) (x3 : Int32) (t_watched : Nat → Int32), fixN (F_X5_watch_6 x1 x2 post) n (x3, t_watched) → ∀ (H : Heap) (locs : List Loc), va_P D vwCl [(a_t, .inr (5, [.ref a_t_watched])), (a_t_watched, .inl (g.1 0, 600, .inl t_watched))] H → va_D A [(a_t, .inr (5, [.ref a_t_watched])), (a_t_watched, .inl (g.1 0, 600, .inl t_watched))] → va_S A s.heap H locs → ∀ (ls : Array Slot), lv_has ls 4 [(0, .ref a_t), (1, .int x1), (2, .int x2), (3, .int x3)] → W p l e rmX5_watch s m args below meth c H locs 0 0 Q (F0 m 6 ls []) := by
    intro x1 x2
    intro n
    induction n with
    | zero => intro x3 t_watched h; exact h.elim
    | succ n ih =>
      intro x3 t_watched h H locs hP hD hS ls hl
      have h : F_X5_watch_6 x1 x2 post (fixN (F_X5_watch_6 x1 x2 post) n) (x3, t_watched) := h
      unfold F_X5_watch_6 at h
      try dsimp only at h
      refine lv_iload_n hx hb dX5_watch_6 rfl (lv_at hl 3 rfl) ?_
      refine lv_iload_n hx hb dX5_watch_7 rfl (lv_at hl 1 rfl) ?_
      refine lv_iload_n hx hb dX5_watch_8 rfl (lv_at hl 2 rfl) ?_
      refine lv_iadd hx hb dX5_watch_9 ?_
      refine lv_icmp_ge (tgt := 33) hx hb dX5_watch_10 (by decide) (fun c1 => ?_) (fun c1 => ?_)
      · have h := h.1 c1
        exact hret _ _ _ _ _ ⟨t_watched, rfl, h⟩ hP hD hS dX5_watch_33
      · have h := h.2 c1
        refine lv_iload_n hx hb dX5_watch_13 rfl (lv_at hl 3 rfl) ?_
        refine lv_sipush (v := 600) hx hb dX5_watch_14 (by decide) ?_
        refine lv_icmp_ge (tgt := 33) hx hb dX5_watch_17 (by decide) (fun c2 => ?_) (fun c2 => ?_)
        · have h := h.1 c2
          exact hret _ _ _ _ _ ⟨t_watched, rfl, h⟩ hP hD hS dX5_watch_33
        · have h := h.2 c2
          refine lv_aload_n hx hb dX5_watch_20 rfl (lv_at hl 0 rfl) ?_
          refine va_get (ci := 5) (v := .ref a_t_watched) (C := RX5) (T := TX5) (N := 1) hx hb hts icX5 hown hG.k hP 0 rfl rfl 0 (by decide) lk4 (fun _ h9 => h9) rfl dX5_watch_21 ?_
          refine lv_iload_n hx hb dX5_watch_24 rfl (lv_at hl 3 rfl) ?_
          refine lv_iconst (v := 1) hx hb dX5_watch_25 (by decide) ?_
          obtain ⟨hv3, h⟩ := h
          refine va_bast hx hb hG.k hP hD hS 1 0 rfl rfl hv3 dX5_watch_26 (fun H locs hP hD hS => ?_)
          have hP : va_P D vwCl [(a_t, .inr (5, [.ref a_t_watched])), (a_t_watched, .inl (g.1 0, 600, .inl (upd t_watched x3.toNatClampNeg (vp_nar .byte 1))))] H := hP
          have hD : va_D A [(a_t, .inr (5, [.ref a_t_watched])), (a_t_watched, .inl (g.1 0, 600, .inl (upd t_watched x3.toNatClampNeg (vp_nar .byte 1))))] := hD
          refine lv_iinc (v := x3 + 1) (lv' := [(3, .int (x3 + 1)), (0, .ref a_t), (1, .int x1), (2, .int x2)]) hx hb dX5_watch_27 hl (k := 3) rfl rfl (by decide) rfl (fun ls hl => ?_)
          refine lv_goto (tgt := 6) hx hb dX5_watch_30 (by decide) ?_
          exact ih (x3 + 1) (upd t_watched x3.toNatClampNeg (vp_nar .byte 1)) h _ _ hP hD hS _ (lv_sub hl [1, 2, 3, 0] rfl)
  unfold wp_X5_watch at h
  try dsimp only at h
  refine lv_iconst (v := 0) hx hb dX5_watch_0 (by decide) ?_
  refine lv_iload_n hx hb dX5_watch_1 rfl (lv_at hl 1 rfl) ?_
  refine va_mmax hx hb (hml.trans hl.1.symm) hown lk0 lk1 lk2 lk3 (Nat.le_of_ble_eq_true rfl) (Nat.le_of_ble_eq_true rfl) (Nat.zero_le _) (Nat.zero_le _) dX5_watch_2 ?_
  refine lv_istore_n (lv' := [(3, .int (if (0 : Int32) < x1 then x1 else 0)), (0, .ref a_t), (1, .int x1), (2, .int x2)]) hx hb dX5_watch_5 rfl hl (by decide) rfl (fun ls hl => ?_)
  obtain ⟨n9, h⟩ := h
  exact L6 x1 x2 n9 (if (0 : Int32) < x1 then x1 else 0) t_watched h _ _ hP hD hS _ (lv_sub hl [1, 2, 3, 0] rfl)
theorem hdX5_watchedMinutes : yX5_watchedMinutes.cls = RX5 ∧ yX5_watchedMinutes.cls ≠ "java/lang/invoke/MethodHandle" ∧ yX5_watchedMinutes.cls ≠ "java/lang/invoke/VarHandle" ∧ (parseMethodDescriptor yX5_watchedMinutes.desc).map (fun d => d.parameters.length) = some 0 := by decide +kernel
abbrev rmX5_watchedMinutes : Room := { frames := 1, cells := 0, slots := 0, locals := 100 }
set_option maxHeartbeats 4000000 in
set_option maxRecDepth 100000 in
theorem c_X5_watchedMinutes (l : Launch) (D : va_G) (g : gE) (a_t : Nat) (a_t_watched : Nat) (t_watched : Nat → Int32) (post : Int32 → Prop) (h : wp_X5_watchedMinutes t_watched post) : Ci l D g yX5_watchedMinutes (.code yX5_watchedMinutes cX5_watchedMinutes 3 (some .int) :: wsL_law) rmX5_watchedMinutes [.ref a_t] [(a_t, .inr (5, [.ref a_t_watched])), (a_t_watched, .inl (g.1 0, 600, .inl t_watched))] (fun r W' => W' = [(a_t, .inr (5, [.ref a_t_watched])), (a_t_watched, .inl (g.1 0, 600, .inl t_watched))] ∧ post r) := by
  refine Ci.of (cc := cX5_watchedMinutes) (maxL := 3) (by decide) rfl (Nat.le_of_ble_eq_true rfl) ?_
  intro p e s m args below meth c A Q hx hb hml hts hown hA H locs hP hD hS hG ls hl hret
  have hown : s.vm.findClass RX5 = some m.cls := hown
  have hl : lv_has ls 3 [(0, .ref a_t)] := hl
  have lk0 := hts (.fieldLink RX5 9 "KnockWall$Night" "watched" "[B") (List.mem_cons_of_mem _ (inR_5 (List.mem_of_getElem? (i := 23) rfl)))
  have L4 : ∀ (n : Nat) (x1 : Int32) (x2 : Int32), fixN (F_X5_watchedMinutes_4 t_watched post) n (x1, x2) → ∀ (H : Heap) (locs : List Loc), va_P D vwCl [(a_t, .inr (5, [.ref a_t_watched])), (a_t_watched, .inl (g.1 0, 600, .inl t_watched))] H → va_D A [(a_t, .inr (5, [.ref a_t_watched])), (a_t_watched, .inl (g.1 0, 600, .inl t_watched))] → va_S A s.heap H locs → ∀ (ls : Array Slot), lv_has ls 3 [(0, .ref a_t), (1, .int x1), (2, .int x2)] → W p l e rmX5_watchedMinutes s m args below meth c H locs 0 0 Q (F0 m 4 ls []) := by
    intro n
    induction n with
    | zero => intro x1 x2 h; exact h.elim
    | succ n ih =>
      intro x1 x2 h H locs hP hD hS ls hl
      have h : F_X5_watchedMinutes_4 t_watched post (fixN (F_X5_watchedMinutes_4 t_watched post) n) (x1, x2) := h
      unfold F_X5_watchedMinutes_4 at h
      try dsimp only at h
      refine lv_iload_n hx hb dX5_watchedMinutes_4 rfl (lv_at hl 2 rfl) ?_
      refine lv_sipush (v := 600) hx hb dX5_watchedMinutes_5 (by decide) ?_
      refine lv_icmp_ge (tgt := 26) hx hb dX5_watchedMinutes_8 (by decide) (fun c1 => ?_) (fun c1 => ?_)
      · have h := h.1 c1
        refine lv_iload_n hx hb dX5_watchedMinutes_26 rfl (lv_at hl 1 rfl) ?_
        exact hret x1 _ _ _ _ _ ⟨rfl, h⟩ hP hD hS dX5_watchedMinutes_27
      · have h := h.2 c1
        refine lv_iload_n hx hb dX5_watchedMinutes_11 rfl (lv_at hl 1 rfl) ?_
        refine lv_aload_n hx hb dX5_watchedMinutes_12 rfl (lv_at hl 0 rfl) ?_
        refine va_get (ci := 5) (v := .ref a_t_watched) (C := RX5) (T := TX5) (N := 1) hx hb hts icX5 hown hG.k hP 0 rfl rfl 0 (by decide) lk0 (fun _ h9 => h9) rfl dX5_watchedMinutes_13 ?_
        refine lv_iload_n hx hb dX5_watchedMinutes_16 rfl (lv_at hl 2 rfl) ?_
        obtain ⟨hv2, h⟩ := h
        refine va_bald hx hb hG.k hP 1 0 rfl rfl hv2 dX5_watchedMinutes_17 ?_
        refine lv_iadd hx hb dX5_watchedMinutes_18 ?_
        refine lv_istore_n (lv' := [(1, .int (x1 + (t_watched x2.toNatClampNeg))), (0, .ref a_t), (2, .int x2)]) hx hb dX5_watchedMinutes_19 rfl hl (by decide) rfl (fun ls hl => ?_)
        refine lv_iinc (v := x2 + 1) (lv' := [(2, .int (x2 + 1)), (1, .int (x1 + (t_watched x2.toNatClampNeg))), (0, .ref a_t)]) hx hb dX5_watchedMinutes_20 hl (k := 2) rfl rfl (by decide) rfl (fun ls hl => ?_)
        refine lv_goto (tgt := 4) hx hb dX5_watchedMinutes_23 (by decide) ?_
        exact ih (x1 + (t_watched x2.toNatClampNeg)) (x2 + 1) h _ _ hP hD hS _ (lv_sub hl [2, 1, 0] rfl)
  unfold wp_X5_watchedMinutes at h
  try dsimp only at h
  refine lv_iconst (v := 0) hx hb dX5_watchedMinutes_0 (by decide) ?_
  refine lv_istore_n (lv' := [(1, .int 0), (0, .ref a_t)]) hx hb dX5_watchedMinutes_1 rfl hl (by decide) rfl (fun ls hl => ?_)
  refine lv_iconst (v := 0) hx hb dX5_watchedMinutes_2 (by decide) ?_
  refine lv_istore_n (lv' := [(2, .int 0), (1, .int 0), (0, .ref a_t)]) hx hb dX5_watchedMinutes_3 rfl hl (by decide) rfl (fun ls hl => ?_)
  obtain ⟨n9, h⟩ := h
  exact L4  n9 0 0 h _ _ hP hD hS _ (lv_sub hl [2, 1, 0] rfl)
theorem hdX5_firstFrom : yX5_firstFrom.cls = RX5 ∧ yX5_firstFrom.cls ≠ "java/lang/invoke/MethodHandle" ∧ yX5_firstFrom.cls ≠ "java/lang/invoke/VarHandle" ∧ (parseMethodDescriptor yX5_firstFrom.desc).map (fun d => d.parameters.length) = some 2 := by decide +kernel
abbrev rmX5_firstFrom : Room := { frames := 1, cells := 0, slots := 0, locals := 100 }
set_option maxHeartbeats 4000000 in
set_option maxRecDepth 100000 in
theorem c_X5_firstFrom (l : Launch) (D : va_G) (g : gE) (a_t : Nat) (a_t_watched : Nat) (t_watched : Nat → Int32) (x1 : Int32) (x2 : Int32) (post : Int32 → Prop) (h : wp_X5_firstFrom t_watched x1 x2 post) : Ci l D g yX5_firstFrom (.code yX5_firstFrom cX5_firstFrom 4 (some .int) :: wsL_law) rmX5_firstFrom [.ref a_t, .int x1, .int x2] [(a_t, .inr (5, [.ref a_t_watched])), (a_t_watched, .inl (g.1 0, 600, .inl t_watched))] (fun r W' => W' = [(a_t, .inr (5, [.ref a_t_watched])), (a_t_watched, .inl (g.1 0, 600, .inl t_watched))] ∧ post r) := by
  refine Ci.of (cc := cX5_firstFrom) (maxL := 4) (by decide) rfl (Nat.le_of_ble_eq_true rfl) ?_
  intro p e s m args below meth c A Q hx hb hml hts hown hA H locs hP hD hS hG ls hl hret
  have hown : s.vm.findClass RX5 = some m.cls := hown
  have hl : lv_has ls 4 [(0, .ref a_t), (1, .int x1), (2, .int x2)] := hl
  have lk0 := hts (.methodLink RX5 21 Lib.Math.max.name) (List.mem_cons_of_mem _ (inR_17 (List.mem_of_getElem? (i := 14) rfl)))
  have lk1 := hts (.static Lib.Math.max.name) (List.mem_cons_of_mem _ (inR_17 (List.mem_of_getElem? (i := 15) rfl)))
  have lk2 := hts (.initialized "java/lang/Math") (List.mem_cons_of_mem _ (inR_17 (List.mem_of_getElem? (i := 16) rfl)))
  have lk3 := hts (.code Lib.Math.max.name Lib.Math.max.code 2 (some .int)) (List.mem_cons_of_mem _ (inR_17 (List.mem_of_getElem? (i := 17) rfl)))
  have lk4 := hts (.fieldLink RX5 9 "KnockWall$Night" "watched" "[B") (List.mem_cons_of_mem _ (inR_5 (List.mem_of_getElem? (i := 23) rfl)))
  have L6 : ∀ (x2 : Int32), ∀ (n : Nat) (x3 : Int32), fixN (F_X5_firstFrom_6 t_watched x2 post) n x3 → ∀ (H : Heap) (locs : List Loc), va_P D vwCl [(a_t, .inr (5, [.ref a_t_watched])), (a_t_watched, .inl (g.1 0, 600, .inl t_watched))] H → va_D A [(a_t, .inr (5, [.ref a_t_watched])), (a_t_watched, .inl (g.1 0, 600, .inl t_watched))] → va_S A s.heap H locs → ∀ (ls : Array Slot), lv_has ls 4 [(0, .ref a_t), (2, .int x2), (3, .int x3)] → W p l e rmX5_firstFrom s m args below meth c H locs 0 0 Q (F0 m 6 ls []) := by
    intro x2
    intro n
    induction n with
    | zero => intro x3 h; exact h.elim
    | succ n ih =>
      intro x3 h H locs hP hD hS ls hl
      have h : F_X5_firstFrom_6 t_watched x2 post (fixN (F_X5_firstFrom_6 t_watched x2 post) n) x3 := h
      unfold F_X5_firstFrom_6 at h
      try dsimp only at h
      refine lv_iload_n hx hb dX5_firstFrom_6 rfl (lv_at hl 2 rfl) ?_
      refine lv_sipush (v := 600) hx hb dX5_firstFrom_7 (by decide) ?_
      refine lv_icmp_ge (tgt := 31) hx hb dX5_firstFrom_10 (by decide) (fun c1 => ?_) (fun c1 => ?_)
      · have h := h.1 c1
        refine lv_iconst (v := (-1)) hx hb dX5_firstFrom_31 (by decide) ?_
        exact hret ((-1)) _ _ _ _ _ ⟨rfl, h⟩ hP hD hS dX5_firstFrom_32
      · have h := h.2 c1
        refine lv_aload_n hx hb dX5_firstFrom_13 rfl (lv_at hl 0 rfl) ?_
        refine va_get (ci := 5) (v := .ref a_t_watched) (C := RX5) (T := TX5) (N := 1) hx hb hts icX5 hown hG.k hP 0 rfl rfl 0 (by decide) lk4 (fun _ h9 => h9) rfl dX5_firstFrom_14 ?_
        refine lv_iload_n hx hb dX5_firstFrom_17 rfl (lv_at hl 2 rfl) ?_
        obtain ⟨hv2, h⟩ := h
        refine va_bald hx hb hG.k hP 1 0 rfl rfl hv2 dX5_firstFrom_18 ?_
        refine lv_iload_n hx hb dX5_firstFrom_19 rfl (lv_at hl 1 rfl) ?_
        refine lv_icmp_ne (tgt := 25) hx hb dX5_firstFrom_20 (by decide) (fun c3 => ?_) (fun c3 => ?_)
        · have h := h.1 c3
          refine lv_iinc (v := x3 + 1) (lv' := [(3, .int (x3 + 1)), (0, .ref a_t), (2, .int x2)]) hx hb dX5_firstFrom_25 hl (k := 2) rfl rfl (by decide) rfl (fun ls hl => ?_)
          refine lv_goto (tgt := 6) hx hb dX5_firstFrom_28 (by decide) ?_
          exact ih (x3 + 1) h _ _ hP hD hS _ (lv_sub hl [1, 2, 0] rfl)
        · have h := h.2 c3
          refine lv_iload_n hx hb dX5_firstFrom_23 rfl (lv_at hl 2 rfl) ?_
          exact hret x3 _ _ _ _ _ ⟨rfl, h⟩ hP hD hS dX5_firstFrom_24
  unfold wp_X5_firstFrom at h
  try dsimp only at h
  refine lv_iconst (v := 0) hx hb dX5_firstFrom_0 (by decide) ?_
  refine lv_iload_n hx hb dX5_firstFrom_1 rfl (lv_at hl 1 rfl) ?_
  refine va_mmax hx hb (hml.trans hl.1.symm) hown lk0 lk1 lk2 lk3 (Nat.le_of_ble_eq_true rfl) (Nat.le_of_ble_eq_true rfl) (Nat.zero_le _) (Nat.zero_le _) dX5_firstFrom_2 ?_
  refine lv_istore_n (lv' := [(3, .int (if (0 : Int32) < x1 then x1 else 0)), (0, .ref a_t), (1, .int x1), (2, .int x2)]) hx hb dX5_firstFrom_5 rfl hl (by decide) rfl (fun ls hl => ?_)
  obtain ⟨n9, h⟩ := h
  exact L6 x2 n9 (if (0 : Int32) < x1 then x1 else 0) h _ _ hP hD hS _ (lv_sub hl [1, 3, 0] rfl)
theorem hdX5_firstRow : yX5_firstRow.cls = RX5 ∧ yX5_firstRow.cls ≠ "java/lang/invoke/MethodHandle" ∧ yX5_firstRow.cls ≠ "java/lang/invoke/VarHandle" ∧ (parseMethodDescriptor yX5_firstRow.desc).map (fun d => d.parameters.length) = some 2 := by decide +kernel
abbrev rmX5_firstRow : Room := { frames := 1, cells := 0, slots := 0, locals := 100 }
set_option maxHeartbeats 4000000 in
set_option maxRecDepth 100000 in
theorem c_X5_firstRow (l : Launch) (D : va_G) (g : gE) (a_t : Nat) (a_t_watched : Nat) (t_watched : Nat → Int32) (x1 : Int32) (x2 : Int32) (post : Int32 → Prop) (h : wp_X5_firstRow t_watched x1 x2 post) : Ci l D g yX5_firstRow (.code yX5_firstRow cX5_firstRow 5 (some .int) :: wsL_law) rmX5_firstRow [.ref a_t, .int x1, .int x2] [(a_t, .inr (5, [.ref a_t_watched])), (a_t_watched, .inl (g.1 0, 600, .inl t_watched))] (fun r W' => W' = [(a_t, .inr (5, [.ref a_t_watched])), (a_t_watched, .inl (g.1 0, 600, .inl t_watched))] ∧ post r) := by
  refine Ci.of (cc := cX5_firstRow) (maxL := 5) (by decide) rfl (Nat.le_of_ble_eq_true rfl) ?_
  intro p e s m args below meth c A Q hx hb hml hts hown hA H locs hP hD hS hG ls hl hret
  have hown : s.vm.findClass RX5 = some m.cls := hown
  have hl : lv_has ls 5 [(0, .ref a_t), (1, .int x1), (2, .int x2)] := hl
  have lk0 := hts (.methodLink RX5 21 Lib.Math.max.name) (List.mem_cons_of_mem _ (inR_17 (List.mem_of_getElem? (i := 14) rfl)))
  have lk1 := hts (.static Lib.Math.max.name) (List.mem_cons_of_mem _ (inR_17 (List.mem_of_getElem? (i := 15) rfl)))
  have lk2 := hts (.initialized "java/lang/Math") (List.mem_cons_of_mem _ (inR_17 (List.mem_of_getElem? (i := 16) rfl)))
  have lk3 := hts (.code Lib.Math.max.name Lib.Math.max.code 2 (some .int)) (List.mem_cons_of_mem _ (inR_17 (List.mem_of_getElem? (i := 17) rfl)))
  have lk4 := hts (.fieldLink RX5 9 "KnockWall$Night" "watched" "[B") (List.mem_cons_of_mem _ (inR_5 (List.mem_of_getElem? (i := 23) rfl)))
  have L34 : ∀ (x2 : Int32) (x4 : Int32) (z0 : Int32) (K_9 : (Int32 × Int32) → Prop) (hK_9 : ∀ (x3 : Int32) (x4 : Int32), K_9 (x3, x4) → ∀ (H : Heap) (locs : List Loc), va_P D vwCl [(a_t, .inr (5, [.ref a_t_watched])), (a_t_watched, .inl (g.1 0, 600, .inl t_watched))] H → va_D A [(a_t, .inr (5, [.ref a_t_watched])), (a_t_watched, .inl (g.1 0, 600, .inl t_watched))] → va_S A s.heap H locs → ∀ (ls : Array Slot), lv_has ls 5 [(0, .ref a_t), (2, .int x2), (3, .int x3), (4, .int x4)] → W p l e rmX5_firstRow s m args below meth c H locs 0 0 Q (F0 m 9 ls [])), B_X5_firstRow_34 x2 x4 z0 post K_9 → ∀ (H : Heap) (locs : List Loc), va_P D vwCl [(a_t, .inr (5, [.ref a_t_watched])), (a_t_watched, .inl (g.1 0, 600, .inl t_watched))] H → va_D A [(a_t, .inr (5, [.ref a_t_watched])), (a_t_watched, .inl (g.1 0, 600, .inl t_watched))] → va_S A s.heap H locs → ∀ (ls : Array Slot), lv_has ls 5 [(0, .ref a_t), (2, .int x2), (4, .int x4)] → W p l e rmX5_firstRow s m args below meth c H locs 0 0 Q (F0 m 34 ls [.int z0]) := by
    intro x2 x4 z0 K_9 hK_9
    intro h H locs hP hD hS ls hl
    unfold B_X5_firstRow_34 at h
    try dsimp only at h
    refine lv_istore_n (lv' := [(3, .int z0), (0, .ref a_t), (2, .int x2), (4, .int x4)]) hx hb dX5_firstRow_34 rfl hl (by decide) rfl (fun ls hl => ?_)
    refine lv_iload_n hx hb dX5_firstRow_35 rfl (lv_at hl 0 rfl) ?_
    refine lv_iload_n hx hb dX5_firstRow_36 rfl (lv_at hl 2 rfl) ?_
    refine lv_icmp_ne (tgt := 47) hx hb dX5_firstRow_37 (by decide) (fun c4 => ?_) (fun c4 => ?_)
    · have h := h.1 c4
      refine lv_iinc (v := x4 + 1) (lv' := [(4, .int (x4 + 1)), (3, .int z0), (0, .ref a_t), (2, .int x2)]) hx hb dX5_firstRow_47 hl (k := 3) rfl rfl (by decide) rfl (fun ls hl => ?_)
      refine lv_goto (tgt := 9) hx hb dX5_firstRow_50 (by decide) ?_
      exact hK_9 z0 (x4 + 1) h _ _ hP hD hS _ (lv_sub hl [2, 3, 1, 0] rfl)
    · have h := h.2 c4
      refine lv_iload hx hb dX5_firstRow_40 (lv_at hl 3 rfl) ?_
      refine lv_iload_n hx hb dX5_firstRow_42 rfl (lv_at hl 2 rfl) ?_
      refine lv_isub hx hb dX5_firstRow_43 ?_
      refine lv_iconst (v := 1) hx hb dX5_firstRow_44 (by decide) ?_
      refine lv_iadd hx hb dX5_firstRow_45 ?_
      exact hret ((x4 - x2) + 1) _ _ _ _ _ ⟨rfl, h⟩ hP hD hS dX5_firstRow_46
  have L9 : ∀ (x2 : Int32), ∀ (n : Nat) (x3 : Int32) (x4 : Int32), fixN (F_X5_firstRow_9 t_watched x2 post) n (x3, x4) → ∀ (H : Heap) (locs : List Loc), va_P D vwCl [(a_t, .inr (5, [.ref a_t_watched])), (a_t_watched, .inl (g.1 0, 600, .inl t_watched))] H → va_D A [(a_t, .inr (5, [.ref a_t_watched])), (a_t_watched, .inl (g.1 0, 600, .inl t_watched))] → va_S A s.heap H locs → ∀ (ls : Array Slot), lv_has ls 5 [(0, .ref a_t), (2, .int x2), (3, .int x3), (4, .int x4)] → W p l e rmX5_firstRow s m args below meth c H locs 0 0 Q (F0 m 9 ls []) := by
    intro x2
    intro n
    induction n with
    | zero => intro x3 x4 h; exact h.elim
    | succ n ih =>
      intro x3 x4 h H locs hP hD hS ls hl
      have h : F_X5_firstRow_9 t_watched x2 post (fixN (F_X5_firstRow_9 t_watched x2 post) n) (x3, x4) := h
      unfold F_X5_firstRow_9 at h
      try dsimp only at h
      refine lv_iload hx hb dX5_firstRow_9 (lv_at hl 3 rfl) ?_
      refine lv_sipush (v := 600) hx hb dX5_firstRow_11 (by decide) ?_
      refine lv_icmp_ge (tgt := 53) hx hb dX5_firstRow_14 (by decide) (fun c1 => ?_) (fun c1 => ?_)
      · have h := h.1 c1
        refine lv_iconst (v := (-1)) hx hb dX5_firstRow_53 (by decide) ?_
        exact hret ((-1)) _ _ _ _ _ ⟨rfl, h⟩ hP hD hS dX5_firstRow_54
      · have h := h.2 c1
        refine lv_aload_n hx hb dX5_firstRow_17 rfl (lv_at hl 0 rfl) ?_
        refine va_get (ci := 5) (v := .ref a_t_watched) (C := RX5) (T := TX5) (N := 1) hx hb hts icX5 hown hG.k hP 0 rfl rfl 0 (by decide) lk4 (fun _ h9 => h9) rfl dX5_firstRow_18 ?_
        refine lv_iload hx hb dX5_firstRow_21 (lv_at hl 3 rfl) ?_
        obtain ⟨hv2, h⟩ := h
        refine va_bald hx hb hG.k hP 1 0 rfl rfl hv2 dX5_firstRow_23 ?_
        refine lv_if_ne (tgt := 33) hx hb dX5_firstRow_24 (by decide) (fun c3 => ?_) (fun c3 => ?_)
        · have h := h.1 c3
          refine lv_iconst (v := 0) hx hb dX5_firstRow_33 (by decide) ?_
          exact L34 x2 x4 0 _ ih h _ _ hP hD hS _ (lv_sub hl [0, 1, 3] rfl)
        · have h := h.2 c3
          refine lv_iload_n hx hb dX5_firstRow_27 rfl (lv_at hl 2 rfl) ?_
          refine lv_iconst (v := 1) hx hb dX5_firstRow_28 (by decide) ?_
          refine lv_iadd hx hb dX5_firstRow_29 ?_
          refine lv_goto (tgt := 34) hx hb dX5_firstRow_30 (by decide) ?_
          exact L34 x2 x4 (x3 + 1) _ ih h _ _ hP hD hS _ (lv_sub hl [0, 1, 3] rfl)
  unfold wp_X5_firstRow at h
  try dsimp only at h
  refine lv_iconst (v := 0) hx hb dX5_firstRow_0 (by decide) ?_
  refine lv_istore_n (lv' := [(3, .int 0), (0, .ref a_t), (1, .int x1), (2, .int x2)]) hx hb dX5_firstRow_1 rfl hl (by decide) rfl (fun ls hl => ?_)
  refine lv_iconst (v := 0) hx hb dX5_firstRow_2 (by decide) ?_
  refine lv_iload_n hx hb dX5_firstRow_3 rfl (lv_at hl 2 rfl) ?_
  refine va_mmax hx hb (hml.trans hl.1.symm) hown lk0 lk1 lk2 lk3 (Nat.le_of_ble_eq_true rfl) (Nat.le_of_ble_eq_true rfl) (Nat.zero_le _) (Nat.zero_le _) dX5_firstRow_4 ?_
  refine lv_istore (lv' := [(4, .int (if (0 : Int32) < x1 then x1 else 0)), (3, .int 0), (0, .ref a_t), (1, .int x1), (2, .int x2)]) hx hb dX5_firstRow_7 hl (by decide) rfl (fun ls hl => ?_)
  obtain ⟨n9, h⟩ := h
  exact L9 x2 n9 0 (if (0 : Int32) < x1 then x1 else 0) h _ _ hP hD hS _ (lv_sub hl [2, 4, 1, 0] rfl)
theorem hdX5_rowsHeld : yX5_rowsHeld.cls = RX5 ∧ yX5_rowsHeld.cls ≠ "java/lang/invoke/MethodHandle" ∧ yX5_rowsHeld.cls ≠ "java/lang/invoke/VarHandle" ∧ (parseMethodDescriptor yX5_rowsHeld.desc).map (fun d => d.parameters.length) = some 1 := by decide +kernel
abbrev rmX5_rowsHeld : Room := { frames := 1, cells := 0, slots := 0, locals := 100 }
set_option maxHeartbeats 4000000 in
set_option maxRecDepth 100000 in
theorem c_X5_rowsHeld (l : Launch) (D : va_G) (g : gE) (a_t : Nat) (a_t_watched : Nat) (t_watched : Nat → Int32) (x1 : Int32) (post : Int32 → Prop) (h : wp_X5_rowsHeld t_watched x1 post) : Ci l D g yX5_rowsHeld (.code yX5_rowsHeld cX5_rowsHeld 5 (some .int) :: wsL_law) rmX5_rowsHeld [.ref a_t, .int x1] [(a_t, .inr (5, [.ref a_t_watched])), (a_t_watched, .inl (g.1 0, 600, .inl t_watched))] (fun r W' => W' = [(a_t, .inr (5, [.ref a_t_watched])), (a_t_watched, .inl (g.1 0, 600, .inl t_watched))] ∧ post r) := by
  refine Ci.of (cc := cX5_rowsHeld) (maxL := 5) (by decide) rfl (Nat.le_of_ble_eq_true rfl) ?_
  intro p e s m args below meth c A Q hx hb hml hts hown hA H locs hP hD hS hG ls hl hret
  have hown : s.vm.findClass RX5 = some m.cls := hown
  have hl : lv_has ls 5 [(0, .ref a_t), (1, .int x1)] := hl
  have lk0 := hts (.fieldLink RX5 9 "KnockWall$Night" "watched" "[B") (List.mem_cons_of_mem _ (inR_5 (List.mem_of_getElem? (i := 23) rfl)))
  have L32 : ∀ (x1 : Int32) (x2 : Int32) (x4 : Int32) (z0 : Int32) (K_7 : (Int32 × Int32 × Int32) → Prop) (hK_7 : ∀ (x2 : Int32) (x3 : Int32) (x4 : Int32), K_7 (x2, x3, x4) → ∀ (H : Heap) (locs : List Loc), va_P D vwCl [(a_t, .inr (5, [.ref a_t_watched])), (a_t_watched, .inl (g.1 0, 600, .inl t_watched))] H → va_D A [(a_t, .inr (5, [.ref a_t_watched])), (a_t_watched, .inl (g.1 0, 600, .inl t_watched))] → va_S A s.heap H locs → ∀ (ls : Array Slot), lv_has ls 5 [(0, .ref a_t), (1, .int x1), (2, .int x2), (3, .int x3), (4, .int x4)] → W p l e rmX5_rowsHeld s m args below meth c H locs 0 0 Q (F0 m 7 ls [])), B_X5_rowsHeld_32 x1 x2 x4 z0 K_7 → ∀ (H : Heap) (locs : List Loc), va_P D vwCl [(a_t, .inr (5, [.ref a_t_watched])), (a_t_watched, .inl (g.1 0, 600, .inl t_watched))] H → va_D A [(a_t, .inr (5, [.ref a_t_watched])), (a_t_watched, .inl (g.1 0, 600, .inl t_watched))] → va_S A s.heap H locs → ∀ (ls : Array Slot), lv_has ls 5 [(0, .ref a_t), (1, .int x1), (2, .int x2), (4, .int x4)] → W p l e rmX5_rowsHeld s m args below meth c H locs 0 0 Q (F0 m 32 ls [.int z0]) := by
    intro x1 x2 x4 z0 K_7 hK_7
    intro h H locs hP hD hS ls hl
    unfold B_X5_rowsHeld_32 at h
    try dsimp only at h
    refine lv_istore_n (lv' := [(3, .int z0), (0, .ref a_t), (1, .int x1), (2, .int x2), (4, .int x4)]) hx hb dX5_rowsHeld_32 rfl hl (by decide) rfl (fun ls hl => ?_)
    refine lv_iload_n hx hb dX5_rowsHeld_33 rfl (lv_at hl 0 rfl) ?_
    refine lv_iload_n hx hb dX5_rowsHeld_34 rfl (lv_at hl 2 rfl) ?_
    refine lv_icmp_ne (tgt := 43) hx hb dX5_rowsHeld_35 (by decide) (fun c4 => ?_) (fun c4 => ?_)
    · have h := h.1 c4
      refine lv_iinc (v := x4 + 1) (lv' := [(4, .int (x4 + 1)), (3, .int z0), (0, .ref a_t), (1, .int x1), (2, .int x2)]) hx hb dX5_rowsHeld_43 hl (k := 4) rfl rfl (by decide) rfl (fun ls hl => ?_)
      refine lv_goto (tgt := 7) hx hb dX5_rowsHeld_46 (by decide) ?_
      exact hK_7 x2 z0 (x4 + 1) h _ _ hP hD hS _ (lv_sub hl [2, 3, 4, 1, 0] rfl)
    · have h := h.2 c4
      refine lv_iinc (v := x2 + 1) (lv' := [(2, .int (x2 + 1)), (3, .int z0), (0, .ref a_t), (1, .int x1), (4, .int x4)]) hx hb dX5_rowsHeld_38 hl (k := 3) rfl rfl (by decide) rfl (fun ls hl => ?_)
      refine lv_iconst (v := 0) hx hb dX5_rowsHeld_41 (by decide) ?_
      refine lv_istore_n (lv' := [(3, .int 0), (2, .int (x2 + 1)), (0, .ref a_t), (1, .int x1), (4, .int x4)]) hx hb dX5_rowsHeld_42 rfl hl (by decide) rfl (fun ls hl => ?_)
      refine lv_iinc (v := x4 + 1) (lv' := [(4, .int (x4 + 1)), (3, .int 0), (2, .int (x2 + 1)), (0, .ref a_t), (1, .int x1)]) hx hb dX5_rowsHeld_43 hl (k := 4) rfl rfl (by decide) rfl (fun ls hl => ?_)
      refine lv_goto (tgt := 7) hx hb dX5_rowsHeld_46 (by decide) ?_
      exact hK_7 (x2 + 1) 0 (x4 + 1) h _ _ hP hD hS _ (lv_sub hl [3, 4, 2, 1, 0] rfl)
  have L7 : ∀ (x1 : Int32), ∀ (n : Nat) (x2 : Int32) (x3 : Int32) (x4 : Int32), fixN (F_X5_rowsHeld_7 t_watched x1 post) n (x2, x3, x4) → ∀ (H : Heap) (locs : List Loc), va_P D vwCl [(a_t, .inr (5, [.ref a_t_watched])), (a_t_watched, .inl (g.1 0, 600, .inl t_watched))] H → va_D A [(a_t, .inr (5, [.ref a_t_watched])), (a_t_watched, .inl (g.1 0, 600, .inl t_watched))] → va_S A s.heap H locs → ∀ (ls : Array Slot), lv_has ls 5 [(0, .ref a_t), (1, .int x1), (2, .int x2), (3, .int x3), (4, .int x4)] → W p l e rmX5_rowsHeld s m args below meth c H locs 0 0 Q (F0 m 7 ls []) := by
    intro x1
    intro n
    induction n with
    | zero => intro x2 x3 x4 h; exact h.elim
    | succ n ih =>
      intro x2 x3 x4 h H locs hP hD hS ls hl
      have h : F_X5_rowsHeld_7 t_watched x1 post (fixN (F_X5_rowsHeld_7 t_watched x1 post) n) (x2, x3, x4) := h
      unfold F_X5_rowsHeld_7 at h
      try dsimp only at h
      refine lv_iload hx hb dX5_rowsHeld_7 (lv_at hl 4 rfl) ?_
      refine lv_sipush (v := 600) hx hb dX5_rowsHeld_9 (by decide) ?_
      refine lv_icmp_ge (tgt := 49) hx hb dX5_rowsHeld_12 (by decide) (fun c1 => ?_) (fun c1 => ?_)
      · have h := h.1 c1
        refine lv_iload_n hx hb dX5_rowsHeld_49 rfl (lv_at hl 2 rfl) ?_
        exact hret x2 _ _ _ _ _ ⟨rfl, h⟩ hP hD hS dX5_rowsHeld_50
      · have h := h.2 c1
        refine lv_aload_n hx hb dX5_rowsHeld_15 rfl (lv_at hl 0 rfl) ?_
        refine va_get (ci := 5) (v := .ref a_t_watched) (C := RX5) (T := TX5) (N := 1) hx hb hts icX5 hown hG.k hP 0 rfl rfl 0 (by decide) lk0 (fun _ h9 => h9) rfl dX5_rowsHeld_16 ?_
        refine lv_iload hx hb dX5_rowsHeld_19 (lv_at hl 4 rfl) ?_
        obtain ⟨hv2, h⟩ := h
        refine va_bald hx hb hG.k hP 1 0 rfl rfl hv2 dX5_rowsHeld_21 ?_
        refine lv_if_ne (tgt := 31) hx hb dX5_rowsHeld_22 (by decide) (fun c3 => ?_) (fun c3 => ?_)
        · have h := h.1 c3
          refine lv_iconst (v := 0) hx hb dX5_rowsHeld_31 (by decide) ?_
          exact L32 x1 x2 x4 0 _ ih h _ _ hP hD hS _ (lv_sub hl [0, 1, 2, 4] rfl)
        · have h := h.2 c3
          refine lv_iload_n hx hb dX5_rowsHeld_25 rfl (lv_at hl 3 rfl) ?_
          refine lv_iconst (v := 1) hx hb dX5_rowsHeld_26 (by decide) ?_
          refine lv_iadd hx hb dX5_rowsHeld_27 ?_
          refine lv_goto (tgt := 32) hx hb dX5_rowsHeld_28 (by decide) ?_
          exact L32 x1 x2 x4 (x3 + 1) _ ih h _ _ hP hD hS _ (lv_sub hl [0, 1, 2, 4] rfl)
  unfold wp_X5_rowsHeld at h
  try dsimp only at h
  refine lv_iconst (v := 0) hx hb dX5_rowsHeld_0 (by decide) ?_
  refine lv_istore_n (lv' := [(2, .int 0), (0, .ref a_t), (1, .int x1)]) hx hb dX5_rowsHeld_1 rfl hl (by decide) rfl (fun ls hl => ?_)
  refine lv_iconst (v := 0) hx hb dX5_rowsHeld_2 (by decide) ?_
  refine lv_istore_n (lv' := [(3, .int 0), (2, .int 0), (0, .ref a_t), (1, .int x1)]) hx hb dX5_rowsHeld_3 rfl hl (by decide) rfl (fun ls hl => ?_)
  refine lv_iconst (v := 0) hx hb dX5_rowsHeld_4 (by decide) ?_
  refine lv_istore (lv' := [(4, .int 0), (3, .int 0), (2, .int 0), (0, .ref a_t), (1, .int x1)]) hx hb dX5_rowsHeld_5 hl (by decide) rfl (fun ls hl => ?_)
  obtain ⟨n9, h⟩ := h
  exact L7 x1 n9 0 0 0 h _ _ hP hD hS _ (lv_sub hl [3, 4, 2, 1, 0] rfl)
theorem hdX5_longestRow : yX5_longestRow.cls = RX5 ∧ yX5_longestRow.cls ≠ "java/lang/invoke/MethodHandle" ∧ yX5_longestRow.cls ≠ "java/lang/invoke/VarHandle" ∧ (parseMethodDescriptor yX5_longestRow.desc).map (fun d => d.parameters.length) = some 0 := by decide +kernel
abbrev rmX5_longestRow : Room := { frames := 1, cells := 0, slots := 0, locals := 100 }
set_option maxHeartbeats 4000000 in
set_option maxRecDepth 100000 in
theorem c_X5_longestRow (l : Launch) (D : va_G) (g : gE) (a_t : Nat) (a_t_watched : Nat) (t_watched : Nat → Int32) (post : Int32 → Prop) (h : wp_X5_longestRow t_watched post) : Ci l D g yX5_longestRow (.code yX5_longestRow cX5_longestRow 4 (some .int) :: wsL_law) rmX5_longestRow [.ref a_t] [(a_t, .inr (5, [.ref a_t_watched])), (a_t_watched, .inl (g.1 0, 600, .inl t_watched))] (fun r W' => W' = [(a_t, .inr (5, [.ref a_t_watched])), (a_t_watched, .inl (g.1 0, 600, .inl t_watched))] ∧ post r) := by
  refine Ci.of (cc := cX5_longestRow) (maxL := 4) (by decide) rfl (Nat.le_of_ble_eq_true rfl) ?_
  intro p e s m args below meth c A Q hx hb hml hts hown hA H locs hP hD hS hG ls hl hret
  have hown : s.vm.findClass RX5 = some m.cls := hown
  have hl : lv_has ls 4 [(0, .ref a_t)] := hl
  have lk0 := hts (.fieldLink RX5 9 "KnockWall$Night" "watched" "[B") (List.mem_cons_of_mem _ (inR_5 (List.mem_of_getElem? (i := 23) rfl)))
  have lk1 := hts (.methodLink RX5 21 Lib.Math.max.name) (List.mem_cons_of_mem _ (inR_17 (List.mem_of_getElem? (i := 14) rfl)))
  have lk2 := hts (.static Lib.Math.max.name) (List.mem_cons_of_mem _ (inR_17 (List.mem_of_getElem? (i := 15) rfl)))
  have lk3 := hts (.initialized "java/lang/Math") (List.mem_cons_of_mem _ (inR_17 (List.mem_of_getElem? (i := 16) rfl)))
  have lk4 := hts (.code Lib.Math.max.name Lib.Math.max.code 2 (some .int)) (List.mem_cons_of_mem _ (inR_17 (List.mem_of_getElem? (i := 17) rfl)))
  have L29 : ∀ (x1 : Int32) (x3 : Int32) (z0 : Int32) (K_6 : (Int32 × Int32 × Int32) → Prop) (hK_6 : ∀ (x1 : Int32) (x2 : Int32) (x3 : Int32), K_6 (x1, x2, x3) → ∀ (H : Heap) (locs : List Loc), va_P D vwCl [(a_t, .inr (5, [.ref a_t_watched])), (a_t_watched, .inl (g.1 0, 600, .inl t_watched))] H → va_D A [(a_t, .inr (5, [.ref a_t_watched])), (a_t_watched, .inl (g.1 0, 600, .inl t_watched))] → va_S A s.heap H locs → ∀ (ls : Array Slot), lv_has ls 4 [(0, .ref a_t), (1, .int x1), (2, .int x2), (3, .int x3)] → W p l e rmX5_longestRow s m args below meth c H locs 0 0 Q (F0 m 6 ls [])), B_X5_longestRow_29 x1 x3 z0 K_6 → ∀ (H : Heap) (locs : List Loc), va_P D vwCl [(a_t, .inr (5, [.ref a_t_watched])), (a_t_watched, .inl (g.1 0, 600, .inl t_watched))] H → va_D A [(a_t, .inr (5, [.ref a_t_watched])), (a_t_watched, .inl (g.1 0, 600, .inl t_watched))] → va_S A s.heap H locs → ∀ (ls : Array Slot), lv_has ls 4 [(0, .ref a_t), (1, .int x1), (3, .int x3)] → W p l e rmX5_longestRow s m args below meth c H locs 0 0 Q (F0 m 29 ls [.int z0]) := by
    intro x1 x3 z0 K_6 hK_6
    intro h H locs hP hD hS ls hl
    unfold B_X5_longestRow_29 at h
    try dsimp only at h
    refine lv_istore_n (lv' := [(2, .int z0), (0, .ref a_t), (1, .int x1), (3, .int x3)]) hx hb dX5_longestRow_29 rfl hl (by decide) rfl (fun ls hl => ?_)
    refine lv_iload_n hx hb dX5_longestRow_30 rfl (lv_at hl 2 rfl) ?_
    refine lv_iload_n hx hb dX5_longestRow_31 rfl (lv_at hl 0 rfl) ?_
    refine va_mmax hx hb (hml.trans hl.1.symm) hown lk1 lk2 lk3 lk4 (Nat.le_of_ble_eq_true rfl) (Nat.le_of_ble_eq_true rfl) (Nat.zero_le _) (Nat.zero_le _) dX5_longestRow_32 ?_
    refine lv_istore_n (lv' := [(1, .int (if (x1 : Int32) < z0 then z0 else x1)), (2, .int z0), (0, .ref a_t), (3, .int x3)]) hx hb dX5_longestRow_35 rfl hl (by decide) rfl (fun ls hl => ?_)
    refine lv_iinc (v := x3 + 1) (lv' := [(3, .int (x3 + 1)), (1, .int (if (x1 : Int32) < z0 then z0 else x1)), (2, .int z0), (0, .ref a_t)]) hx hb dX5_longestRow_36 hl (k := 3) rfl rfl (by decide) rfl (fun ls hl => ?_)
    refine lv_goto (tgt := 6) hx hb dX5_longestRow_39 (by decide) ?_
    exact hK_6 (if (x1 : Int32) < z0 then z0 else x1) z0 (x3 + 1) h _ _ hP hD hS _ (lv_sub hl [3, 1, 2, 0] rfl)
  have L6 : ∀ (n : Nat) (x1 : Int32) (x2 : Int32) (x3 : Int32), fixN (F_X5_longestRow_6 t_watched post) n (x1, x2, x3) → ∀ (H : Heap) (locs : List Loc), va_P D vwCl [(a_t, .inr (5, [.ref a_t_watched])), (a_t_watched, .inl (g.1 0, 600, .inl t_watched))] H → va_D A [(a_t, .inr (5, [.ref a_t_watched])), (a_t_watched, .inl (g.1 0, 600, .inl t_watched))] → va_S A s.heap H locs → ∀ (ls : Array Slot), lv_has ls 4 [(0, .ref a_t), (1, .int x1), (2, .int x2), (3, .int x3)] → W p l e rmX5_longestRow s m args below meth c H locs 0 0 Q (F0 m 6 ls []) := by
    intro n
    induction n with
    | zero => intro x1 x2 x3 h; exact h.elim
    | succ n ih =>
      intro x1 x2 x3 h H locs hP hD hS ls hl
      have h : F_X5_longestRow_6 t_watched post (fixN (F_X5_longestRow_6 t_watched post) n) (x1, x2, x3) := h
      unfold F_X5_longestRow_6 at h
      try dsimp only at h
      refine lv_iload_n hx hb dX5_longestRow_6 rfl (lv_at hl 3 rfl) ?_
      refine lv_sipush (v := 600) hx hb dX5_longestRow_7 (by decide) ?_
      refine lv_icmp_ge (tgt := 42) hx hb dX5_longestRow_10 (by decide) (fun c1 => ?_) (fun c1 => ?_)
      · have h := h.1 c1
        refine lv_iload_n hx hb dX5_longestRow_42 rfl (lv_at hl 1 rfl) ?_
        exact hret x1 _ _ _ _ _ ⟨rfl, h⟩ hP hD hS dX5_longestRow_43
      · have h := h.2 c1
        refine lv_aload_n hx hb dX5_longestRow_13 rfl (lv_at hl 0 rfl) ?_
        refine va_get (ci := 5) (v := .ref a_t_watched) (C := RX5) (T := TX5) (N := 1) hx hb hts icX5 hown hG.k hP 0 rfl rfl 0 (by decide) lk0 (fun _ h9 => h9) rfl dX5_longestRow_14 ?_
        refine lv_iload_n hx hb dX5_longestRow_17 rfl (lv_at hl 3 rfl) ?_
        obtain ⟨hv2, h⟩ := h
        refine va_bald hx hb hG.k hP 1 0 rfl rfl hv2 dX5_longestRow_18 ?_
        refine lv_if_ne (tgt := 28) hx hb dX5_longestRow_19 (by decide) (fun c3 => ?_) (fun c3 => ?_)
        · have h := h.1 c3
          refine lv_iconst (v := 0) hx hb dX5_longestRow_28 (by decide) ?_
          exact L29 x1 x3 0 _ ih h _ _ hP hD hS _ (lv_sub hl [0, 1, 3] rfl)
        · have h := h.2 c3
          refine lv_iload_n hx hb dX5_longestRow_22 rfl (lv_at hl 2 rfl) ?_
          refine lv_iconst (v := 1) hx hb dX5_longestRow_23 (by decide) ?_
          refine lv_iadd hx hb dX5_longestRow_24 ?_
          refine lv_goto (tgt := 29) hx hb dX5_longestRow_25 (by decide) ?_
          exact L29 x1 x3 (x2 + 1) _ ih h _ _ hP hD hS _ (lv_sub hl [0, 1, 3] rfl)
  unfold wp_X5_longestRow at h
  try dsimp only at h
  refine lv_iconst (v := 0) hx hb dX5_longestRow_0 (by decide) ?_
  refine lv_istore_n (lv' := [(1, .int 0), (0, .ref a_t)]) hx hb dX5_longestRow_1 rfl hl (by decide) rfl (fun ls hl => ?_)
  refine lv_iconst (v := 0) hx hb dX5_longestRow_2 (by decide) ?_
  refine lv_istore_n (lv' := [(2, .int 0), (1, .int 0), (0, .ref a_t)]) hx hb dX5_longestRow_3 rfl hl (by decide) rfl (fun ls hl => ?_)
  refine lv_iconst (v := 0) hx hb dX5_longestRow_4 (by decide) ?_
  refine lv_istore_n (lv' := [(3, .int 0), (2, .int 0), (1, .int 0), (0, .ref a_t)]) hx hb dX5_longestRow_5 rfl hl (by decide) rfl (fun ls hl => ?_)
  obtain ⟨n9, h⟩ := h
  exact L6  n9 0 0 0 h _ _ hP hD hS _ (lv_sub hl [3, 2, 1, 0] rfl)
theorem hdX9_nextNumber : yX9_nextNumber.cls = RX9 ∧ yX9_nextNumber.cls ≠ "java/lang/invoke/MethodHandle" ∧ yX9_nextNumber.cls ≠ "java/lang/invoke/VarHandle" ∧ (parseMethodDescriptor yX9_nextNumber.desc).map (fun d => d.parameters.length) = some 0 := by decide +kernel
abbrev rmX9_nextNumber : Room := { frames := 1, cells := 0, slots := 0, locals := 100 }
set_option maxHeartbeats 4000000 in
set_option maxRecDepth 100000 in
theorem c_X9_nextNumber (l : Launch) (D : va_G) (g : gE) (a_t : Nat) (a_t_bytes : Nat) (t_size : Int32) (t_at : Int32) (t_token : Int32) (t_from : Int32) (t_value : Int32) (t_bytes : Nat → Int32) (post : Int32 → Int32 → Int32 → Prop) (h : wp_X9_nextNumber t_size t_at t_token t_from t_value t_bytes post) : Cv l D g yX9_nextNumber (.code yX9_nextNumber cX9_nextNumber 1 none :: wsL_law) rmX9_nextNumber [.ref a_t] [(a_t, .inr (9, [.ref a_t_bytes, .int t_size, .int t_at, .int t_token, .int t_from, .int t_value])), (a_t_bytes, .inl (g.1 0, 320, .inl t_bytes))] (fun W' => ∃ (nw_t_at : Int32) (nw_t_token : Int32) (nw_t_value : Int32), W' = [(a_t, .inr (9, [.ref a_t_bytes, .int t_size, .int nw_t_at, .int nw_t_token, .int t_from, .int nw_t_value])), (a_t_bytes, .inl (g.1 0, 320, .inl t_bytes))] ∧ post nw_t_at nw_t_token nw_t_value) := by
  refine Cv.of (cc := cX9_nextNumber) (maxL := 1) (by decide) rfl (Nat.le_of_ble_eq_true rfl) ?_
  intro p e s m args below meth c A Q hx hb hml hts hown hA H locs hP hD hS hG ls hl hret
  have hown : s.vm.findClass RX9 = some m.cls := hown
  have hl : lv_has ls 1 [(0, .ref a_t)] := hl
  have lk0 := hts (.fieldLink RX9 35 "KnockWall$Tape" "value" "I") (List.mem_cons_of_mem _ (inR_11 (List.mem_of_getElem? (i := 9) rfl)))
  have lk1 := hts (.fieldLink RX9 19 "KnockWall$Tape" "at" "I") (List.mem_cons_of_mem _ (inR_11 (List.mem_of_getElem? (i := 1) rfl)))
  have lk2 := hts (.fieldLink RX9 15 "KnockWall$Tape" "size" "I") (List.mem_cons_of_mem _ (inR_9 (List.mem_of_getElem? (i := 11) rfl)))
  have lk3 := hts (.fieldLink RX9 22 "KnockWall$Tape" "from" "I") (List.mem_cons_of_mem _ (inR_11 (List.mem_of_getElem? (i := 2) rfl)))
  have lk4 := hts (.fieldLink RX9 25 "KnockWall$Tape" "token" "I") (List.mem_cons_of_mem _ (inR_11 (List.mem_of_getElem? (i := 3) rfl)))
  have lk5 := hts (.fieldLink RX9 9 "KnockWall$Tape" "bytes" "[B") (List.mem_cons_of_mem _ (inR_3 (List.mem_of_getElem? (i := 10) rfl)))
  have L85 : ∀ (t_at : Int32) (t_token : Int32) (t_value : Int32), B_X9_nextNumber_85 t_from t_at t_value post → ∀ (H : Heap) (locs : List Loc), va_P D vwCl [(a_t, .inr (9, [.ref a_t_bytes, .int t_size, .int t_at, .int t_token, .int t_from, .int t_value])), (a_t_bytes, .inl (g.1 0, 320, .inl t_bytes))] H → va_D A [(a_t, .inr (9, [.ref a_t_bytes, .int t_size, .int t_at, .int t_token, .int t_from, .int t_value])), (a_t_bytes, .inl (g.1 0, 320, .inl t_bytes))] → va_S A s.heap H locs → ∀ (ls : Array Slot), lv_has ls 1 [(0, .ref a_t)] → W p l e rmX9_nextNumber s m args below meth c H locs 0 0 Q (F0 m 85 ls []) := by
    intro t_at t_token t_value
    intro h H locs hP hD hS ls hl
    unfold B_X9_nextNumber_85 at h
    try dsimp only at h
    refine lv_aload_n hx hb dX9_nextNumber_85 rfl (lv_at hl 0 rfl) ?_
    refine lv_aload_n hx hb dX9_nextNumber_86 rfl (lv_at hl 0 rfl) ?_
    refine va_get (ci := 9) (v := .int t_at) (C := RX9) (T := TX9) (N := 6) hx hb hts icX9 hown hG.k hP 0 rfl rfl 2 (by decide) lk1 (fun _ h9 => h9) rfl dX9_nextNumber_87 ?_
    refine lv_aload_n hx hb dX9_nextNumber_90 rfl (lv_at hl 0 rfl) ?_
    refine va_get (ci := 9) (v := .int t_from) (C := RX9) (T := TX9) (N := 6) hx hb hts icX9 hown hG.k hP 0 rfl rfl 4 (by decide) lk3 (fun _ h9 => h9) rfl dX9_nextNumber_91 ?_
    refine lv_icmp_le (tgt := 114) hx hb dX9_nextNumber_94 (by decide) (fun c2 => ?_) (fun c2 => ?_)
    · have h := h.1 c2
      refine lv_iconst (v := 0) hx hb dX9_nextNumber_114 (by decide) ?_
      refine va_put (ci := 9) (v := .int 0) (C := RX9) (T := TX9) (N := 6) hx hb hts icX9 tyX9 tyX9_ok nmX9 hown hG.k hP hD hS 0 rfl rfl 3 (by decide) lk4 (fun _ h9 => h9) rfl (tyX9_ok 3 (by decide)) rfl rfl (Nat.le_of_ble_eq_true rfl) dX9_nextNumber_115 (fun H locs hP hD hS => ?_)
      have hP : va_P D vwCl [(a_t, .inr (9, [.ref a_t_bytes, .int t_size, .int t_at, .int 0, .int t_from, .int t_value])), (a_t_bytes, .inl (g.1 0, 320, .inl t_bytes))] H := hP
      have hD : va_D A [(a_t, .inr (9, [.ref a_t_bytes, .int t_size, .int t_at, .int 0, .int t_from, .int t_value])), (a_t_bytes, .inl (g.1 0, 320, .inl t_bytes))] := hD
      exact hret _ _ _ _ _ ⟨t_at, 0, t_value, rfl, h⟩ hP hD hS dX9_nextNumber_118
    · have h := h.2 c2
      refine lv_aload_n hx hb dX9_nextNumber_97 rfl (lv_at hl 0 rfl) ?_
      refine va_get (ci := 9) (v := .int t_at) (C := RX9) (T := TX9) (N := 6) hx hb hts icX9 hown hG.k hP 0 rfl rfl 2 (by decide) lk1 (fun _ h9 => h9) rfl dX9_nextNumber_98 ?_
      refine lv_aload_n hx hb dX9_nextNumber_101 rfl (lv_at hl 0 rfl) ?_
      refine va_get (ci := 9) (v := .int t_from) (C := RX9) (T := TX9) (N := 6) hx hb hts icX9 hown hG.k hP 0 rfl rfl 4 (by decide) lk3 (fun _ h9 => h9) rfl dX9_nextNumber_102 ?_
      refine lv_isub hx hb dX9_nextNumber_105 ?_
      refine lv_iconst (v := 3) hx hb dX9_nextNumber_106 (by decide) ?_
      refine lv_icmp_gt (tgt := 114) hx hb dX9_nextNumber_107 (by decide) (fun c3 => ?_) (fun c3 => ?_)
      · have h := h.1 c3
        refine lv_iconst (v := 0) hx hb dX9_nextNumber_114 (by decide) ?_
        refine va_put (ci := 9) (v := .int 0) (C := RX9) (T := TX9) (N := 6) hx hb hts icX9 tyX9 tyX9_ok nmX9 hown hG.k hP hD hS 0 rfl rfl 3 (by decide) lk4 (fun _ h9 => h9) rfl (tyX9_ok 3 (by decide)) rfl rfl (Nat.le_of_ble_eq_true rfl) dX9_nextNumber_115 (fun H locs hP hD hS => ?_)
        have hP : va_P D vwCl [(a_t, .inr (9, [.ref a_t_bytes, .int t_size, .int t_at, .int 0, .int t_from, .int t_value])), (a_t_bytes, .inl (g.1 0, 320, .inl t_bytes))] H := hP
        have hD : va_D A [(a_t, .inr (9, [.ref a_t_bytes, .int t_size, .int t_at, .int 0, .int t_from, .int t_value])), (a_t_bytes, .inl (g.1 0, 320, .inl t_bytes))] := hD
        exact hret _ _ _ _ _ ⟨t_at, 0, t_value, rfl, h⟩ hP hD hS dX9_nextNumber_118
      · have h := h.2 c3
        refine lv_iconst (v := 3) hx hb dX9_nextNumber_110 (by decide) ?_
        refine lv_goto (tgt := 115) hx hb dX9_nextNumber_111 (by decide) ?_
        refine va_put (ci := 9) (v := .int 3) (C := RX9) (T := TX9) (N := 6) hx hb hts icX9 tyX9 tyX9_ok nmX9 hown hG.k hP hD hS 0 rfl rfl 3 (by decide) lk4 (fun _ h9 => h9) rfl (tyX9_ok 3 (by decide)) rfl rfl (Nat.le_of_ble_eq_true rfl) dX9_nextNumber_115 (fun H locs hP hD hS => ?_)
        have hP : va_P D vwCl [(a_t, .inr (9, [.ref a_t_bytes, .int t_size, .int t_at, .int 3, .int t_from, .int t_value])), (a_t_bytes, .inl (g.1 0, 320, .inl t_bytes))] H := hP
        have hD : va_D A [(a_t, .inr (9, [.ref a_t_bytes, .int t_size, .int t_at, .int 3, .int t_from, .int t_value])), (a_t_bytes, .inl (g.1 0, 320, .inl t_bytes))] := hD
        exact hret _ _ _ _ _ ⟨t_at, 3, t_value, rfl, h⟩ hP hD hS dX9_nextNumber_118
  have L5 : ∀ (t_token : Int32), ∀ (n : Nat) (t_at : Int32) (t_value : Int32), fixN (F_X9_nextNumber_5 t_size t_from t_bytes post) n (t_at, t_value) → ∀ (H : Heap) (locs : List Loc), va_P D vwCl [(a_t, .inr (9, [.ref a_t_bytes, .int t_size, .int t_at, .int t_token, .int t_from, .int t_value])), (a_t_bytes, .inl (g.1 0, 320, .inl t_bytes))] H → va_D A [(a_t, .inr (9, [.ref a_t_bytes, .int t_size, .int t_at, .int t_token, .int t_from, .int t_value])), (a_t_bytes, .inl (g.1 0, 320, .inl t_bytes))] → va_S A s.heap H locs → ∀ (ls : Array Slot), lv_has ls 1 [(0, .ref a_t)] → W p l e rmX9_nextNumber s m args below meth c H locs 0 0 Q (F0 m 5 ls []) := by
    intro t_token
    intro n
    induction n with
    | zero => intro t_at t_value h; exact h.elim
    | succ n ih =>
      intro t_at t_value h H locs hP hD hS ls hl
      have h : F_X9_nextNumber_5 t_size t_from t_bytes post (fixN (F_X9_nextNumber_5 t_size t_from t_bytes post) n) (t_at, t_value) := h
      unfold F_X9_nextNumber_5 at h
      try dsimp only at h
      refine lv_aload_n hx hb dX9_nextNumber_5 rfl (lv_at hl 0 rfl) ?_
      refine va_get (ci := 9) (v := .int t_at) (C := RX9) (T := TX9) (N := 6) hx hb hts icX9 hown hG.k hP 0 rfl rfl 2 (by decide) lk1 (fun _ h9 => h9) rfl dX9_nextNumber_6 ?_
      refine lv_aload_n hx hb dX9_nextNumber_9 rfl (lv_at hl 0 rfl) ?_
      refine va_get (ci := 9) (v := .int t_size) (C := RX9) (T := TX9) (N := 6) hx hb hts icX9 hown hG.k hP 0 rfl rfl 1 (by decide) lk2 (fun _ h9 => h9) rfl dX9_nextNumber_10 ?_
      refine lv_icmp_ge (tgt := 85) hx hb dX9_nextNumber_13 (by decide) (fun c1 => ?_) (fun c1 => ?_)
      · have h := h.1 c1
        exact L85 t_at t_token t_value h _ _ hP hD hS _ (lv_sub hl [0] rfl)
      · have h := h.2 c1
        refine lv_aload_n hx hb dX9_nextNumber_16 rfl (lv_at hl 0 rfl) ?_
        refine va_get (ci := 9) (v := .ref a_t_bytes) (C := RX9) (T := TX9) (N := 6) hx hb hts icX9 hown hG.k hP 0 rfl rfl 0 (by decide) lk5 (fun _ h9 => h9) rfl dX9_nextNumber_17 ?_
        refine lv_aload_n hx hb dX9_nextNumber_20 rfl (lv_at hl 0 rfl) ?_
        refine va_get (ci := 9) (v := .int t_at) (C := RX9) (T := TX9) (N := 6) hx hb hts icX9 hown hG.k hP 0 rfl rfl 2 (by decide) lk1 (fun _ h9 => h9) rfl dX9_nextNumber_21 ?_
        obtain ⟨hv4, h⟩ := h
        refine va_bald hx hb hG.k hP 1 0 rfl rfl hv4 dX9_nextNumber_24 ?_
        refine lv_bipush (v := 48) hx hb dX9_nextNumber_25 (by decide) ?_
        refine lv_icmp_lt (tgt := 85) hx hb dX9_nextNumber_27 (by decide) (fun c5 => ?_) (fun c5 => ?_)
        · have h := h.1 c5
          exact L85 t_at t_token t_value h _ _ hP hD hS _ (lv_sub hl [0] rfl)
        · have h := h.2 c5
          refine lv_aload_n hx hb dX9_nextNumber_30 rfl (lv_at hl 0 rfl) ?_
          refine va_get (ci := 9) (v := .ref a_t_bytes) (C := RX9) (T := TX9) (N := 6) hx hb hts icX9 hown hG.k hP 0 rfl rfl 0 (by decide) lk5 (fun _ h9 => h9) rfl dX9_nextNumber_31 ?_
          refine lv_aload_n hx hb dX9_nextNumber_34 rfl (lv_at hl 0 rfl) ?_
          refine va_get (ci := 9) (v := .int t_at) (C := RX9) (T := TX9) (N := 6) hx hb hts icX9 hown hG.k hP 0 rfl rfl 2 (by decide) lk1 (fun _ h9 => h9) rfl dX9_nextNumber_35 ?_
          obtain ⟨hv6, h⟩ := h
          refine va_bald hx hb hG.k hP 1 0 rfl rfl hv6 dX9_nextNumber_38 ?_
          refine lv_bipush (v := 57) hx hb dX9_nextNumber_39 (by decide) ?_
          refine lv_icmp_gt (tgt := 85) hx hb dX9_nextNumber_41 (by decide) (fun c7 => ?_) (fun c7 => ?_)
          · have h := h.1 c7
            exact L85 t_at t_token t_value h _ _ hP hD hS _ (lv_sub hl [0] rfl)
          · have h := h.2 c7
            refine lv_aload_n hx hb dX9_nextNumber_44 rfl (lv_at hl 0 rfl) ?_
            refine lv_bipush (v := 10) hx hb dX9_nextNumber_45 (by decide) ?_
            refine lv_aload_n hx hb dX9_nextNumber_47 rfl (lv_at hl 0 rfl) ?_
            refine va_get (ci := 9) (v := .int t_value) (C := RX9) (T := TX9) (N := 6) hx hb hts icX9 hown hG.k hP 0 rfl rfl 5 (by decide) lk0 (fun _ h9 => h9) rfl dX9_nextNumber_48 ?_
            refine lv_imul hx hb dX9_nextNumber_51 ?_
            refine lv_aload_n hx hb dX9_nextNumber_52 rfl (lv_at hl 0 rfl) ?_
            refine va_get (ci := 9) (v := .ref a_t_bytes) (C := RX9) (T := TX9) (N := 6) hx hb hts icX9 hown hG.k hP 0 rfl rfl 0 (by decide) lk5 (fun _ h9 => h9) rfl dX9_nextNumber_53 ?_
            refine lv_aload_n hx hb dX9_nextNumber_56 rfl (lv_at hl 0 rfl) ?_
            refine va_get (ci := 9) (v := .int t_at) (C := RX9) (T := TX9) (N := 6) hx hb hts icX9 hown hG.k hP 0 rfl rfl 2 (by decide) lk1 (fun _ h9 => h9) rfl dX9_nextNumber_57 ?_
            obtain ⟨hv8, h⟩ := h
            refine va_bald hx hb hG.k hP 1 0 rfl rfl hv8 dX9_nextNumber_60 ?_
            refine lv_iadd hx hb dX9_nextNumber_61 ?_
            refine lv_bipush (v := 48) hx hb dX9_nextNumber_62 (by decide) ?_
            refine lv_isub hx hb dX9_nextNumber_64 ?_
            refine lv_sipush (v := 1000) hx hb dX9_nextNumber_65 (by decide) ?_
            refine lv_irem hx hb dX9_nextNumber_68 (by decide) ?_
            refine va_put (ci := 9) (v := .int ((((10 * t_value) + (t_bytes t_at.toNatClampNeg)) - 48) - (((10 * t_value) + (t_bytes t_at.toNatClampNeg)) - 48) / 1000 * 1000)) (C := RX9) (T := TX9) (N := 6) hx hb hts icX9 tyX9 tyX9_ok nmX9 hown hG.k hP hD hS 0 rfl rfl 5 (by decide) lk0 (fun _ h9 => h9) rfl (tyX9_ok 5 (by decide)) rfl rfl (Nat.le_of_ble_eq_true rfl) dX9_nextNumber_69 (fun H locs hP hD hS => ?_)
            have hP : va_P D vwCl [(a_t, .inr (9, [.ref a_t_bytes, .int t_size, .int t_at, .int t_token, .int t_from, .int ((((10 * t_value) + (t_bytes t_at.toNatClampNeg)) - 48) - (((10 * t_value) + (t_bytes t_at.toNatClampNeg)) - 48) / 1000 * 1000)])), (a_t_bytes, .inl (g.1 0, 320, .inl t_bytes))] H := hP
            have hD : va_D A [(a_t, .inr (9, [.ref a_t_bytes, .int t_size, .int t_at, .int t_token, .int t_from, .int ((((10 * t_value) + (t_bytes t_at.toNatClampNeg)) - 48) - (((10 * t_value) + (t_bytes t_at.toNatClampNeg)) - 48) / 1000 * 1000)])), (a_t_bytes, .inl (g.1 0, 320, .inl t_bytes))] := hD
            refine lv_aload_n hx hb dX9_nextNumber_72 rfl (lv_at hl 0 rfl) ?_
            refine lv_dup hx hb dX9_nextNumber_73 rfl ?_
            refine va_get (ci := 9) (v := .int t_at) (C := RX9) (T := TX9) (N := 6) hx hb hts icX9 hown hG.k hP 0 rfl rfl 2 (by decide) lk1 (fun _ h9 => h9) rfl dX9_nextNumber_74 ?_
            refine lv_iconst (v := 1) hx hb dX9_nextNumber_77 (by decide) ?_
            refine lv_iadd hx hb dX9_nextNumber_78 ?_
            refine va_put (ci := 9) (v := .int (t_at + 1)) (C := RX9) (T := TX9) (N := 6) hx hb hts icX9 tyX9 tyX9_ok nmX9 hown hG.k hP hD hS 0 rfl rfl 2 (by decide) lk1 (fun _ h9 => h9) rfl (tyX9_ok 2 (by decide)) rfl rfl (Nat.le_of_ble_eq_true rfl) dX9_nextNumber_79 (fun H locs hP hD hS => ?_)
            have hP : va_P D vwCl [(a_t, .inr (9, [.ref a_t_bytes, .int t_size, .int (t_at + 1), .int t_token, .int t_from, .int ((((10 * t_value) + (t_bytes t_at.toNatClampNeg)) - 48) - (((10 * t_value) + (t_bytes t_at.toNatClampNeg)) - 48) / 1000 * 1000)])), (a_t_bytes, .inl (g.1 0, 320, .inl t_bytes))] H := hP
            have hD : va_D A [(a_t, .inr (9, [.ref a_t_bytes, .int t_size, .int (t_at + 1), .int t_token, .int t_from, .int ((((10 * t_value) + (t_bytes t_at.toNatClampNeg)) - 48) - (((10 * t_value) + (t_bytes t_at.toNatClampNeg)) - 48) / 1000 * 1000)])), (a_t_bytes, .inl (g.1 0, 320, .inl t_bytes))] := hD
            refine lv_goto (tgt := 5) hx hb dX9_nextNumber_82 (by decide) ?_
            exact ih (t_at + 1) ((((10 * t_value) + (t_bytes t_at.toNatClampNeg)) - 48) - (((10 * t_value) + (t_bytes t_at.toNatClampNeg)) - 48) / 1000 * 1000) h _ _ hP hD hS _ (lv_sub hl [0] rfl)
  unfold wp_X9_nextNumber at h
  try dsimp only at h
  refine lv_aload_n hx hb dX9_nextNumber_0 rfl (lv_at hl 0 rfl) ?_
  refine lv_iconst (v := 0) hx hb dX9_nextNumber_1 (by decide) ?_
  refine va_put (ci := 9) (v := .int 0) (C := RX9) (T := TX9) (N := 6) hx hb hts icX9 tyX9 tyX9_ok nmX9 hown hG.k hP hD hS 0 rfl rfl 5 (by decide) lk0 (fun _ h9 => h9) rfl (tyX9_ok 5 (by decide)) rfl rfl (Nat.le_of_ble_eq_true rfl) dX9_nextNumber_2 (fun H locs hP hD hS => ?_)
  have hP : va_P D vwCl [(a_t, .inr (9, [.ref a_t_bytes, .int t_size, .int t_at, .int t_token, .int t_from, .int 0])), (a_t_bytes, .inl (g.1 0, 320, .inl t_bytes))] H := hP
  have hD : va_D A [(a_t, .inr (9, [.ref a_t_bytes, .int t_size, .int t_at, .int t_token, .int t_from, .int 0])), (a_t_bytes, .inl (g.1 0, 320, .inl t_bytes))] := hD
  obtain ⟨n9, h⟩ := h
  exact L5 t_token n9 t_at 0 h _ _ hP hD hS _ (lv_sub hl [0] rfl)
theorem hdX9_nextToken : yX9_nextToken.cls = RX9 ∧ yX9_nextToken.cls ≠ "java/lang/invoke/MethodHandle" ∧ yX9_nextToken.cls ≠ "java/lang/invoke/VarHandle" ∧ (parseMethodDescriptor yX9_nextToken.desc).map (fun d => d.parameters.length) = some 0 := by decide +kernel
abbrev rmX9_nextToken : Room := { frames := 2, cells := 0, slots := 0, locals := 200 }
set_option maxHeartbeats 4000000 in
set_option maxRecDepth 100000 in
theorem c_X9_nextToken (l : Launch) (D : va_G) (g : gE) (a_t : Nat) (a_t_bytes : Nat) (t_size : Int32) (t_at : Int32) (t_token : Int32) (t_from : Int32) (t_value : Int32) (t_bytes : Nat → Int32) (post : Int32 → Int32 → Int32 → Int32 → Prop) (h : wp_X9_nextToken t_size t_at t_token t_from t_value t_bytes post) : Cv l D g yX9_nextToken (.code yX9_nextToken cX9_nextToken 1 none :: wsL_law) rmX9_nextToken [.ref a_t] [(a_t, .inr (9, [.ref a_t_bytes, .int t_size, .int t_at, .int t_token, .int t_from, .int t_value])), (a_t_bytes, .inl (g.1 0, 320, .inl t_bytes))] (fun W' => ∃ (nw_t_at : Int32) (nw_t_token : Int32) (nw_t_from : Int32) (nw_t_value : Int32), W' = [(a_t, .inr (9, [.ref a_t_bytes, .int t_size, .int nw_t_at, .int nw_t_token, .int nw_t_from, .int nw_t_value])), (a_t_bytes, .inl (g.1 0, 320, .inl t_bytes))] ∧ post nw_t_at nw_t_token nw_t_from nw_t_value) := by
  refine Cv.of (cc := cX9_nextToken) (maxL := 1) (by decide) rfl (Nat.le_of_ble_eq_true rfl) ?_
  intro p e s m args below meth c A Q hx hb hml hts hown hA H locs hP hD hS hG ls hl hret
  have hown : s.vm.findClass RX9 = some m.cls := hown
  have hl : lv_has ls 1 [(0, .ref a_t)] := hl
  have lk0 := hts (.fieldLink RX9 19 "KnockWall$Tape" "at" "I") (List.mem_cons_of_mem _ (inR_11 (List.mem_of_getElem? (i := 1) rfl)))
  have lk1 := hts (.fieldLink RX9 15 "KnockWall$Tape" "size" "I") (List.mem_cons_of_mem _ (inR_9 (List.mem_of_getElem? (i := 11) rfl)))
  have lk2 := hts (.fieldLink RX9 22 "KnockWall$Tape" "from" "I") (List.mem_cons_of_mem _ (inR_11 (List.mem_of_getElem? (i := 2) rfl)))
  have lk3 := hts (.fieldLink RX9 9 "KnockWall$Tape" "bytes" "[B") (List.mem_cons_of_mem _ (inR_3 (List.mem_of_getElem? (i := 10) rfl)))
  have lk4 := hts (.fieldLink RX9 25 "KnockWall$Tape" "token" "I") (List.mem_cons_of_mem _ (inR_11 (List.mem_of_getElem? (i := 3) rfl)))
  have L117 : ∀ (t_token : Int32) (t_from : Int32) (t_value : Int32), ∀ (n : Nat) (t_at : Int32), fixN (F_X9_nextToken_117 t_size t_bytes t_token t_from t_value post) n t_at → ∀ (H : Heap) (locs : List Loc), va_P D vwCl [(a_t, .inr (9, [.ref a_t_bytes, .int t_size, .int t_at, .int t_token, .int t_from, .int t_value])), (a_t_bytes, .inl (g.1 0, 320, .inl t_bytes))] H → va_D A [(a_t, .inr (9, [.ref a_t_bytes, .int t_size, .int t_at, .int t_token, .int t_from, .int t_value])), (a_t_bytes, .inl (g.1 0, 320, .inl t_bytes))] → va_S A s.heap H locs → ∀ (ls : Array Slot), lv_has ls 1 [(0, .ref a_t)] → W p l e rmX9_nextToken s m args below meth c H locs 0 0 Q (F0 m 117 ls []) := by
    intro t_token t_from t_value
    intro n
    induction n with
    | zero => intro t_at h; exact h.elim
    | succ n ih =>
      intro t_at h H locs hP hD hS ls hl
      have h : F_X9_nextToken_117 t_size t_bytes t_token t_from t_value post (fixN (F_X9_nextToken_117 t_size t_bytes t_token t_from t_value post) n) t_at := h
      unfold F_X9_nextToken_117 at h
      try dsimp only at h
      refine lv_aload_n hx hb dX9_nextToken_117 rfl (lv_at hl 0 rfl) ?_
      refine va_get (ci := 9) (v := .int t_at) (C := RX9) (T := TX9) (N := 6) hx hb hts icX9 hown hG.k hP 0 rfl rfl 2 (by decide) lk0 (fun _ h9 => h9) rfl dX9_nextToken_118 ?_
      refine lv_aload_n hx hb dX9_nextToken_121 rfl (lv_at hl 0 rfl) ?_
      refine va_get (ci := 9) (v := .int t_size) (C := RX9) (T := TX9) (N := 6) hx hb hts icX9 hown hG.k hP 0 rfl rfl 1 (by decide) lk1 (fun _ h9 => h9) rfl dX9_nextToken_122 ?_
      refine lv_icmp_ge (tgt := 160) hx hb dX9_nextToken_125 (by decide) (fun c9 => ?_) (fun c9 => ?_)
      · have h := h.1 c9
        exact hret _ _ _ _ _ ⟨t_at, t_token, t_from, t_value, rfl, h⟩ hP hD hS dX9_nextToken_160
      · have h := h.2 c9
        refine lv_aload_n hx hb dX9_nextToken_128 rfl (lv_at hl 0 rfl) ?_
        refine va_get (ci := 9) (v := .ref a_t_bytes) (C := RX9) (T := TX9) (N := 6) hx hb hts icX9 hown hG.k hP 0 rfl rfl 0 (by decide) lk3 (fun _ h9 => h9) rfl dX9_nextToken_129 ?_
        refine lv_aload_n hx hb dX9_nextToken_132 rfl (lv_at hl 0 rfl) ?_
        refine va_get (ci := 9) (v := .int t_at) (C := RX9) (T := TX9) (N := 6) hx hb hts icX9 hown hG.k hP 0 rfl rfl 2 (by decide) lk0 (fun _ h9 => h9) rfl dX9_nextToken_133 ?_
        obtain ⟨hv10, h⟩ := h
        refine va_bald hx hb hG.k hP 1 0 rfl rfl hv10 dX9_nextToken_136 ?_
        refine k_i (wr := [(a_t, .inr (9, [.ref a_t_bytes, .int t_size, .int t_at, .int t_token, .int t_from, .int t_value])), (a_t_bytes, .inl (g.1 0, 320, .inl t_bytes))]) hA hP hD hS [] [0, 1] rfl rfl (by decide) (by decide) (va_runS (As := [.int (t_bytes t_at.toNatClampNeg)]) (rest := []) ⟨hx, hb, hml, hown, hts⟩ (c_X9_isLetter l D g (t_bytes t_at.toNatClampNeg) _ h H.size) (va_cwS 1 hts (gdS (inR_11 (List.mem_of_getElem? (i := 4) rfl)) (inR_7 (List.mem_of_getElem? (i := 16) rfl)) (inR_1 (List.mem_of_getElem? (i := 15) rfl)) (inR_7 (List.mem_of_getElem? (i := 17) rfl))) rfl rfl rfl hdX9_isLetter.2 ⟨Nat.le_of_ble_eq_true rfl, Nat.le_of_ble_eq_true rfl⟩) (k_preS hG hA hP hD hS [] rfl (by decide)) rfl rfl hl.1 rfl (lv_room (Nat.le_of_ble_eq_true rfl)) dX9_nextToken_137 ⟨Nat.zero_le _, Nat.zero_le _⟩) (fun r11 W' H locs h hP hD hS => ?_)
        obtain ⟨rfl, h⟩ := h
        have hP : va_P D vwCl [(a_t, .inr (9, [.ref a_t_bytes, .int t_size, .int t_at, .int t_token, .int t_from, .int t_value])), (a_t_bytes, .inl (g.1 0, 320, .inl t_bytes))] H := hP.sub [0, 1] rfl
        have hD : va_D A [(a_t, .inr (9, [.ref a_t_bytes, .int t_size, .int t_at, .int t_token, .int t_from, .int t_value])), (a_t_bytes, .inl (g.1 0, 320, .inl t_bytes))] := hD.sub [0, 1] (by decide) rfl
        refine lv_if_eq (tgt := 160) hx hb dX9_nextToken_140 (by decide) (fun c12 => ?_) (fun c12 => ?_)
        · have h := h.1 c12
          exact hret _ _ _ _ _ ⟨t_at, t_token, t_from, t_value, rfl, h⟩ hP hD hS dX9_nextToken_160
        · have h := h.2 c12
          refine lv_aload_n hx hb dX9_nextToken_143 rfl (lv_at hl 0 rfl) ?_
          refine lv_dup hx hb dX9_nextToken_144 rfl ?_
          refine va_get (ci := 9) (v := .int t_at) (C := RX9) (T := TX9) (N := 6) hx hb hts icX9 hown hG.k hP 0 rfl rfl 2 (by decide) lk0 (fun _ h9 => h9) rfl dX9_nextToken_145 ?_
          refine lv_iconst (v := 1) hx hb dX9_nextToken_148 (by decide) ?_
          refine lv_iadd hx hb dX9_nextToken_149 ?_
          refine va_put (ci := 9) (v := .int (t_at + 1)) (C := RX9) (T := TX9) (N := 6) hx hb hts icX9 tyX9 tyX9_ok nmX9 hown hG.k hP hD hS 0 rfl rfl 2 (by decide) lk0 (fun _ h9 => h9) rfl (tyX9_ok 2 (by decide)) rfl rfl (Nat.le_of_ble_eq_true rfl) dX9_nextToken_150 (fun H locs hP hD hS => ?_)
          have hP : va_P D vwCl [(a_t, .inr (9, [.ref a_t_bytes, .int t_size, .int (t_at + 1), .int t_token, .int t_from, .int t_value])), (a_t_bytes, .inl (g.1 0, 320, .inl t_bytes))] H := hP
          have hD : va_D A [(a_t, .inr (9, [.ref a_t_bytes, .int t_size, .int (t_at + 1), .int t_token, .int t_from, .int t_value])), (a_t_bytes, .inl (g.1 0, 320, .inl t_bytes))] := hD
          refine lv_goto (tgt := 117) hx hb dX9_nextToken_153 (by decide) ?_
          exact ih (t_at + 1) h _ _ hP hD hS _ (lv_sub hl [0] rfl)
  have L38 : ∀ (t_at : Int32) (t_token : Int32) (t_from : Int32) (t_value : Int32), B_X9_nextToken_38 t_size t_bytes t_at t_token t_value post → ∀ (H : Heap) (locs : List Loc), va_P D vwCl [(a_t, .inr (9, [.ref a_t_bytes, .int t_size, .int t_at, .int t_token, .int t_from, .int t_value])), (a_t_bytes, .inl (g.1 0, 320, .inl t_bytes))] H → va_D A [(a_t, .inr (9, [.ref a_t_bytes, .int t_size, .int t_at, .int t_token, .int t_from, .int t_value])), (a_t_bytes, .inl (g.1 0, 320, .inl t_bytes))] → va_S A s.heap H locs → ∀ (ls : Array Slot), lv_has ls 1 [(0, .ref a_t)] → W p l e rmX9_nextToken s m args below meth c H locs 0 0 Q (F0 m 38 ls []) := by
    intro t_at t_token t_from t_value
    intro h H locs hP hD hS ls hl
    unfold B_X9_nextToken_38 at h
    try dsimp only at h
    refine lv_aload_n hx hb dX9_nextToken_38 rfl (lv_at hl 0 rfl) ?_
    refine lv_aload_n hx hb dX9_nextToken_39 rfl (lv_at hl 0 rfl) ?_
    refine va_get (ci := 9) (v := .int t_at) (C := RX9) (T := TX9) (N := 6) hx hb hts icX9 hown hG.k hP 0 rfl rfl 2 (by decide) lk0 (fun _ h9 => h9) rfl dX9_nextToken_40 ?_
    refine va_put (ci := 9) (v := .int t_at) (C := RX9) (T := TX9) (N := 6) hx hb hts icX9 tyX9 tyX9_ok nmX9 hown hG.k hP hD hS 0 rfl rfl 4 (by decide) lk2 (fun _ h9 => h9) rfl (tyX9_ok 4 (by decide)) rfl rfl (Nat.le_of_ble_eq_true rfl) dX9_nextToken_43 (fun H locs hP hD hS => ?_)
    have hP : va_P D vwCl [(a_t, .inr (9, [.ref a_t_bytes, .int t_size, .int t_at, .int t_token, .int t_at, .int t_value])), (a_t_bytes, .inl (g.1 0, 320, .inl t_bytes))] H := hP
    have hD : va_D A [(a_t, .inr (9, [.ref a_t_bytes, .int t_size, .int t_at, .int t_token, .int t_at, .int t_value])), (a_t_bytes, .inl (g.1 0, 320, .inl t_bytes))] := hD
    refine lv_aload_n hx hb dX9_nextToken_46 rfl (lv_at hl 0 rfl) ?_
    refine va_get (ci := 9) (v := .int t_at) (C := RX9) (T := TX9) (N := 6) hx hb hts icX9 hown hG.k hP 0 rfl rfl 2 (by decide) lk0 (fun _ h9 => h9) rfl dX9_nextToken_47 ?_
    refine lv_aload_n hx hb dX9_nextToken_50 rfl (lv_at hl 0 rfl) ?_
    refine va_get (ci := 9) (v := .int t_size) (C := RX9) (T := TX9) (N := 6) hx hb hts icX9 hown hG.k hP 0 rfl rfl 1 (by decide) lk1 (fun _ h9 => h9) rfl dX9_nextToken_51 ?_
    refine lv_icmp_lt (tgt := 65) hx hb dX9_nextToken_54 (by decide) (fun c2 => ?_) (fun c2 => ?_)
    · have h := h.1 c2
      refine lv_aload_n hx hb dX9_nextToken_65 rfl (lv_at hl 0 rfl) ?_
      refine va_get (ci := 9) (v := .ref a_t_bytes) (C := RX9) (T := TX9) (N := 6) hx hb hts icX9 hown hG.k hP 0 rfl rfl 0 (by decide) lk3 (fun _ h9 => h9) rfl dX9_nextToken_66 ?_
      refine lv_aload_n hx hb dX9_nextToken_69 rfl (lv_at hl 0 rfl) ?_
      refine va_get (ci := 9) (v := .int t_at) (C := RX9) (T := TX9) (N := 6) hx hb hts icX9 hown hG.k hP 0 rfl rfl 2 (by decide) lk0 (fun _ h9 => h9) rfl dX9_nextToken_70 ?_
      obtain ⟨hv3, h⟩ := h
      refine va_bald hx hb hG.k hP 1 0 rfl rfl hv3 dX9_nextToken_73 ?_
      refine lv_bipush (v := 59) hx hb dX9_nextToken_74 (by decide) ?_
      refine lv_icmp_ne (tgt := 97) hx hb dX9_nextToken_76 (by decide) (fun c4 => ?_) (fun c4 => ?_)
      · have h := h.1 c4
        refine lv_aload_n hx hb dX9_nextToken_97 rfl (lv_at hl 0 rfl) ?_
        refine va_get (ci := 9) (v := .ref a_t_bytes) (C := RX9) (T := TX9) (N := 6) hx hb hts icX9 hown hG.k hP 0 rfl rfl 0 (by decide) lk3 (fun _ h9 => h9) rfl dX9_nextToken_98 ?_
        refine lv_aload_n hx hb dX9_nextToken_101 rfl (lv_at hl 0 rfl) ?_
        refine va_get (ci := 9) (v := .int t_at) (C := RX9) (T := TX9) (N := 6) hx hb hts icX9 hown hG.k hP 0 rfl rfl 2 (by decide) lk0 (fun _ h9 => h9) rfl dX9_nextToken_102 ?_
        obtain ⟨hv5, h⟩ := h
        refine va_bald hx hb hG.k hP 1 0 rfl rfl hv5 dX9_nextToken_105 ?_
        refine k_i (wr := [(a_t, .inr (9, [.ref a_t_bytes, .int t_size, .int t_at, .int t_token, .int t_at, .int t_value])), (a_t_bytes, .inl (g.1 0, 320, .inl t_bytes))]) hA hP hD hS [] [0, 1] rfl rfl (by decide) (by decide) (va_runS (As := [.int (t_bytes t_at.toNatClampNeg)]) (rest := []) ⟨hx, hb, hml, hown, hts⟩ (c_X9_isLetter l D g (t_bytes t_at.toNatClampNeg) _ h H.size) (va_cwS 1 hts (gdS (inR_11 (List.mem_of_getElem? (i := 4) rfl)) (inR_7 (List.mem_of_getElem? (i := 16) rfl)) (inR_1 (List.mem_of_getElem? (i := 15) rfl)) (inR_7 (List.mem_of_getElem? (i := 17) rfl))) rfl rfl rfl hdX9_isLetter.2 ⟨Nat.le_of_ble_eq_true rfl, Nat.le_of_ble_eq_true rfl⟩) (k_preS hG hA hP hD hS [] rfl (by decide)) rfl rfl hl.1 rfl (lv_room (Nat.le_of_ble_eq_true rfl)) dX9_nextToken_106 ⟨Nat.zero_le _, Nat.zero_le _⟩) (fun r6 W' H locs h hP hD hS => ?_)
        obtain ⟨rfl, h⟩ := h
        have hP : va_P D vwCl [(a_t, .inr (9, [.ref a_t_bytes, .int t_size, .int t_at, .int t_token, .int t_at, .int t_value])), (a_t_bytes, .inl (g.1 0, 320, .inl t_bytes))] H := hP.sub [0, 1] rfl
        have hD : va_D A [(a_t, .inr (9, [.ref a_t_bytes, .int t_size, .int t_at, .int t_token, .int t_at, .int t_value])), (a_t_bytes, .inl (g.1 0, 320, .inl t_bytes))] := hD.sub [0, 1] (by decide) rfl
        refine lv_if_eq (tgt := 156) hx hb dX9_nextToken_109 (by decide) (fun c7 => ?_) (fun c7 => ?_)
        · have h := h.1 c7
          refine lv_aload_n hx hb dX9_nextToken_156 rfl (lv_at hl 0 rfl) ?_
          refine k_v (wr := []) hA hP hD hS [0, 1] [] rfl rfl (by decide) (by decide) (va_runV (As := []) (rest := []) ⟨hx, hb, hml, hown, hts⟩ (c_X9_nextNumber l D g a_t a_t_bytes t_size t_at t_token t_at t_value t_bytes _ h H.size) (cwV 0 hts (gdV (inR_11 (List.mem_of_getElem? (i := 5) rfl)) (inR_11 (List.mem_of_getElem? (i := 6) rfl)) (inR_11 (List.mem_of_getElem? (i := 7) rfl)) (inR_1 (List.mem_of_getElem? (i := 15) rfl)) (inR_11 (List.mem_of_getElem? (i := 8) rfl))) rfl rfl rfl hdX9_nextNumber ⟨Nat.le_of_ble_eq_true rfl, Nat.le_of_ble_eq_true rfl⟩) (k_preV (q0 := 0) hG hA hP hD hS [0, 1] rfl (by decide) rfl rfl) rfl rfl hl.1 rfl (lv_room (Nat.le_of_ble_eq_true rfl)) dX9_nextToken_157 ⟨Nat.zero_le _, Nat.zero_le _⟩) (fun W' H locs h hP hD hS => ?_)
          obtain ⟨u8_t_at, u8_t_token, u8_t_value, rfl, h⟩ := h
          have hP : va_P D vwCl [(a_t, .inr (9, [.ref a_t_bytes, .int t_size, .int u8_t_at, .int u8_t_token, .int t_at, .int u8_t_value])), (a_t_bytes, .inl (g.1 0, 320, .inl t_bytes))] H := hP.sub [0, 1] rfl
          have hD : va_D A [(a_t, .inr (9, [.ref a_t_bytes, .int t_size, .int u8_t_at, .int u8_t_token, .int t_at, .int u8_t_value])), (a_t_bytes, .inl (g.1 0, 320, .inl t_bytes))] := hD.sub [0, 1] (by decide) rfl
          exact hret _ _ _ _ _ ⟨u8_t_at, u8_t_token, t_at, u8_t_value, rfl, h⟩ hP hD hS dX9_nextToken_160
        · have h := h.2 c7
          refine lv_aload_n hx hb dX9_nextToken_112 rfl (lv_at hl 0 rfl) ?_
          refine lv_iconst (v := 2) hx hb dX9_nextToken_113 (by decide) ?_
          refine va_put (ci := 9) (v := .int 2) (C := RX9) (T := TX9) (N := 6) hx hb hts icX9 tyX9 tyX9_ok nmX9 hown hG.k hP hD hS 0 rfl rfl 3 (by decide) lk4 (fun _ h9 => h9) rfl (tyX9_ok 3 (by decide)) rfl rfl (Nat.le_of_ble_eq_true rfl) dX9_nextToken_114 (fun H locs hP hD hS => ?_)
          have hP : va_P D vwCl [(a_t, .inr (9, [.ref a_t_bytes, .int t_size, .int t_at, .int 2, .int t_at, .int t_value])), (a_t_bytes, .inl (g.1 0, 320, .inl t_bytes))] H := hP
          have hD : va_D A [(a_t, .inr (9, [.ref a_t_bytes, .int t_size, .int t_at, .int 2, .int t_at, .int t_value])), (a_t_bytes, .inl (g.1 0, 320, .inl t_bytes))] := hD
          obtain ⟨n9, h⟩ := h
          exact L117 2 t_at t_value n9 t_at h _ _ hP hD hS _ (lv_sub hl [0] rfl)
      · have h := h.2 c4
        refine lv_aload_n hx hb dX9_nextToken_79 rfl (lv_at hl 0 rfl) ?_
        refine lv_iconst (v := 4) hx hb dX9_nextToken_80 (by decide) ?_
        refine va_put (ci := 9) (v := .int 4) (C := RX9) (T := TX9) (N := 6) hx hb hts icX9 tyX9 tyX9_ok nmX9 hown hG.k hP hD hS 0 rfl rfl 3 (by decide) lk4 (fun _ h9 => h9) rfl (tyX9_ok 3 (by decide)) rfl rfl (Nat.le_of_ble_eq_true rfl) dX9_nextToken_81 (fun H locs hP hD hS => ?_)
        have hP : va_P D vwCl [(a_t, .inr (9, [.ref a_t_bytes, .int t_size, .int t_at, .int 4, .int t_at, .int t_value])), (a_t_bytes, .inl (g.1 0, 320, .inl t_bytes))] H := hP
        have hD : va_D A [(a_t, .inr (9, [.ref a_t_bytes, .int t_size, .int t_at, .int 4, .int t_at, .int t_value])), (a_t_bytes, .inl (g.1 0, 320, .inl t_bytes))] := hD
        refine lv_aload_n hx hb dX9_nextToken_84 rfl (lv_at hl 0 rfl) ?_
        refine lv_dup hx hb dX9_nextToken_85 rfl ?_
        refine va_get (ci := 9) (v := .int t_at) (C := RX9) (T := TX9) (N := 6) hx hb hts icX9 hown hG.k hP 0 rfl rfl 2 (by decide) lk0 (fun _ h9 => h9) rfl dX9_nextToken_86 ?_
        refine lv_iconst (v := 1) hx hb dX9_nextToken_89 (by decide) ?_
        refine lv_iadd hx hb dX9_nextToken_90 ?_
        refine va_put (ci := 9) (v := .int (t_at + 1)) (C := RX9) (T := TX9) (N := 6) hx hb hts icX9 tyX9 tyX9_ok nmX9 hown hG.k hP hD hS 0 rfl rfl 2 (by decide) lk0 (fun _ h9 => h9) rfl (tyX9_ok 2 (by decide)) rfl rfl (Nat.le_of_ble_eq_true rfl) dX9_nextToken_91 (fun H locs hP hD hS => ?_)
        have hP : va_P D vwCl [(a_t, .inr (9, [.ref a_t_bytes, .int t_size, .int (t_at + 1), .int 4, .int t_at, .int t_value])), (a_t_bytes, .inl (g.1 0, 320, .inl t_bytes))] H := hP
        have hD : va_D A [(a_t, .inr (9, [.ref a_t_bytes, .int t_size, .int (t_at + 1), .int 4, .int t_at, .int t_value])), (a_t_bytes, .inl (g.1 0, 320, .inl t_bytes))] := hD
        refine lv_goto (tgt := 160) hx hb dX9_nextToken_94 (by decide) ?_
        exact hret _ _ _ _ _ ⟨t_at + 1, 4, t_at, t_value, rfl, h⟩ hP hD hS dX9_nextToken_160
    · have h := h.2 c2
      refine lv_aload_n hx hb dX9_nextToken_57 rfl (lv_at hl 0 rfl) ?_
      refine lv_iconst (v := 1) hx hb dX9_nextToken_58 (by decide) ?_
      refine va_put (ci := 9) (v := .int 1) (C := RX9) (T := TX9) (N := 6) hx hb hts icX9 tyX9 tyX9_ok nmX9 hown hG.k hP hD hS 0 rfl rfl 3 (by decide) lk4 (fun _ h9 => h9) rfl (tyX9_ok 3 (by decide)) rfl rfl (Nat.le_of_ble_eq_true rfl) dX9_nextToken_59 (fun H locs hP hD hS => ?_)
      have hP : va_P D vwCl [(a_t, .inr (9, [.ref a_t_bytes, .int t_size, .int t_at, .int 1, .int t_at, .int t_value])), (a_t_bytes, .inl (g.1 0, 320, .inl t_bytes))] H := hP
      have hD : va_D A [(a_t, .inr (9, [.ref a_t_bytes, .int t_size, .int t_at, .int 1, .int t_at, .int t_value])), (a_t_bytes, .inl (g.1 0, 320, .inl t_bytes))] := hD
      refine lv_goto (tgt := 160) hx hb dX9_nextToken_62 (by decide) ?_
      exact hret _ _ _ _ _ ⟨t_at, 1, t_at, t_value, rfl, h⟩ hP hD hS dX9_nextToken_160
  have L0 : ∀ (t_token : Int32) (t_from : Int32) (t_value : Int32), ∀ (n : Nat) (t_at : Int32), fixN (F_X9_nextToken_0 t_size t_bytes t_token t_value post) n t_at → ∀ (H : Heap) (locs : List Loc), va_P D vwCl [(a_t, .inr (9, [.ref a_t_bytes, .int t_size, .int t_at, .int t_token, .int t_from, .int t_value])), (a_t_bytes, .inl (g.1 0, 320, .inl t_bytes))] H → va_D A [(a_t, .inr (9, [.ref a_t_bytes, .int t_size, .int t_at, .int t_token, .int t_from, .int t_value])), (a_t_bytes, .inl (g.1 0, 320, .inl t_bytes))] → va_S A s.heap H locs → ∀ (ls : Array Slot), lv_has ls 1 [(0, .ref a_t)] → W p l e rmX9_nextToken s m args below meth c H locs 0 0 Q (F0 m 0 ls []) := by
    intro t_token t_from t_value
    intro n
    induction n with
    | zero => intro t_at h; exact h.elim
    | succ n ih =>
      intro t_at h H locs hP hD hS ls hl
      have h : F_X9_nextToken_0 t_size t_bytes t_token t_value post (fixN (F_X9_nextToken_0 t_size t_bytes t_token t_value post) n) t_at := h
      unfold F_X9_nextToken_0 at h
      try dsimp only at h
      refine lv_aload_n hx hb dX9_nextToken_0 rfl (lv_at hl 0 rfl) ?_
      refine va_get (ci := 9) (v := .int t_at) (C := RX9) (T := TX9) (N := 6) hx hb hts icX9 hown hG.k hP 0 rfl rfl 2 (by decide) lk0 (fun _ h9 => h9) rfl dX9_nextToken_1 ?_
      refine lv_aload_n hx hb dX9_nextToken_4 rfl (lv_at hl 0 rfl) ?_
      refine va_get (ci := 9) (v := .int t_size) (C := RX9) (T := TX9) (N := 6) hx hb hts icX9 hown hG.k hP 0 rfl rfl 1 (by decide) lk1 (fun _ h9 => h9) rfl dX9_nextToken_5 ?_
      refine lv_icmp_ge (tgt := 38) hx hb dX9_nextToken_8 (by decide) (fun c1 => ?_) (fun c1 => ?_)
      · have h := h.1 c1
        exact L38 t_at t_token t_from t_value h _ _ hP hD hS _ (lv_sub hl [0] rfl)
      · have h := h.2 c1
        refine lv_aload_n hx hb dX9_nextToken_11 rfl (lv_at hl 0 rfl) ?_
        refine va_get (ci := 9) (v := .ref a_t_bytes) (C := RX9) (T := TX9) (N := 6) hx hb hts icX9 hown hG.k hP 0 rfl rfl 0 (by decide) lk3 (fun _ h9 => h9) rfl dX9_nextToken_12 ?_
        refine lv_aload_n hx hb dX9_nextToken_15 rfl (lv_at hl 0 rfl) ?_
        refine va_get (ci := 9) (v := .int t_at) (C := RX9) (T := TX9) (N := 6) hx hb hts icX9 hown hG.k hP 0 rfl rfl 2 (by decide) lk0 (fun _ h9 => h9) rfl dX9_nextToken_16 ?_
        obtain ⟨hv13, h⟩ := h
        refine va_bald hx hb hG.k hP 1 0 rfl rfl hv13 dX9_nextToken_19 ?_
        refine lv_bipush (v := 32) hx hb dX9_nextToken_20 (by decide) ?_
        refine lv_icmp_ne (tgt := 38) hx hb dX9_nextToken_22 (by decide) (fun c14 => ?_) (fun c14 => ?_)
        · have h := h.1 c14
          exact L38 t_at t_token t_from t_value h _ _ hP hD hS _ (lv_sub hl [0] rfl)
        · have h := h.2 c14
          refine lv_aload_n hx hb dX9_nextToken_25 rfl (lv_at hl 0 rfl) ?_
          refine lv_dup hx hb dX9_nextToken_26 rfl ?_
          refine va_get (ci := 9) (v := .int t_at) (C := RX9) (T := TX9) (N := 6) hx hb hts icX9 hown hG.k hP 0 rfl rfl 2 (by decide) lk0 (fun _ h9 => h9) rfl dX9_nextToken_27 ?_
          refine lv_iconst (v := 1) hx hb dX9_nextToken_30 (by decide) ?_
          refine lv_iadd hx hb dX9_nextToken_31 ?_
          refine va_put (ci := 9) (v := .int (t_at + 1)) (C := RX9) (T := TX9) (N := 6) hx hb hts icX9 tyX9 tyX9_ok nmX9 hown hG.k hP hD hS 0 rfl rfl 2 (by decide) lk0 (fun _ h9 => h9) rfl (tyX9_ok 2 (by decide)) rfl rfl (Nat.le_of_ble_eq_true rfl) dX9_nextToken_32 (fun H locs hP hD hS => ?_)
          have hP : va_P D vwCl [(a_t, .inr (9, [.ref a_t_bytes, .int t_size, .int (t_at + 1), .int t_token, .int t_from, .int t_value])), (a_t_bytes, .inl (g.1 0, 320, .inl t_bytes))] H := hP
          have hD : va_D A [(a_t, .inr (9, [.ref a_t_bytes, .int t_size, .int (t_at + 1), .int t_token, .int t_from, .int t_value])), (a_t_bytes, .inl (g.1 0, 320, .inl t_bytes))] := hD
          refine lv_goto (tgt := 0) hx hb dX9_nextToken_35 (by decide) ?_
          exact ih (t_at + 1) h _ _ hP hD hS _ (lv_sub hl [0] rfl)
  unfold wp_X9_nextToken at h
  try dsimp only at h
  obtain ⟨n9, h⟩ := h
  exact L0 t_token t_from t_value n9 t_at h _ _ hP hD hS _ (lv_sub hl [0] rfl)
theorem hdX6_fail : yX6_fail.cls = RX6 ∧ yX6_fail.cls ≠ "java/lang/invoke/MethodHandle" ∧ yX6_fail.cls ≠ "java/lang/invoke/VarHandle" ∧ (parseMethodDescriptor yX6_fail.desc).map (fun d => d.parameters.length) = some 2 := by decide +kernel
abbrev rmX6_fail : Room := { frames := 1, cells := 0, slots := 0, locals := 100 }
set_option maxHeartbeats 4000000 in
set_option maxRecDepth 100000 in
theorem c_X6_fail (l : Launch) (D : va_G) (g : gE) (a_t : Nat) (t_kind : Int32) (t_where : Int32) (x1 : Int32) (x2 : Int32) (post : Int32 → Int32 → Int32 → Prop) (h : wp_X6_fail t_kind t_where x1 x2 post) : Ci l D g yX6_fail (.code yX6_fail cX6_fail 3 (some .boolean) :: wsL_law) rmX6_fail [.ref a_t, .int x1, .int x2] [(a_t, .inr (6, [.int t_kind, .int t_where]))] (fun r W' => ∃ (nw_t_kind : Int32) (nw_t_where : Int32), W' = [(a_t, .inr (6, [.int nw_t_kind, .int nw_t_where]))] ∧ post r nw_t_kind nw_t_where) := by
  refine Cz.of (cc := cX6_fail) (maxL := 3) (by decide) rfl (Nat.le_of_ble_eq_true rfl) ?_
  intro p e s m args below meth c A Q hx hb hml hts hown hA H locs hP hD hS hG ls hl hret
  have hown : s.vm.findClass RX6 = some m.cls := hown
  have hl : lv_has ls 3 [(0, .ref a_t), (1, .int x1), (2, .int x2)] := hl
  have lk0 := hts (.fieldLink RX6 9 "KnockWall$Reader" "kind" "I") (List.mem_cons_of_mem _ (inR_10 (List.mem_of_getElem? (i := 16) rfl)))
  have lk1 := hts (.fieldLink RX6 15 "KnockWall$Reader" "where" "I") (List.mem_cons_of_mem _ (inR_10 (List.mem_of_getElem? (i := 17) rfl)))
  unfold wp_X6_fail at h
  try dsimp only at h
  refine lv_aload_n hx hb dX6_fail_0 rfl (lv_at hl 0 rfl) ?_
  refine lv_iload_n hx hb dX6_fail_1 rfl (lv_at hl 1 rfl) ?_
  refine va_put (ci := 6) (v := .int x1) (C := RX6) (T := TX6) (N := 2) hx hb hts icX6 tyX6 tyX6_ok nmX6 hown hG.k hP hD hS 0 rfl rfl 0 (by decide) lk0 (fun _ h9 => h9) rfl (tyX6_ok 0 (by decide)) rfl rfl (Nat.le_of_ble_eq_true rfl) dX6_fail_2 (fun H locs hP hD hS => ?_)
  have hP : va_P D vwCl [(a_t, .inr (6, [.int x1, .int t_where]))] H := hP
  have hD : va_D A [(a_t, .inr (6, [.int x1, .int t_where]))] := hD
  refine lv_aload_n hx hb dX6_fail_5 rfl (lv_at hl 0 rfl) ?_
  refine lv_iload_n hx hb dX6_fail_6 rfl (lv_at hl 2 rfl) ?_
  refine va_put (ci := 6) (v := .int x2) (C := RX6) (T := TX6) (N := 2) hx hb hts icX6 tyX6 tyX6_ok nmX6 hown hG.k hP hD hS 0 rfl rfl 1 (by decide) lk1 (fun _ h9 => h9) rfl (tyX6_ok 1 (by decide)) rfl rfl (Nat.le_of_ble_eq_true rfl) dX6_fail_7 (fun H locs hP hD hS => ?_)
  have hP : va_P D vwCl [(a_t, .inr (6, [.int x1, .int x2]))] H := hP
  have hD : va_D A [(a_t, .inr (6, [.int x1, .int x2]))] := hD
  refine lv_iconst (v := 0) hx hb dX6_fail_10 (by decide) ?_
  exact hret 0 _ _ _ _ _ (Or.inl rfl) ⟨x1, x2, rfl, h⟩ hP hD hS dX6_fail_11
theorem hdX6_isToken : yX6_isToken.cls = RX6 ∧ yX6_isToken.cls ≠ "java/lang/invoke/MethodHandle" ∧ yX6_isToken.cls ≠ "java/lang/invoke/VarHandle" ∧ (parseMethodDescriptor yX6_isToken.desc).map (fun d => d.parameters.length) = some 2 := by decide +kernel
abbrev rmX6_isToken : Room := { frames := 2, cells := 0, slots := 0, locals := 200 }
set_option maxHeartbeats 4000000 in
set_option maxRecDepth 100000 in
theorem c_X6_isToken (l : Launch) (D : va_G) (g : gE) (a_t : Nat) (a_p1 : Nat) (o_p1_bytes : Value) (o_p1_size : Value) (o_p1_at : Value) (o_p1_value : Value) (t_kind : Int32) (t_where : Int32) (p1_token : Int32) (p1_from : Int32) (x2 : Int32) (post : Int32 → Int32 → Int32 → Prop) (h : wp_X6_isToken t_kind t_where p1_token p1_from x2 post) : Ci l D g yX6_isToken (.code yX6_isToken cX6_isToken 3 (some .boolean) :: wsL_law) rmX6_isToken [.ref a_t, .ref a_p1, .int x2] [(a_t, .inr (6, [.int t_kind, .int t_where])), (a_p1, .inr (9, [o_p1_bytes, o_p1_size, o_p1_at, .int p1_token, .int p1_from, o_p1_value]))] (fun r W' => ∃ (nw_t_kind : Int32) (nw_t_where : Int32), W' = [(a_t, .inr (6, [.int nw_t_kind, .int nw_t_where])), (a_p1, .inr (9, [o_p1_bytes, o_p1_size, o_p1_at, .int p1_token, .int p1_from, o_p1_value]))] ∧ post r nw_t_kind nw_t_where) := by
  refine Cz.of (cc := cX6_isToken) (maxL := 3) (by decide) rfl (Nat.le_of_ble_eq_true rfl) ?_
  intro p e s m args below meth c A Q hx hb hml hts hown hA H locs hP hD hS hG ls hl hret
  have hown : s.vm.findClass RX6 = some m.cls := hown
  have hl : lv_has ls 3 [(0, .ref a_t), (1, .ref a_p1), (2, .int x2)] := hl
  have lk0 := hts (.fieldLink RX6 26 "KnockWall$Tape" "token" "I") (List.mem_cons_of_mem _ (inR_10 (List.mem_of_getElem? (i := 19) rfl)))
  have lk1 := hts (.fieldLink RX6 84 "KnockWall$Tape" "from" "I") (List.mem_cons_of_mem _ (inR_11 (List.mem_of_getElem? (i := 14) rfl)))
  unfold wp_X6_isToken at h
  try dsimp only at h
  refine lv_aload_n hx hb dX6_isToken_0 rfl (lv_at hl 1 rfl) ?_
  refine va_get (ci := 9) (v := .int p1_token) (C := RX9) (T := TX9) (N := 6) hx hb hts icX9 hown hG.k hP 1 rfl rfl 3 (by decide) lk0 (fun _ h9 => h9) rfl dX6_isToken_1 ?_
  refine lv_if_ne (tgt := 17) hx hb dX6_isToken_4 (by decide) (fun c1 => ?_) (fun c1 => ?_)
  · have h := h.1 c1
    refine lv_aload_n hx hb dX6_isToken_17 rfl (lv_at hl 1 rfl) ?_
    refine va_get (ci := 9) (v := .int p1_token) (C := RX9) (T := TX9) (N := 6) hx hb hts icX9 hown hG.k hP 1 rfl rfl 3 (by decide) lk0 (fun _ h9 => h9) rfl dX6_isToken_18 ?_
    refine lv_iload_n hx hb dX6_isToken_21 rfl (lv_at hl 2 rfl) ?_
    refine lv_icmp_eq (tgt := 37) hx hb dX6_isToken_22 (by decide) (fun c2 => ?_) (fun c2 => ?_)
    · have h := h.1 c2
      refine lv_iconst (v := 1) hx hb dX6_isToken_37 (by decide) ?_
      refine lv_goto (tgt := 42) hx hb dX6_isToken_38 (by decide) ?_
      exact hret 1 _ _ _ _ _ (Or.inr rfl) ⟨t_kind, t_where, rfl, h⟩ hP hD hS dX6_isToken_42
    · have h := h.2 c2
      refine lv_aload_n hx hb dX6_isToken_25 rfl (lv_at hl 0 rfl) ?_
      refine lv_iconst (v := 2) hx hb dX6_isToken_26 (by decide) ?_
      refine lv_aload_n hx hb dX6_isToken_27 rfl (lv_at hl 1 rfl) ?_
      refine va_get (ci := 9) (v := .int p1_from) (C := RX9) (T := TX9) (N := 6) hx hb hts icX9 hown hG.k hP 1 rfl rfl 4 (by decide) lk1 (fun _ h9 => h9) rfl dX6_isToken_28 ?_
      refine k_i (wr := [(a_p1, .inr (9, [o_p1_bytes, o_p1_size, o_p1_at, .int p1_token, .int p1_from, o_p1_value]))]) hA hP hD hS [0] [1] rfl rfl (by decide) (by decide) (va_runV (As := [.int 2, .int p1_from]) (rest := []) ⟨hx, hb, hml, hown, hts⟩ (c_X6_fail l D g a_t t_kind t_where 2 p1_from _ h H.size) (cwV 2 hts (gdV (inR_11 (List.mem_of_getElem? (i := 19) rfl)) (inR_11 (List.mem_of_getElem? (i := 20) rfl)) (inR_11 (List.mem_of_getElem? (i := 21) rfl)) (inR_1 (List.mem_of_getElem? (i := 19) rfl)) (inR_11 (List.mem_of_getElem? (i := 22) rfl))) rfl rfl rfl hdX6_fail ⟨Nat.le_of_ble_eq_true rfl, Nat.le_of_ble_eq_true rfl⟩) (k_preV (q0 := 0) hG hA hP hD hS [0] rfl (by decide) rfl rfl) rfl rfl hl.1 rfl (lv_room (Nat.le_of_ble_eq_true rfl)) dX6_isToken_31 ⟨Nat.zero_le _, Nat.zero_le _⟩) (fun r3 W' H locs h hP hD hS => ?_)
      obtain ⟨u3_t_kind, u3_t_where, rfl, h⟩ := h
      have hP : va_P D vwCl [(a_t, .inr (6, [.int u3_t_kind, .int u3_t_where])), (a_p1, .inr (9, [o_p1_bytes, o_p1_size, o_p1_at, .int p1_token, .int p1_from, o_p1_value]))] H := hP.sub [1, 0] rfl
      have hD : va_D A [(a_t, .inr (6, [.int u3_t_kind, .int u3_t_where])), (a_p1, .inr (9, [o_p1_bytes, o_p1_size, o_p1_at, .int p1_token, .int p1_from, o_p1_value]))] := hD.sub [1, 0] (by decide) rfl
      refine lv_if_eq (tgt := 41) hx hb dX6_isToken_34 (by decide) (fun c4 => ?_) (fun c4 => ?_)
      · have h := h.1 c4
        refine lv_iconst (v := 0) hx hb dX6_isToken_41 (by decide) ?_
        exact hret 0 _ _ _ _ _ (Or.inl rfl) ⟨u3_t_kind, u3_t_where, rfl, h⟩ hP hD hS dX6_isToken_42
      · have h := h.2 c4
        refine lv_iconst (v := 1) hx hb dX6_isToken_37 (by decide) ?_
        refine lv_goto (tgt := 42) hx hb dX6_isToken_38 (by decide) ?_
        exact hret 1 _ _ _ _ _ (Or.inr rfl) ⟨u3_t_kind, u3_t_where, rfl, h⟩ hP hD hS dX6_isToken_42
  · have h := h.2 c1
    refine lv_aload_n hx hb dX6_isToken_7 rfl (lv_at hl 0 rfl) ?_
    refine lv_iconst (v := 1) hx hb dX6_isToken_8 (by decide) ?_
    refine lv_aload_n hx hb dX6_isToken_9 rfl (lv_at hl 1 rfl) ?_
    refine va_get (ci := 9) (v := .int p1_from) (C := RX9) (T := TX9) (N := 6) hx hb hts icX9 hown hG.k hP 1 rfl rfl 4 (by decide) lk1 (fun _ h9 => h9) rfl dX6_isToken_10 ?_
    refine k_i (wr := [(a_p1, .inr (9, [o_p1_bytes, o_p1_size, o_p1_at, .int p1_token, .int p1_from, o_p1_value]))]) hA hP hD hS [0] [1] rfl rfl (by decide) (by decide) (va_runV (As := [.int 1, .int p1_from]) (rest := []) ⟨hx, hb, hml, hown, hts⟩ (c_X6_fail l D g a_t t_kind t_where 1 p1_from _ h H.size) (cwV 2 hts (gdV (inR_11 (List.mem_of_getElem? (i := 19) rfl)) (inR_11 (List.mem_of_getElem? (i := 20) rfl)) (inR_11 (List.mem_of_getElem? (i := 21) rfl)) (inR_1 (List.mem_of_getElem? (i := 19) rfl)) (inR_11 (List.mem_of_getElem? (i := 22) rfl))) rfl rfl rfl hdX6_fail ⟨Nat.le_of_ble_eq_true rfl, Nat.le_of_ble_eq_true rfl⟩) (k_preV (q0 := 0) hG hA hP hD hS [0] rfl (by decide) rfl rfl) rfl rfl hl.1 rfl (lv_room (Nat.le_of_ble_eq_true rfl)) dX6_isToken_13 ⟨Nat.zero_le _, Nat.zero_le _⟩) (fun r5 W' H locs h hP hD hS => ?_)
    obtain ⟨u5_t_kind, u5_t_where, rfl, h⟩ := h
    have hP : va_P D vwCl [(a_t, .inr (6, [.int u5_t_kind, .int u5_t_where])), (a_p1, .inr (9, [o_p1_bytes, o_p1_size, o_p1_at, .int p1_token, .int p1_from, o_p1_value]))] H := hP.sub [1, 0] rfl
    have hD : va_D A [(a_t, .inr (6, [.int u5_t_kind, .int u5_t_where])), (a_p1, .inr (9, [o_p1_bytes, o_p1_size, o_p1_at, .int p1_token, .int p1_from, o_p1_value]))] := hD.sub [1, 0] (by decide) rfl
    obtain ⟨hzb, h⟩ := h
    exact hret r5 _ _ _ _ _ hzb ⟨u5_t_kind, u5_t_where, rfl, h⟩ hP hD hS dX6_isToken_16
theorem hdX9_isName : yX9_isName.cls = RX9 ∧ yX9_isName.cls ≠ "java/lang/invoke/MethodHandle" ∧ yX9_isName.cls ≠ "java/lang/invoke/VarHandle" ∧ (parseMethodDescriptor yX9_isName.desc).map (fun d => d.parameters.length) = some 1 := by decide +kernel
abbrev rmX9_isName : Room := { frames := 5, cells := 0, slots := 0, locals := 500 }
set_option maxHeartbeats 4000000 in
set_option maxRecDepth 100000 in
theorem c_X9_isName (l : Launch) (D : va_G) (g : gE) (a_t : Nat) (a_t_bytes : Nat) (o_t_size : Value) (o_t_token : Value) (o_t_value : Value) (t_at : Int32) (t_from : Int32) (t_bytes : Nat → Int32) (k1 : Nat) (post : Int32 → Prop) (hk1 : k1 < 6) (h : wp_X9_isName t_at t_from t_bytes k1 post) : Ci l D g yX9_isName (.code yX9_isName cX9_isName 3 (some .boolean) :: wsL_law) rmX9_isName [.ref a_t, .ref (g.2.2.1 k1)] [(a_t, .inr (9, [.ref a_t_bytes, o_t_size, .int t_at, o_t_token, .int t_from, o_t_value])), (a_t_bytes, .inl (g.1 0, 320, .inl t_bytes))] (fun r W' => W' = [(a_t, .inr (9, [.ref a_t_bytes, o_t_size, .int t_at, o_t_token, .int t_from, o_t_value])), (a_t_bytes, .inl (g.1 0, 320, .inl t_bytes))] ∧ post r) := by
  refine Cz.of (cc := cX9_isName) (maxL := 3) (by decide) rfl (Nat.le_of_ble_eq_true rfl) ?_
  intro p e s m args below meth c A Q hx hb hml hts hown hA H locs hP hD hS hG ls hl hret
  have hown : s.vm.findClass RX9 = some m.cls := hown
  have hl : lv_has ls 3 [(0, .ref a_t), (1, .ref (g.2.2.1 k1))] := hl
  have lk0 := hts (.fieldLink RX9 19 "KnockWall$Tape" "at" "I") (List.mem_cons_of_mem _ (inR_11 (List.mem_of_getElem? (i := 1) rfl)))
  have lk1 := hts (.fieldLink RX9 22 "KnockWall$Tape" "from" "I") (List.mem_cons_of_mem _ (inR_11 (List.mem_of_getElem? (i := 2) rfl)))
  have lk2 := hts (.fieldLink RX9 9 "KnockWall$Tape" "bytes" "[B") (List.mem_cons_of_mem _ (inR_3 (List.mem_of_getElem? (i := 10) rfl)))
  have L20 : ∀ (n : Nat) (x2 : Int32), fixN (F_X9_isName_20 t_from t_bytes k1 post) n x2 → ∀ (H : Heap) (locs : List Loc), va_P D vwCl [(a_t, .inr (9, [.ref a_t_bytes, o_t_size, .int t_at, o_t_token, .int t_from, o_t_value])), (a_t_bytes, .inl (g.1 0, 320, .inl t_bytes))] H → va_D A [(a_t, .inr (9, [.ref a_t_bytes, o_t_size, .int t_at, o_t_token, .int t_from, o_t_value])), (a_t_bytes, .inl (g.1 0, 320, .inl t_bytes))] → va_S A s.heap H locs → ∀ (ls : Array Slot), lv_has ls 3 [(0, .ref a_t), (1, .ref (g.2.2.1 k1)), (2, .int x2)] → W p l e rmX9_isName s m args below meth c H locs 0 0 Q (F0 m 20 ls []) := by
    intro n
    induction n with
    | zero => intro x2 h; exact h.elim
    | succ n ih =>
      intro x2 h H locs hP hD hS ls hl
      have h : F_X9_isName_20 t_from t_bytes k1 post (fixN (F_X9_isName_20 t_from t_bytes k1 post) n) x2 := h
      unfold F_X9_isName_20 at h
      try dsimp only at h
      refine lv_iload_n hx hb dX9_isName_20 rfl (lv_at hl 2 rfl) ?_
      refine lv_aload_n hx hb dX9_isName_21 rfl (lv_at hl 1 rfl) ?_
      refine k_i (wr := [(a_t, .inr (9, [.ref a_t_bytes, o_t_size, .int t_at, o_t_token, .int t_from, o_t_value])), (a_t_bytes, .inl (g.1 0, 320, .inl t_bytes))]) hA hP hD hS [] [0, 1] rfl rfl (by decide) (by decide) (va_runV (As := []) (rest := [.int x2]) ⟨hx, hb, hml, hown, hts⟩ (c_J0_length_8abf5 l D g k1 hk1 H.size) (cwV 0 hts (gdV (inR_12 (List.mem_of_getElem? (i := 3) rfl)) (inR_12 (List.mem_of_getElem? (i := 4) rfl)) (inR_12 (List.mem_of_getElem? (i := 5) rfl)) (inR_12 (List.mem_of_getElem? (i := 6) rfl)) (inR_12 (List.mem_of_getElem? (i := 7) rfl))) rfl rfl rfl hdJ0_length_8abf5 ⟨Nat.le_of_ble_eq_true rfl, Nat.le_of_ble_eq_true rfl⟩) (k_preK hG hA hP hD hS k1 hk1) rfl rfl hl.1 rfl (lv_room (Nat.le_of_ble_eq_true rfl)) dX9_isName_22 ⟨Nat.zero_le _, Nat.zero_le _⟩) (fun r9 W' H locs h9 hP hD hS => ?_)
      obtain ⟨rfl, rfl⟩ := h9
      have hP : va_P D vwCl [(a_t, .inr (9, [.ref a_t_bytes, o_t_size, .int t_at, o_t_token, .int t_from, o_t_value])), (a_t_bytes, .inl (g.1 0, 320, .inl t_bytes))] H := by rw [List.append_nil] at hP; exact hP
      have hD : va_D A [(a_t, .inr (9, [.ref a_t_bytes, o_t_size, .int t_at, o_t_token, .int t_from, o_t_value])), (a_t_bytes, .inl (g.1 0, 320, .inl t_bytes))] := by rw [List.append_nil] at hD; exact hD
      refine lv_icmp_ge (tgt := 55) hx hb dX9_isName_25 (by decide) (fun c2 => ?_) (fun c2 => ?_)
      · have h := h.1 c2
        refine lv_iconst (v := 1) hx hb dX9_isName_55 (by decide) ?_
        exact hret 1 _ _ _ _ _ (Or.inr rfl) ⟨rfl, h⟩ hP hD hS dX9_isName_56
      · have h := h.2 c2
        refine lv_aload_n hx hb dX9_isName_28 rfl (lv_at hl 0 rfl) ?_
        refine va_get (ci := 9) (v := .ref a_t_bytes) (C := RX9) (T := TX9) (N := 6) hx hb hts icX9 hown hG.k hP 0 rfl rfl 0 (by decide) lk2 (fun _ h9 => h9) rfl dX9_isName_29 ?_
        refine lv_aload_n hx hb dX9_isName_32 rfl (lv_at hl 0 rfl) ?_
        refine va_get (ci := 9) (v := .int t_from) (C := RX9) (T := TX9) (N := 6) hx hb hts icX9 hown hG.k hP 0 rfl rfl 4 (by decide) lk1 (fun _ h9 => h9) rfl dX9_isName_33 ?_
        refine lv_iload_n hx hb dX9_isName_36 rfl (lv_at hl 2 rfl) ?_
        refine lv_iadd hx hb dX9_isName_37 ?_
        obtain ⟨hv3, h⟩ := h
        refine va_bald hx hb hG.k hP 1 0 rfl rfl hv3 dX9_isName_38 ?_
        refine lv_aload_n hx hb dX9_isName_39 rfl (lv_at hl 1 rfl) ?_
        refine lv_iload_n hx hb dX9_isName_40 rfl (lv_at hl 2 rfl) ?_
        obtain ⟨hv4, h⟩ := h
        refine k_i (wr := [(a_t, .inr (9, [.ref a_t_bytes, o_t_size, .int t_at, o_t_token, .int t_from, o_t_value])), (a_t_bytes, .inl (g.1 0, 320, .inl t_bytes))]) hA hP hD hS [] [0, 1] rfl rfl (by decide) (by decide) (va_runV (As := [.int x2]) (rest := [.int (t_bytes (t_from + x2).toNatClampNeg)]) ⟨hx, hb, hml, hown, hts⟩ (c_J0_charAt_5068e l D g k1 hk1 x2 hv4 H.size) (cwV 1 hts (gdV (inR_12 (List.mem_of_getElem? (i := 15) rfl)) (inR_12 (List.mem_of_getElem? (i := 16) rfl)) (inR_12 (List.mem_of_getElem? (i := 17) rfl)) (inR_12 (List.mem_of_getElem? (i := 6) rfl)) (inR_12 (List.mem_of_getElem? (i := 18) rfl))) rfl rfl rfl hdJ0_charAt_5068e ⟨Nat.le_of_ble_eq_true rfl, Nat.le_of_ble_eq_true rfl⟩) (k_preK hG hA hP hD hS k1 hk1) rfl rfl hl.1 rfl (lv_room (Nat.le_of_ble_eq_true rfl)) dX9_isName_41 ⟨Nat.zero_le _, Nat.zero_le _⟩) (fun r9 W' H locs h9 hP hD hS => ?_)
        obtain ⟨rfl, rfl⟩ := h9
        have hP : va_P D vwCl [(a_t, .inr (9, [.ref a_t_bytes, o_t_size, .int t_at, o_t_token, .int t_from, o_t_value])), (a_t_bytes, .inl (g.1 0, 320, .inl t_bytes))] H := by rw [List.append_nil] at hP; exact hP
        have hD : va_D A [(a_t, .inr (9, [.ref a_t_bytes, o_t_size, .int t_at, o_t_token, .int t_from, o_t_value])), (a_t_bytes, .inl (g.1 0, 320, .inl t_bytes))] := by rw [List.append_nil] at hD; exact hD
        refine lv_icmp_eq (tgt := 49) hx hb dX9_isName_44 (by decide) (fun c5 => ?_) (fun c5 => ?_)
        · have h := h.1 c5
          refine lv_iinc (v := x2 + 1) (lv' := [(2, .int (x2 + 1)), (0, .ref a_t), (1, .ref (g.2.2.1 k1))]) hx hb dX9_isName_49 hl (k := 2) rfl rfl (by decide) rfl (fun ls hl => ?_)
          refine lv_goto (tgt := 20) hx hb dX9_isName_52 (by decide) ?_
          exact ih (x2 + 1) h _ _ hP hD hS _ (lv_sub hl [1, 2, 0] rfl)
        · have h := h.2 c5
          refine lv_iconst (v := 0) hx hb dX9_isName_47 (by decide) ?_
          exact hret 0 _ _ _ _ _ (Or.inl rfl) ⟨rfl, h⟩ hP hD hS dX9_isName_48
  unfold wp_X9_isName at h
  try dsimp only at h
  refine lv_aload_n hx hb dX9_isName_0 rfl (lv_at hl 0 rfl) ?_
  refine va_get (ci := 9) (v := .int t_at) (C := RX9) (T := TX9) (N := 6) hx hb hts icX9 hown hG.k hP 0 rfl rfl 2 (by decide) lk0 (fun _ h9 => h9) rfl dX9_isName_1 ?_
  refine lv_aload_n hx hb dX9_isName_4 rfl (lv_at hl 0 rfl) ?_
  refine va_get (ci := 9) (v := .int t_from) (C := RX9) (T := TX9) (N := 6) hx hb hts icX9 hown hG.k hP 0 rfl rfl 4 (by decide) lk1 (fun _ h9 => h9) rfl dX9_isName_5 ?_
  refine lv_isub hx hb dX9_isName_8 ?_
  refine lv_aload_n hx hb dX9_isName_9 rfl (lv_at hl 1 rfl) ?_
  refine k_i (wr := [(a_t, .inr (9, [.ref a_t_bytes, o_t_size, .int t_at, o_t_token, .int t_from, o_t_value])), (a_t_bytes, .inl (g.1 0, 320, .inl t_bytes))]) hA hP hD hS [] [0, 1] rfl rfl (by decide) (by decide) (va_runV (As := []) (rest := [.int (t_at - t_from)]) ⟨hx, hb, hml, hown, hts⟩ (c_J0_length_8abf5 l D g k1 hk1 H.size) (cwV 0 hts (gdV (inR_12 (List.mem_of_getElem? (i := 3) rfl)) (inR_12 (List.mem_of_getElem? (i := 4) rfl)) (inR_12 (List.mem_of_getElem? (i := 5) rfl)) (inR_12 (List.mem_of_getElem? (i := 6) rfl)) (inR_12 (List.mem_of_getElem? (i := 7) rfl))) rfl rfl rfl hdJ0_length_8abf5 ⟨Nat.le_of_ble_eq_true rfl, Nat.le_of_ble_eq_true rfl⟩) (k_preK hG hA hP hD hS k1 hk1) rfl rfl hl.1 rfl (lv_room (Nat.le_of_ble_eq_true rfl)) dX9_isName_10 ⟨Nat.zero_le _, Nat.zero_le _⟩) (fun r9 W' H locs h9 hP hD hS => ?_)
  obtain ⟨rfl, rfl⟩ := h9
  have hP : va_P D vwCl [(a_t, .inr (9, [.ref a_t_bytes, o_t_size, .int t_at, o_t_token, .int t_from, o_t_value])), (a_t_bytes, .inl (g.1 0, 320, .inl t_bytes))] H := by rw [List.append_nil] at hP; exact hP
  have hD : va_D A [(a_t, .inr (9, [.ref a_t_bytes, o_t_size, .int t_at, o_t_token, .int t_from, o_t_value])), (a_t_bytes, .inl (g.1 0, 320, .inl t_bytes))] := by rw [List.append_nil] at hD; exact hD
  refine lv_icmp_eq (tgt := 18) hx hb dX9_isName_13 (by decide) (fun c1 => ?_) (fun c1 => ?_)
  · have h := h.1 c1
    refine lv_iconst (v := 0) hx hb dX9_isName_18 (by decide) ?_
    refine lv_istore_n (lv' := [(2, .int 0), (0, .ref a_t), (1, .ref (g.2.2.1 k1))]) hx hb dX9_isName_19 rfl hl (by decide) rfl (fun ls hl => ?_)
    obtain ⟨n9, h⟩ := h
    exact L20  n9 0 h _ _ hP hD hS _ (lv_sub hl [1, 2, 0] rfl)
  · have h := h.2 c1
    refine lv_iconst (v := 0) hx hb dX9_isName_16 (by decide) ?_
    exact hret 0 _ _ _ _ _ (Or.inl rfl) ⟨rfl, h⟩ hP hD hS dX9_isName_17
theorem hdX6_takeName : yX6_takeName.cls = RX6 ∧ yX6_takeName.cls ≠ "java/lang/invoke/MethodHandle" ∧ yX6_takeName.cls ≠ "java/lang/invoke/VarHandle" ∧ (parseMethodDescriptor yX6_takeName.desc).map (fun d => d.parameters.length) = some 3 := by decide +kernel
abbrev rmX6_takeName : Room := { frames := 3, cells := 0, slots := 0, locals := 300 }
set_option maxHeartbeats 4000000 in
set_option maxRecDepth 100000 in
theorem c_X6_takeName (l : Launch) (D : va_G) (g : gE) (a_t : Nat) (a_p1 : Nat) (a_p1_bytes : Nat) (t_kind : Int32) (t_where : Int32) (p1_size : Int32) (p1_at : Int32) (p1_token : Int32) (p1_from : Int32) (p1_value : Int32) (p1_bytes : Nat → Int32) (x2 : Int32) (x3 : Int32) (post : Int32 → Int32 → Int32 → Int32 → Int32 → Int32 → Int32 → Prop) (h : wp_X6_takeName t_kind t_where p1_size p1_at p1_token p1_from p1_value p1_bytes x2 x3 post) : Ci l D g yX6_takeName (.code yX6_takeName cX6_takeName 5 (some .boolean) :: wsL_law) rmX6_takeName [.ref a_t, .ref a_p1, .int x2, .int x3] [(a_t, .inr (6, [.int t_kind, .int t_where])), (a_p1, .inr (9, [.ref a_p1_bytes, .int p1_size, .int p1_at, .int p1_token, .int p1_from, .int p1_value])), (a_p1_bytes, .inl (g.1 0, 320, .inl p1_bytes))] (fun r W' => ∃ (nw_t_kind : Int32) (nw_t_where : Int32) (nw_p1_at : Int32) (nw_p1_token : Int32) (nw_p1_from : Int32) (nw_p1_value : Int32), W' = [(a_t, .inr (6, [.int nw_t_kind, .int nw_t_where])), (a_p1, .inr (9, [.ref a_p1_bytes, .int p1_size, .int nw_p1_at, .int nw_p1_token, .int nw_p1_from, .int nw_p1_value])), (a_p1_bytes, .inl (g.1 0, 320, .inl p1_bytes))] ∧ post r nw_t_kind nw_t_where nw_p1_at nw_p1_token nw_p1_from nw_p1_value) := by
  refine Cz.of (cc := cX6_takeName) (maxL := 5) (by decide) rfl (Nat.le_of_ble_eq_true rfl) ?_
  intro p e s m args below meth c A Q hx hb hml hts hown hA H locs hP hD hS hG ls hl hret
  have hown : s.vm.findClass RX6 = some m.cls := hown
  have hl : lv_has ls 5 [(0, .ref a_t), (1, .ref a_p1), (2, .int x2), (3, .int x3)] := hl
  have lk0 := hts (.fieldLink RX6 18 "KnockWall$Tape" "at" "I") (List.mem_cons_of_mem _ (inR_10 (List.mem_of_getElem? (i := 18) rfl)))
  have lk1 := hts (.fieldLink RX6 84 "KnockWall$Tape" "from" "I") (List.mem_cons_of_mem _ (inR_11 (List.mem_of_getElem? (i := 14) rfl)))
  have L38 : ∀ (t_kind : Int32) (t_where : Int32) (p1_at : Int32) (p1_token : Int32) (p1_from : Int32) (p1_value : Int32), B_X6_takeName_38 t_kind t_where p1_at p1_token p1_from p1_value post → ∀ (H : Heap) (locs : List Loc), va_P D vwCl [(a_t, .inr (6, [.int t_kind, .int t_where])), (a_p1, .inr (9, [.ref a_p1_bytes, .int p1_size, .int p1_at, .int p1_token, .int p1_from, .int p1_value])), (a_p1_bytes, .inl (g.1 0, 320, .inl p1_bytes))] H → va_D A [(a_t, .inr (6, [.int t_kind, .int t_where])), (a_p1, .inr (9, [.ref a_p1_bytes, .int p1_size, .int p1_at, .int p1_token, .int p1_from, .int p1_value])), (a_p1_bytes, .inl (g.1 0, 320, .inl p1_bytes))] → va_S A s.heap H locs → ∀ (ls : Array Slot), lv_has ls 5 [(0, .ref a_t), (1, .ref a_p1)] → W p l e rmX6_takeName s m args below meth c H locs 0 0 Q (F0 m 38 ls []) := by
    intro t_kind t_where p1_at p1_token p1_from p1_value
    intro h H locs hP hD hS ls hl
    unfold B_X6_takeName_38 at h
    try dsimp only at h
    refine lv_aload_n hx hb dX6_takeName_38 rfl (lv_at hl 0 rfl) ?_
    refine lv_iconst (v := 3) hx hb dX6_takeName_39 (by decide) ?_
    refine lv_aload_n hx hb dX6_takeName_40 rfl (lv_at hl 1 rfl) ?_
    refine va_get (ci := 9) (v := .int p1_from) (C := RX9) (T := TX9) (N := 6) hx hb hts icX9 hown hG.k hP 1 rfl rfl 4 (by decide) lk1 (fun _ h9 => h9) rfl dX6_takeName_41 ?_
    refine k_i (wr := [(a_p1, .inr (9, [.ref a_p1_bytes, .int p1_size, .int p1_at, .int p1_token, .int p1_from, .int p1_value])), (a_p1_bytes, .inl (g.1 0, 320, .inl p1_bytes))]) hA hP hD hS [0] [1, 2] rfl rfl (by decide) (by decide) (va_runV (As := [.int 3, .int p1_from]) (rest := []) ⟨hx, hb, hml, hown, hts⟩ (c_X6_fail l D g a_t t_kind t_where 3 p1_from _ h H.size) (cwV 2 hts (gdV (inR_11 (List.mem_of_getElem? (i := 19) rfl)) (inR_11 (List.mem_of_getElem? (i := 20) rfl)) (inR_11 (List.mem_of_getElem? (i := 21) rfl)) (inR_1 (List.mem_of_getElem? (i := 19) rfl)) (inR_11 (List.mem_of_getElem? (i := 22) rfl))) rfl rfl rfl hdX6_fail ⟨Nat.le_of_ble_eq_true rfl, Nat.le_of_ble_eq_true rfl⟩) (k_preV (q0 := 0) hG hA hP hD hS [0] rfl (by decide) rfl rfl) rfl rfl hl.1 rfl (lv_room (Nat.le_of_ble_eq_true rfl)) dX6_takeName_44 ⟨Nat.zero_le _, Nat.zero_le _⟩) (fun r5 W' H locs h hP hD hS => ?_)
    obtain ⟨u5_t_kind, u5_t_where, rfl, h⟩ := h
    have hP : va_P D vwCl [(a_t, .inr (6, [.int u5_t_kind, .int u5_t_where])), (a_p1, .inr (9, [.ref a_p1_bytes, .int p1_size, .int p1_at, .int p1_token, .int p1_from, .int p1_value])), (a_p1_bytes, .inl (g.1 0, 320, .inl p1_bytes))] H := hP.sub [2, 0, 1] rfl
    have hD : va_D A [(a_t, .inr (6, [.int u5_t_kind, .int u5_t_where])), (a_p1, .inr (9, [.ref a_p1_bytes, .int p1_size, .int p1_at, .int p1_token, .int p1_from, .int p1_value])), (a_p1_bytes, .inl (g.1 0, 320, .inl p1_bytes))] := hD.sub [2, 0, 1] (by decide) rfl
    refine lv_if_eq (tgt := 54) hx hb dX6_takeName_47 (by decide) (fun c6 => ?_) (fun c6 => ?_)
    · have h := h.1 c6
      refine lv_iconst (v := 0) hx hb dX6_takeName_54 (by decide) ?_
      exact hret 0 _ _ _ _ _ (Or.inl rfl) ⟨u5_t_kind, u5_t_where, p1_at, p1_token, p1_from, p1_value, rfl, h⟩ hP hD hS dX6_takeName_55
    · have h := h.2 c6
      refine lv_iconst (v := 1) hx hb dX6_takeName_50 (by decide) ?_
      refine lv_goto (tgt := 55) hx hb dX6_takeName_51 (by decide) ?_
      exact hret 1 _ _ _ _ _ (Or.inr rfl) ⟨u5_t_kind, u5_t_where, p1_at, p1_token, p1_from, p1_value, rfl, h⟩ hP hD hS dX6_takeName_55
  unfold wp_X6_takeName at h
  try dsimp only at h
  refine lv_aload_n hx hb dX6_takeName_0 rfl (lv_at hl 1 rfl) ?_
  refine k_v (wr := [(a_t, .inr (6, [.int t_kind, .int t_where]))]) hA hP hD hS [1, 2] [0] rfl rfl (by decide) (by decide) (va_runV (As := []) (rest := []) ⟨hx, hb, hml, hown, hts⟩ (c_X9_nextToken l D g a_p1 a_p1_bytes p1_size p1_at p1_token p1_from p1_value p1_bytes _ h H.size) (cwV 0 hts (gdV (inR_10 (List.mem_of_getElem? (i := 21) rfl)) (inR_10 (List.mem_of_getElem? (i := 22) rfl)) (inR_10 (List.mem_of_getElem? (i := 23) rfl)) (inR_1 (List.mem_of_getElem? (i := 15) rfl)) (inR_11 (List.mem_of_getElem? (i := 0) rfl))) rfl rfl rfl hdX9_nextToken ⟨Nat.le_of_ble_eq_true rfl, Nat.le_of_ble_eq_true rfl⟩) (k_preV (q0 := 1) hG hA hP hD hS [1, 2] rfl (by decide) rfl rfl) rfl rfl hl.1 rfl (lv_room (Nat.le_of_ble_eq_true rfl)) dX6_takeName_1 ⟨Nat.zero_le _, Nat.zero_le _⟩) (fun W' H locs h hP hD hS => ?_)
  obtain ⟨u1_t_at, u1_t_token, u1_t_from, u1_t_value, rfl, h⟩ := h
  have hP : va_P D vwCl [(a_t, .inr (6, [.int t_kind, .int t_where])), (a_p1, .inr (9, [.ref a_p1_bytes, .int p1_size, .int u1_t_at, .int u1_t_token, .int u1_t_from, .int u1_t_value])), (a_p1_bytes, .inl (g.1 0, 320, .inl p1_bytes))] H := hP.sub [0, 1, 2] rfl
  have hD : va_D A [(a_t, .inr (6, [.int t_kind, .int t_where])), (a_p1, .inr (9, [.ref a_p1_bytes, .int p1_size, .int u1_t_at, .int u1_t_token, .int u1_t_from, .int u1_t_value])), (a_p1_bytes, .inl (g.1 0, 320, .inl p1_bytes))] := hD.sub [0, 1, 2] (by decide) rfl
  refine lv_aload_n hx hb dX6_takeName_4 rfl (lv_at hl 0 rfl) ?_
  refine lv_aload_n hx hb dX6_takeName_5 rfl (lv_at hl 1 rfl) ?_
  refine lv_iconst (v := 2) hx hb dX6_takeName_6 (by decide) ?_
  refine k_i (wr := [(a_p1_bytes, .inl (g.1 0, 320, .inl p1_bytes))]) hA hP hD hS [0, 1] [2] rfl rfl (by decide) (by decide) (va_runV (As := [.ref a_p1, .int 2]) (rest := []) ⟨hx, hb, hml, hown, hts⟩ (c_X6_isToken l D g a_t a_p1 (.ref a_p1_bytes) (.int p1_size) (.int u1_t_at) (.int u1_t_value) t_kind t_where u1_t_token u1_t_from 2 _ h H.size) (cwV 2 hts (gdV (inR_11 (List.mem_of_getElem? (i := 15) rfl)) (inR_11 (List.mem_of_getElem? (i := 16) rfl)) (inR_11 (List.mem_of_getElem? (i := 17) rfl)) (inR_1 (List.mem_of_getElem? (i := 19) rfl)) (inR_11 (List.mem_of_getElem? (i := 18) rfl))) rfl rfl rfl hdX6_isToken ⟨Nat.le_of_ble_eq_true rfl, Nat.le_of_ble_eq_true rfl⟩) (k_preV (q0 := 0) hG hA hP hD hS [0, 1] rfl (by decide) rfl rfl) rfl rfl hl.1 rfl (lv_room (Nat.le_of_ble_eq_true rfl)) dX6_takeName_7 ⟨Nat.zero_le _, Nat.zero_le _⟩) (fun r2 W' H locs h hP hD hS => ?_)
  obtain ⟨u2_t_kind, u2_t_where, rfl, h⟩ := h
  have hP : va_P D vwCl [(a_t, .inr (6, [.int u2_t_kind, .int u2_t_where])), (a_p1, .inr (9, [.ref a_p1_bytes, .int p1_size, .int u1_t_at, .int u1_t_token, .int u1_t_from, .int u1_t_value])), (a_p1_bytes, .inl (g.1 0, 320, .inl p1_bytes))] H := hP.sub [1, 2, 0] rfl
  have hD : va_D A [(a_t, .inr (6, [.int u2_t_kind, .int u2_t_where])), (a_p1, .inr (9, [.ref a_p1_bytes, .int p1_size, .int u1_t_at, .int u1_t_token, .int u1_t_from, .int u1_t_value])), (a_p1_bytes, .inl (g.1 0, 320, .inl p1_bytes))] := hD.sub [1, 2, 0] (by decide) rfl
  refine lv_if_ne (tgt := 15) hx hb dX6_takeName_10 (by decide) (fun c3 => ?_) (fun c3 => ?_)
  · have h := h.1 c3
    refine lv_aload_n hx hb dX6_takeName_15 rfl (lv_at hl 1 rfl) ?_
    refine va_get (ci := 9) (v := .int u1_t_at) (C := RX9) (T := TX9) (N := 6) hx hb hts icX9 hown hG.k hP 1 rfl rfl 2 (by decide) lk0 (fun _ h9 => h9) rfl dX6_takeName_16 ?_
    refine lv_aload_n hx hb dX6_takeName_19 rfl (lv_at hl 1 rfl) ?_
    refine va_get (ci := 9) (v := .int u1_t_from) (C := RX9) (T := TX9) (N := 6) hx hb hts icX9 hown hG.k hP 1 rfl rfl 4 (by decide) lk1 (fun _ h9 => h9) rfl dX6_takeName_20 ?_
    refine lv_isub hx hb dX6_takeName_23 ?_
    refine lv_istore (lv' := [(4, .int (u1_t_at - u1_t_from)), (0, .ref a_t), (1, .ref a_p1), (2, .int x2), (3, .int x3)]) hx hb dX6_takeName_24 hl (by decide) rfl (fun ls hl => ?_)
    refine lv_iload hx hb dX6_takeName_26 (lv_at hl 0 rfl) ?_
    refine lv_iload_n hx hb dX6_takeName_28 rfl (lv_at hl 3 rfl) ?_
    refine lv_icmp_lt (tgt := 38) hx hb dX6_takeName_29 (by decide) (fun c4 => ?_) (fun c4 => ?_)
    · have h := h.1 c4
      exact L38 u2_t_kind u2_t_where u1_t_at u1_t_token u1_t_from u1_t_value h _ _ hP hD hS _ (lv_sub hl [1, 2] rfl)
    · have h := h.2 c4
      refine lv_iload hx hb dX6_takeName_32 (lv_at hl 0 rfl) ?_
      refine lv_iload_n hx hb dX6_takeName_34 rfl (lv_at hl 4 rfl) ?_
      refine lv_icmp_le (tgt := 50) hx hb dX6_takeName_35 (by decide) (fun c7 => ?_) (fun c7 => ?_)
      · have h := h.1 c7
        refine lv_iconst (v := 1) hx hb dX6_takeName_50 (by decide) ?_
        refine lv_goto (tgt := 55) hx hb dX6_takeName_51 (by decide) ?_
        exact hret 1 _ _ _ _ _ (Or.inr rfl) ⟨u2_t_kind, u2_t_where, u1_t_at, u1_t_token, u1_t_from, u1_t_value, rfl, h⟩ hP hD hS dX6_takeName_55
      · have h := h.2 c7
        exact L38 u2_t_kind u2_t_where u1_t_at u1_t_token u1_t_from u1_t_value h _ _ hP hD hS _ (lv_sub hl [1, 2] rfl)
  · have h := h.2 c3
    refine lv_iconst (v := 0) hx hb dX6_takeName_13 (by decide) ?_
    exact hret 0 _ _ _ _ _ (Or.inl rfl) ⟨u2_t_kind, u2_t_where, u1_t_at, u1_t_token, u1_t_from, u1_t_value, rfl, h⟩ hP hD hS dX6_takeName_14
theorem hdX6_takeSign : yX6_takeSign.cls = RX6 ∧ yX6_takeSign.cls ≠ "java/lang/invoke/MethodHandle" ∧ yX6_takeSign.cls ≠ "java/lang/invoke/VarHandle" ∧ (parseMethodDescriptor yX6_takeSign.desc).map (fun d => d.parameters.length) = some 1 := by decide +kernel
abbrev rmX6_takeSign : Room := { frames := 3, cells := 0, slots := 0, locals := 300 }
set_option maxHeartbeats 4000000 in
set_option maxRecDepth 100000 in
theorem c_X6_takeSign (l : Launch) (D : va_G) (g : gE) (a_t : Nat) (a_p1 : Nat) (a_p1_bytes : Nat) (t_kind : Int32) (t_where : Int32) (p1_size : Int32) (p1_at : Int32) (p1_token : Int32) (p1_from : Int32) (p1_value : Int32) (p1_bytes : Nat → Int32) (post : Int32 → Int32 → Int32 → Int32 → Int32 → Int32 → Int32 → Prop) (h : wp_X6_takeSign t_kind t_where p1_size p1_at p1_token p1_from p1_value p1_bytes post) : Ci l D g yX6_takeSign (.code yX6_takeSign cX6_takeSign 2 (some .boolean) :: wsL_law) rmX6_takeSign [.ref a_t, .ref a_p1] [(a_t, .inr (6, [.int t_kind, .int t_where])), (a_p1, .inr (9, [.ref a_p1_bytes, .int p1_size, .int p1_at, .int p1_token, .int p1_from, .int p1_value])), (a_p1_bytes, .inl (g.1 0, 320, .inl p1_bytes))] (fun r W' => ∃ (nw_t_kind : Int32) (nw_t_where : Int32) (nw_p1_at : Int32) (nw_p1_token : Int32) (nw_p1_from : Int32) (nw_p1_value : Int32), W' = [(a_t, .inr (6, [.int nw_t_kind, .int nw_t_where])), (a_p1, .inr (9, [.ref a_p1_bytes, .int p1_size, .int nw_p1_at, .int nw_p1_token, .int nw_p1_from, .int nw_p1_value])), (a_p1_bytes, .inl (g.1 0, 320, .inl p1_bytes))] ∧ post r nw_t_kind nw_t_where nw_p1_at nw_p1_token nw_p1_from nw_p1_value) := by
  refine Cz.of (cc := cX6_takeSign) (maxL := 2) (by decide) rfl (Nat.le_of_ble_eq_true rfl) ?_
  intro p e s m args below meth c A Q hx hb hml hts hown hA H locs hP hD hS hG ls hl hret
  have hown : s.vm.findClass RX6 = some m.cls := hown
  have hl : lv_has ls 2 [(0, .ref a_t), (1, .ref a_p1)] := hl
  unfold wp_X6_takeSign at h
  try dsimp only at h
  refine lv_aload_n hx hb dX6_takeSign_0 rfl (lv_at hl 1 rfl) ?_
  refine k_v (wr := [(a_t, .inr (6, [.int t_kind, .int t_where]))]) hA hP hD hS [1, 2] [0] rfl rfl (by decide) (by decide) (va_runV (As := []) (rest := []) ⟨hx, hb, hml, hown, hts⟩ (c_X9_nextToken l D g a_p1 a_p1_bytes p1_size p1_at p1_token p1_from p1_value p1_bytes _ h H.size) (cwV 0 hts (gdV (inR_10 (List.mem_of_getElem? (i := 21) rfl)) (inR_10 (List.mem_of_getElem? (i := 22) rfl)) (inR_10 (List.mem_of_getElem? (i := 23) rfl)) (inR_1 (List.mem_of_getElem? (i := 15) rfl)) (inR_11 (List.mem_of_getElem? (i := 0) rfl))) rfl rfl rfl hdX9_nextToken ⟨Nat.le_of_ble_eq_true rfl, Nat.le_of_ble_eq_true rfl⟩) (k_preV (q0 := 1) hG hA hP hD hS [1, 2] rfl (by decide) rfl rfl) rfl rfl hl.1 rfl (lv_room (Nat.le_of_ble_eq_true rfl)) dX6_takeSign_1 ⟨Nat.zero_le _, Nat.zero_le _⟩) (fun W' H locs h hP hD hS => ?_)
  obtain ⟨u1_t_at, u1_t_token, u1_t_from, u1_t_value, rfl, h⟩ := h
  have hP : va_P D vwCl [(a_t, .inr (6, [.int t_kind, .int t_where])), (a_p1, .inr (9, [.ref a_p1_bytes, .int p1_size, .int u1_t_at, .int u1_t_token, .int u1_t_from, .int u1_t_value])), (a_p1_bytes, .inl (g.1 0, 320, .inl p1_bytes))] H := hP.sub [0, 1, 2] rfl
  have hD : va_D A [(a_t, .inr (6, [.int t_kind, .int t_where])), (a_p1, .inr (9, [.ref a_p1_bytes, .int p1_size, .int u1_t_at, .int u1_t_token, .int u1_t_from, .int u1_t_value])), (a_p1_bytes, .inl (g.1 0, 320, .inl p1_bytes))] := hD.sub [0, 1, 2] (by decide) rfl
  refine lv_aload_n hx hb dX6_takeSign_4 rfl (lv_at hl 0 rfl) ?_
  refine lv_aload_n hx hb dX6_takeSign_5 rfl (lv_at hl 1 rfl) ?_
  refine lv_iconst (v := 4) hx hb dX6_takeSign_6 (by decide) ?_
  refine k_i (wr := [(a_p1_bytes, .inl (g.1 0, 320, .inl p1_bytes))]) hA hP hD hS [0, 1] [2] rfl rfl (by decide) (by decide) (va_runV (As := [.ref a_p1, .int 4]) (rest := []) ⟨hx, hb, hml, hown, hts⟩ (c_X6_isToken l D g a_t a_p1 (.ref a_p1_bytes) (.int p1_size) (.int u1_t_at) (.int u1_t_value) t_kind t_where u1_t_token u1_t_from 4 _ h H.size) (cwV 2 hts (gdV (inR_11 (List.mem_of_getElem? (i := 15) rfl)) (inR_11 (List.mem_of_getElem? (i := 16) rfl)) (inR_11 (List.mem_of_getElem? (i := 17) rfl)) (inR_1 (List.mem_of_getElem? (i := 19) rfl)) (inR_11 (List.mem_of_getElem? (i := 18) rfl))) rfl rfl rfl hdX6_isToken ⟨Nat.le_of_ble_eq_true rfl, Nat.le_of_ble_eq_true rfl⟩) (k_preV (q0 := 0) hG hA hP hD hS [0, 1] rfl (by decide) rfl rfl) rfl rfl hl.1 rfl (lv_room (Nat.le_of_ble_eq_true rfl)) dX6_takeSign_7 ⟨Nat.zero_le _, Nat.zero_le _⟩) (fun r2 W' H locs h hP hD hS => ?_)
  obtain ⟨u2_t_kind, u2_t_where, rfl, h⟩ := h
  have hP : va_P D vwCl [(a_t, .inr (6, [.int u2_t_kind, .int u2_t_where])), (a_p1, .inr (9, [.ref a_p1_bytes, .int p1_size, .int u1_t_at, .int u1_t_token, .int u1_t_from, .int u1_t_value])), (a_p1_bytes, .inl (g.1 0, 320, .inl p1_bytes))] H := hP.sub [1, 2, 0] rfl
  have hD : va_D A [(a_t, .inr (6, [.int u2_t_kind, .int u2_t_where])), (a_p1, .inr (9, [.ref a_p1_bytes, .int p1_size, .int u1_t_at, .int u1_t_token, .int u1_t_from, .int u1_t_value])), (a_p1_bytes, .inl (g.1 0, 320, .inl p1_bytes))] := hD.sub [1, 2, 0] (by decide) rfl
  obtain ⟨hzb, h⟩ := h
  exact hret r2 _ _ _ _ _ hzb ⟨u2_t_kind, u2_t_where, u1_t_at, u1_t_token, u1_t_from, u1_t_value, rfl, h⟩ hP hD hS dX6_takeSign_10
theorem hdX6_takeTableLine : yX6_takeTableLine.cls = RX6 ∧ yX6_takeTableLine.cls ≠ "java/lang/invoke/MethodHandle" ∧ yX6_takeTableLine.cls ≠ "java/lang/invoke/VarHandle" ∧ (parseMethodDescriptor yX6_takeTableLine.desc).map (fun d => d.parameters.length) = some 2 := by decide +kernel
abbrev rmX6_takeTableLine : Room := { frames := 4, cells := 0, slots := 0, locals := 400 }
set_option maxHeartbeats 4000000 in
set_option maxRecDepth 100000 in
theorem c_X6_takeTableLine (l : Launch) (D : va_G) (g : gE) (a_t : Nat) (a_p1 : Nat) (a_p2 : Nat) (a_p1_bytes : Nat) (a_p2_letters : Nat) (o_p2_words : Value) (o_p2_weights : Value) (o_p2_shorts : Value) (o_p2_longs : Value) (o_p2_night : Value) (o_p2_guards : Value) (o_p2_less : Value) (o_p2_more : Value) (o_p2_knock : Value) (o_p2_pause : Value) (o_p2_gap : Value) (o_p2_slipTold : Value) (o_p2_timeTold : Value) (t_kind : Int32) (t_where : Int32) (p1_size : Int32) (p1_at : Int32) (p1_token : Int32) (p1_from : Int32) (p1_value : Int32) (p2_tableTold : Int32) (p1_bytes : Nat → Int32) (p2_letters : Nat → Int32) (post : Int32 → Int32 → Int32 → Int32 → Int32 → Int32 → Int32 → Int32 → (Nat → Int32) → Prop) (h : wp_X6_takeTableLine t_kind t_where p1_size p1_at p1_token p1_from p1_value p2_tableTold p1_bytes p2_letters post) : Ci l D g yX6_takeTableLine (.code yX6_takeTableLine cX6_takeTableLine 3 (some .boolean) :: wsL_law) rmX6_takeTableLine [.ref a_t, .ref a_p1, .ref a_p2] [(a_t, .inr (6, [.int t_kind, .int t_where])), (a_p1, .inr (9, [.ref a_p1_bytes, .int p1_size, .int p1_at, .int p1_token, .int p1_from, .int p1_value])), (a_p2, .inr (0, [.ref a_p2_letters, o_p2_words, o_p2_weights, o_p2_shorts, o_p2_longs, o_p2_night, o_p2_guards, o_p2_less, o_p2_more, o_p2_knock, o_p2_pause, o_p2_gap, .int p2_tableTold, o_p2_slipTold, o_p2_timeTold])), (a_p1_bytes, .inl (g.1 0, 320, .inl p1_bytes)), (a_p2_letters, .inl (g.1 0, 25, .inl p2_letters))] (fun r W' => ∃ (nw_t_kind : Int32) (nw_t_where : Int32) (nw_p1_at : Int32) (nw_p1_token : Int32) (nw_p1_from : Int32) (nw_p1_value : Int32) (nw_p2_tableTold : Int32) (nw_p2_letters : Nat → Int32), W' = [(a_t, .inr (6, [.int nw_t_kind, .int nw_t_where])), (a_p1, .inr (9, [.ref a_p1_bytes, .int p1_size, .int nw_p1_at, .int nw_p1_token, .int nw_p1_from, .int nw_p1_value])), (a_p2, .inr (0, [.ref a_p2_letters, o_p2_words, o_p2_weights, o_p2_shorts, o_p2_longs, o_p2_night, o_p2_guards, o_p2_less, o_p2_more, o_p2_knock, o_p2_pause, o_p2_gap, .int nw_p2_tableTold, o_p2_slipTold, o_p2_timeTold])), (a_p1_bytes, .inl (g.1 0, 320, .inl p1_bytes)), (a_p2_letters, .inl (g.1 0, 25, .inl nw_p2_letters))] ∧ post r nw_t_kind nw_t_where nw_p1_at nw_p1_token nw_p1_from nw_p1_value nw_p2_tableTold nw_p2_letters) := by
  refine Cz.of (cc := cX6_takeTableLine) (maxL := 3) (by decide) rfl (Nat.le_of_ble_eq_true rfl) ?_
  intro p e s m args below meth c A Q hx hb hml hts hown hA H locs hP hD hS hG ls hl hret
  have hown : s.vm.findClass RX6 = some m.cls := hown
  have hl : lv_has ls 3 [(0, .ref a_t), (1, .ref a_p1), (2, .ref a_p2)] := hl
  have lk0 := hts (.fieldLink RX6 87 "KnockWall$Code" "tableTold" "Z") (List.mem_cons_of_mem _ (inR_14 (List.mem_of_getElem? (i := 8) rfl)))
  have lk1 := hts (.fieldLink RX6 84 "KnockWall$Tape" "from" "I") (List.mem_cons_of_mem _ (inR_11 (List.mem_of_getElem? (i := 14) rfl)))
  unfold wp_X6_takeTableLine at h
  try dsimp only at h
  refine lv_aload_n hx hb dX6_takeTableLine_0 rfl (lv_at hl 2 rfl) ?_
  refine va_get (ci := 0) (v := .int p2_tableTold) (C := RX0) (T := TX0) (N := 15) hx hb hts icX0 hown hG.k hP 2 rfl rfl 12 (by decide) lk0 (fun _ h9 => h9) rfl dX6_takeTableLine_1 ?_
  refine lv_if_eq (tgt := 17) hx hb dX6_takeTableLine_4 (by decide) (fun c1 => ?_) (fun c1 => ?_)
  · have h := h.1 c1
    refine lv_aload_n hx hb dX6_takeTableLine_17 rfl (lv_at hl 2 rfl) ?_
    refine lv_iconst (v := 1) hx hb dX6_takeTableLine_18 (by decide) ?_
    refine va_put (ci := 0) (v := .int 1) (C := RX0) (T := TX0) (N := 15) hx hb hts icX0 tyX0 tyX0_ok nmX0 hown hG.k hP hD hS 2 rfl rfl 12 (by decide) lk0 (fun _ h9 => h9) rfl (tyX0_ok 12 (by decide)) rfl rfl (Nat.le_of_ble_eq_true rfl) dX6_takeTableLine_19 (fun H locs hP hD hS => ?_)
    have hP : va_P D vwCl [(a_t, .inr (6, [.int t_kind, .int t_where])), (a_p1, .inr (9, [.ref a_p1_bytes, .int p1_size, .int p1_at, .int p1_token, .int p1_from, .int p1_value])), (a_p2, .inr (0, [.ref a_p2_letters, o_p2_words, o_p2_weights, o_p2_shorts, o_p2_longs, o_p2_night, o_p2_guards, o_p2_less, o_p2_more, o_p2_knock, o_p2_pause, o_p2_gap, .int 1, o_p2_slipTold, o_p2_timeTold])), (a_p1_bytes, .inl (g.1 0, 320, .inl p1_bytes)), (a_p2_letters, .inl (g.1 0, 25, .inl p2_letters))] H := hP
    have hD : va_D A [(a_t, .inr (6, [.int t_kind, .int t_where])), (a_p1, .inr (9, [.ref a_p1_bytes, .int p1_size, .int p1_at, .int p1_token, .int p1_from, .int p1_value])), (a_p2, .inr (0, [.ref a_p2_letters, o_p2_words, o_p2_weights, o_p2_shorts, o_p2_longs, o_p2_night, o_p2_guards, o_p2_less, o_p2_more, o_p2_knock, o_p2_pause, o_p2_gap, .int 1, o_p2_slipTold, o_p2_timeTold])), (a_p1_bytes, .inl (g.1 0, 320, .inl p1_bytes)), (a_p2_letters, .inl (g.1 0, 25, .inl p2_letters))] := hD
    refine lv_aload_n hx hb dX6_takeTableLine_22 rfl (lv_at hl 0 rfl) ?_
    refine lv_aload_n hx hb dX6_takeTableLine_23 rfl (lv_at hl 1 rfl) ?_
    refine lv_bipush (v := 25) hx hb dX6_takeTableLine_24 (by decide) ?_
    refine lv_bipush (v := 25) hx hb dX6_takeTableLine_26 (by decide) ?_
    refine k_i (wr := [(a_p2, .inr (0, [.ref a_p2_letters, o_p2_words, o_p2_weights, o_p2_shorts, o_p2_longs, o_p2_night, o_p2_guards, o_p2_less, o_p2_more, o_p2_knock, o_p2_pause, o_p2_gap, .int 1, o_p2_slipTold, o_p2_timeTold])), (a_p2_letters, .inl (g.1 0, 25, .inl p2_letters))]) hA hP hD hS [0, 1, 3] [2, 4] rfl rfl (by decide) (by decide) (va_runV (As := [.ref a_p1, .int 25, .int 25]) (rest := []) ⟨hx, hb, hml, hown, hts⟩ (c_X6_takeName l D g a_t a_p1 a_p1_bytes t_kind t_where p1_size p1_at p1_token p1_from p1_value p1_bytes 25 25 _ h H.size) (cwV 3 hts (gdV (inR_14 (List.mem_of_getElem? (i := 9) rfl)) (inR_14 (List.mem_of_getElem? (i := 10) rfl)) (inR_14 (List.mem_of_getElem? (i := 11) rfl)) (inR_1 (List.mem_of_getElem? (i := 19) rfl)) (inR_14 (List.mem_of_getElem? (i := 12) rfl))) rfl rfl rfl hdX6_takeName ⟨Nat.le_of_ble_eq_true rfl, Nat.le_of_ble_eq_true rfl⟩) (k_preV (q0 := 0) hG hA hP hD hS [0, 1, 3] rfl (by decide) rfl rfl) rfl rfl hl.1 rfl (lv_room (Nat.le_of_ble_eq_true rfl)) dX6_takeTableLine_28 ⟨Nat.zero_le _, Nat.zero_le _⟩) (fun r2 W' H locs h hP hD hS => ?_)
    obtain ⟨u2_t_kind, u2_t_where, u2_p1_at, u2_p1_token, u2_p1_from, u2_p1_value, rfl, h⟩ := h
    have hP : va_P D vwCl [(a_t, .inr (6, [.int u2_t_kind, .int u2_t_where])), (a_p1, .inr (9, [.ref a_p1_bytes, .int p1_size, .int u2_p1_at, .int u2_p1_token, .int u2_p1_from, .int u2_p1_value])), (a_p2, .inr (0, [.ref a_p2_letters, o_p2_words, o_p2_weights, o_p2_shorts, o_p2_longs, o_p2_night, o_p2_guards, o_p2_less, o_p2_more, o_p2_knock, o_p2_pause, o_p2_gap, .int 1, o_p2_slipTold, o_p2_timeTold])), (a_p1_bytes, .inl (g.1 0, 320, .inl p1_bytes)), (a_p2_letters, .inl (g.1 0, 25, .inl p2_letters))] H := hP.sub [2, 3, 0, 4, 1] rfl
    have hD : va_D A [(a_t, .inr (6, [.int u2_t_kind, .int u2_t_where])), (a_p1, .inr (9, [.ref a_p1_bytes, .int p1_size, .int u2_p1_at, .int u2_p1_token, .int u2_p1_from, .int u2_p1_value])), (a_p2, .inr (0, [.ref a_p2_letters, o_p2_words, o_p2_weights, o_p2_shorts, o_p2_longs, o_p2_night, o_p2_guards, o_p2_less, o_p2_more, o_p2_knock, o_p2_pause, o_p2_gap, .int 1, o_p2_slipTold, o_p2_timeTold])), (a_p1_bytes, .inl (g.1 0, 320, .inl p1_bytes)), (a_p2_letters, .inl (g.1 0, 25, .inl p2_letters))] := hD.sub [2, 3, 0, 4, 1] (by decide) rfl
    refine lv_if_ne (tgt := 36) hx hb dX6_takeTableLine_31 (by decide) (fun c3 => ?_) (fun c3 => ?_)
    · have h := h.1 c3
      refine lv_aload_n hx hb dX6_takeTableLine_36 rfl (lv_at hl 2 rfl) ?_
      refine lv_aload_n hx hb dX6_takeTableLine_37 rfl (lv_at hl 1 rfl) ?_
      refine k_i (wr := [(a_t, .inr (6, [.int u2_t_kind, .int u2_t_where]))]) hA hP hD hS [2, 1, 4, 3] [0] rfl rfl (by decide) (by decide) (va_runV (As := [.ref a_p1]) (rest := []) ⟨hx, hb, hml, hown, hts⟩ (c_X0_takeTable l D g a_p2 a_p1 a_p2_letters a_p1_bytes (o_p2_words) (o_p2_weights) (o_p2_shorts) (o_p2_longs) (o_p2_night) (o_p2_guards) (o_p2_less) (o_p2_more) (o_p2_knock) (o_p2_pause) (o_p2_gap) (.int 1) (o_p2_slipTold) (o_p2_timeTold) (.int p1_size) (.int u2_p1_token) (.int u2_p1_value) u2_p1_at u2_p1_from p2_letters p1_bytes _ h H.size) (cwV 1 hts (gdV (inR_14 (List.mem_of_getElem? (i := 13) rfl)) (inR_14 (List.mem_of_getElem? (i := 14) rfl)) (inR_14 (List.mem_of_getElem? (i := 15) rfl)) (inR_3 (List.mem_of_getElem? (i := 0) rfl)) (inR_14 (List.mem_of_getElem? (i := 16) rfl))) rfl rfl rfl hdX0_takeTable ⟨Nat.le_of_ble_eq_true rfl, Nat.le_of_ble_eq_true rfl⟩) (k_preV (q0 := 2) hG hA hP hD hS [2, 1, 4, 3] rfl (by decide) rfl rfl) rfl rfl hl.1 rfl (lv_room (Nat.le_of_ble_eq_true rfl)) dX6_takeTableLine_38 ⟨Nat.zero_le _, Nat.zero_le _⟩) (fun r4 W' H locs h hP hD hS => ?_)
      obtain ⟨u4_t_letters, rfl, h⟩ := h
      have hP : va_P D vwCl [(a_t, .inr (6, [.int u2_t_kind, .int u2_t_where])), (a_p1, .inr (9, [.ref a_p1_bytes, .int p1_size, .int u2_p1_at, .int u2_p1_token, .int u2_p1_from, .int u2_p1_value])), (a_p2, .inr (0, [.ref a_p2_letters, o_p2_words, o_p2_weights, o_p2_shorts, o_p2_longs, o_p2_night, o_p2_guards, o_p2_less, o_p2_more, o_p2_knock, o_p2_pause, o_p2_gap, .int 1, o_p2_slipTold, o_p2_timeTold])), (a_p1_bytes, .inl (g.1 0, 320, .inl p1_bytes)), (a_p2_letters, .inl (g.1 0, 25, .inl u4_t_letters))] H := hP.sub [0, 2, 1, 4, 3] rfl
      have hD : va_D A [(a_t, .inr (6, [.int u2_t_kind, .int u2_t_where])), (a_p1, .inr (9, [.ref a_p1_bytes, .int p1_size, .int u2_p1_at, .int u2_p1_token, .int u2_p1_from, .int u2_p1_value])), (a_p2, .inr (0, [.ref a_p2_letters, o_p2_words, o_p2_weights, o_p2_shorts, o_p2_longs, o_p2_night, o_p2_guards, o_p2_less, o_p2_more, o_p2_knock, o_p2_pause, o_p2_gap, .int 1, o_p2_slipTold, o_p2_timeTold])), (a_p1_bytes, .inl (g.1 0, 320, .inl p1_bytes)), (a_p2_letters, .inl (g.1 0, 25, .inl u4_t_letters))] := hD.sub [0, 2, 1, 4, 3] (by decide) rfl
      refine lv_if_eq (tgt := 52) hx hb dX6_takeTableLine_41 (by decide) (fun c5 => ?_) (fun c5 => ?_)
      · have h := h.1 c5
        refine lv_aload_n hx hb dX6_takeTableLine_52 rfl (lv_at hl 0 rfl) ?_
        refine lv_iconst (v := 3) hx hb dX6_takeTableLine_53 (by decide) ?_
        refine lv_aload_n hx hb dX6_takeTableLine_54 rfl (lv_at hl 1 rfl) ?_
        refine va_get (ci := 9) (v := .int u2_p1_from) (C := RX9) (T := TX9) (N := 6) hx hb hts icX9 hown hG.k hP 1 rfl rfl 4 (by decide) lk1 (fun _ h9 => h9) rfl dX6_takeTableLine_55 ?_
        refine k_i (wr := [(a_p1, .inr (9, [.ref a_p1_bytes, .int p1_size, .int u2_p1_at, .int u2_p1_token, .int u2_p1_from, .int u2_p1_value])), (a_p2, .inr (0, [.ref a_p2_letters, o_p2_words, o_p2_weights, o_p2_shorts, o_p2_longs, o_p2_night, o_p2_guards, o_p2_less, o_p2_more, o_p2_knock, o_p2_pause, o_p2_gap, .int 1, o_p2_slipTold, o_p2_timeTold])), (a_p1_bytes, .inl (g.1 0, 320, .inl p1_bytes)), (a_p2_letters, .inl (g.1 0, 25, .inl u4_t_letters))]) hA hP hD hS [0] [1, 2, 3, 4] rfl rfl (by decide) (by decide) (va_runV (As := [.int 3, .int u2_p1_from]) (rest := []) ⟨hx, hb, hml, hown, hts⟩ (c_X6_fail l D g a_t u2_t_kind u2_t_where 3 u2_p1_from _ h H.size) (cwV 2 hts (gdV (inR_11 (List.mem_of_getElem? (i := 19) rfl)) (inR_11 (List.mem_of_getElem? (i := 20) rfl)) (inR_11 (List.mem_of_getElem? (i := 21) rfl)) (inR_1 (List.mem_of_getElem? (i := 19) rfl)) (inR_11 (List.mem_of_getElem? (i := 22) rfl))) rfl rfl rfl hdX6_fail ⟨Nat.le_of_ble_eq_true rfl, Nat.le_of_ble_eq_true rfl⟩) (k_preV (q0 := 0) hG hA hP hD hS [0] rfl (by decide) rfl rfl) rfl rfl hl.1 rfl (lv_room (Nat.le_of_ble_eq_true rfl)) dX6_takeTableLine_58 ⟨Nat.zero_le _, Nat.zero_le _⟩) (fun r6 W' H locs h hP hD hS => ?_)
        obtain ⟨u6_t_kind, u6_t_where, rfl, h⟩ := h
        have hP : va_P D vwCl [(a_t, .inr (6, [.int u6_t_kind, .int u6_t_where])), (a_p1, .inr (9, [.ref a_p1_bytes, .int p1_size, .int u2_p1_at, .int u2_p1_token, .int u2_p1_from, .int u2_p1_value])), (a_p2, .inr (0, [.ref a_p2_letters, o_p2_words, o_p2_weights, o_p2_shorts, o_p2_longs, o_p2_night, o_p2_guards, o_p2_less, o_p2_more, o_p2_knock, o_p2_pause, o_p2_gap, .int 1, o_p2_slipTold, o_p2_timeTold])), (a_p1_bytes, .inl (g.1 0, 320, .inl p1_bytes)), (a_p2_letters, .inl (g.1 0, 25, .inl u4_t_letters))] H := hP.sub [4, 0, 1, 2, 3] rfl
        have hD : va_D A [(a_t, .inr (6, [.int u6_t_kind, .int u6_t_where])), (a_p1, .inr (9, [.ref a_p1_bytes, .int p1_size, .int u2_p1_at, .int u2_p1_token, .int u2_p1_from, .int u2_p1_value])), (a_p2, .inr (0, [.ref a_p2_letters, o_p2_words, o_p2_weights, o_p2_shorts, o_p2_longs, o_p2_night, o_p2_guards, o_p2_less, o_p2_more, o_p2_knock, o_p2_pause, o_p2_gap, .int 1, o_p2_slipTold, o_p2_timeTold])), (a_p1_bytes, .inl (g.1 0, 320, .inl p1_bytes)), (a_p2_letters, .inl (g.1 0, 25, .inl u4_t_letters))] := hD.sub [4, 0, 1, 2, 3] (by decide) rfl
        obtain ⟨hzb, h⟩ := h
        exact hret r6 _ _ _ _ _ hzb ⟨u6_t_kind, u6_t_where, u2_p1_at, u2_p1_token, u2_p1_from, u2_p1_value, 1, u4_t_letters, rfl, h⟩ hP hD hS dX6_takeTableLine_61
      · have h := h.2 c5
        refine lv_aload_n hx hb dX6_takeTableLine_44 rfl (lv_at hl 0 rfl) ?_
        refine lv_aload_n hx hb dX6_takeTableLine_45 rfl (lv_at hl 1 rfl) ?_
        refine k_i (wr := [(a_p2, .inr (0, [.ref a_p2_letters, o_p2_words, o_p2_weights, o_p2_shorts, o_p2_longs, o_p2_night, o_p2_guards, o_p2_less, o_p2_more, o_p2_knock, o_p2_pause, o_p2_gap, .int 1, o_p2_slipTold, o_p2_timeTold])), (a_p2_letters, .inl (g.1 0, 25, .inl u4_t_letters))]) hA hP hD hS [0, 1, 3] [2, 4] rfl rfl (by decide) (by decide) (va_runV (As := [.ref a_p1]) (rest := []) ⟨hx, hb, hml, hown, hts⟩ (c_X6_takeSign l D g a_t a_p1 a_p1_bytes u2_t_kind u2_t_where p1_size u2_p1_at u2_p1_token u2_p1_from u2_p1_value p1_bytes _ h H.size) (cwV 1 hts (gdV (inR_15 (List.mem_of_getElem? (i := 7) rfl)) (inR_15 (List.mem_of_getElem? (i := 8) rfl)) (inR_15 (List.mem_of_getElem? (i := 9) rfl)) (inR_1 (List.mem_of_getElem? (i := 19) rfl)) (inR_15 (List.mem_of_getElem? (i := 10) rfl))) rfl rfl rfl hdX6_takeSign ⟨Nat.le_of_ble_eq_true rfl, Nat.le_of_ble_eq_true rfl⟩) (k_preV (q0 := 0) hG hA hP hD hS [0, 1, 3] rfl (by decide) rfl rfl) rfl rfl hl.1 rfl (lv_room (Nat.le_of_ble_eq_true rfl)) dX6_takeTableLine_46 ⟨Nat.zero_le _, Nat.zero_le _⟩) (fun r7 W' H locs h hP hD hS => ?_)
        obtain ⟨u7_t_kind, u7_t_where, u7_p1_at, u7_p1_token, u7_p1_from, u7_p1_value, rfl, h⟩ := h
        have hP : va_P D vwCl [(a_t, .inr (6, [.int u7_t_kind, .int u7_t_where])), (a_p1, .inr (9, [.ref a_p1_bytes, .int p1_size, .int u7_p1_at, .int u7_p1_token, .int u7_p1_from, .int u7_p1_value])), (a_p2, .inr (0, [.ref a_p2_letters, o_p2_words, o_p2_weights, o_p2_shorts, o_p2_longs, o_p2_night, o_p2_guards, o_p2_less, o_p2_more, o_p2_knock, o_p2_pause, o_p2_gap, .int 1, o_p2_slipTold, o_p2_timeTold])), (a_p1_bytes, .inl (g.1 0, 320, .inl p1_bytes)), (a_p2_letters, .inl (g.1 0, 25, .inl u4_t_letters))] H := hP.sub [2, 3, 0, 4, 1] rfl
        have hD : va_D A [(a_t, .inr (6, [.int u7_t_kind, .int u7_t_where])), (a_p1, .inr (9, [.ref a_p1_bytes, .int p1_size, .int u7_p1_at, .int u7_p1_token, .int u7_p1_from, .int u7_p1_value])), (a_p2, .inr (0, [.ref a_p2_letters, o_p2_words, o_p2_weights, o_p2_shorts, o_p2_longs, o_p2_night, o_p2_guards, o_p2_less, o_p2_more, o_p2_knock, o_p2_pause, o_p2_gap, .int 1, o_p2_slipTold, o_p2_timeTold])), (a_p1_bytes, .inl (g.1 0, 320, .inl p1_bytes)), (a_p2_letters, .inl (g.1 0, 25, .inl u4_t_letters))] := hD.sub [2, 3, 0, 4, 1] (by decide) rfl
        refine lv_goto (tgt := 61) hx hb dX6_takeTableLine_49 (by decide) ?_
        obtain ⟨hzb, h⟩ := h
        exact hret r7 _ _ _ _ _ hzb ⟨u7_t_kind, u7_t_where, u7_p1_at, u7_p1_token, u7_p1_from, u7_p1_value, 1, u4_t_letters, rfl, h⟩ hP hD hS dX6_takeTableLine_61
    · have h := h.2 c3
      refine lv_iconst (v := 0) hx hb dX6_takeTableLine_34 (by decide) ?_
      exact hret 0 _ _ _ _ _ (Or.inl rfl) ⟨u2_t_kind, u2_t_where, u2_p1_at, u2_p1_token, u2_p1_from, u2_p1_value, 1, p2_letters, rfl, h⟩ hP hD hS dX6_takeTableLine_35
  · have h := h.2 c1
    refine lv_aload_n hx hb dX6_takeTableLine_7 rfl (lv_at hl 0 rfl) ?_
    refine lv_iconst (v := 4) hx hb dX6_takeTableLine_8 (by decide) ?_
    refine lv_aload_n hx hb dX6_takeTableLine_9 rfl (lv_at hl 1 rfl) ?_
    refine va_get (ci := 9) (v := .int p1_from) (C := RX9) (T := TX9) (N := 6) hx hb hts icX9 hown hG.k hP 1 rfl rfl 4 (by decide) lk1 (fun _ h9 => h9) rfl dX6_takeTableLine_10 ?_
    refine k_i (wr := [(a_p1, .inr (9, [.ref a_p1_bytes, .int p1_size, .int p1_at, .int p1_token, .int p1_from, .int p1_value])), (a_p2, .inr (0, [.ref a_p2_letters, o_p2_words, o_p2_weights, o_p2_shorts, o_p2_longs, o_p2_night, o_p2_guards, o_p2_less, o_p2_more, o_p2_knock, o_p2_pause, o_p2_gap, .int p2_tableTold, o_p2_slipTold, o_p2_timeTold])), (a_p1_bytes, .inl (g.1 0, 320, .inl p1_bytes)), (a_p2_letters, .inl (g.1 0, 25, .inl p2_letters))]) hA hP hD hS [0] [1, 2, 3, 4] rfl rfl (by decide) (by decide) (va_runV (As := [.int 4, .int p1_from]) (rest := []) ⟨hx, hb, hml, hown, hts⟩ (c_X6_fail l D g a_t t_kind t_where 4 p1_from _ h H.size) (cwV 2 hts (gdV (inR_11 (List.mem_of_getElem? (i := 19) rfl)) (inR_11 (List.mem_of_getElem? (i := 20) rfl)) (inR_11 (List.mem_of_getElem? (i := 21) rfl)) (inR_1 (List.mem_of_getElem? (i := 19) rfl)) (inR_11 (List.mem_of_getElem? (i := 22) rfl))) rfl rfl rfl hdX6_fail ⟨Nat.le_of_ble_eq_true rfl, Nat.le_of_ble_eq_true rfl⟩) (k_preV (q0 := 0) hG hA hP hD hS [0] rfl (by decide) rfl rfl) rfl rfl hl.1 rfl (lv_room (Nat.le_of_ble_eq_true rfl)) dX6_takeTableLine_13 ⟨Nat.zero_le _, Nat.zero_le _⟩) (fun r8 W' H locs h hP hD hS => ?_)
    obtain ⟨u8_t_kind, u8_t_where, rfl, h⟩ := h
    have hP : va_P D vwCl [(a_t, .inr (6, [.int u8_t_kind, .int u8_t_where])), (a_p1, .inr (9, [.ref a_p1_bytes, .int p1_size, .int p1_at, .int p1_token, .int p1_from, .int p1_value])), (a_p2, .inr (0, [.ref a_p2_letters, o_p2_words, o_p2_weights, o_p2_shorts, o_p2_longs, o_p2_night, o_p2_guards, o_p2_less, o_p2_more, o_p2_knock, o_p2_pause, o_p2_gap, .int p2_tableTold, o_p2_slipTold, o_p2_timeTold])), (a_p1_bytes, .inl (g.1 0, 320, .inl p1_bytes)), (a_p2_letters, .inl (g.1 0, 25, .inl p2_letters))] H := hP.sub [4, 0, 1, 2, 3] rfl
    have hD : va_D A [(a_t, .inr (6, [.int u8_t_kind, .int u8_t_where])), (a_p1, .inr (9, [.ref a_p1_bytes, .int p1_size, .int p1_at, .int p1_token, .int p1_from, .int p1_value])), (a_p2, .inr (0, [.ref a_p2_letters, o_p2_words, o_p2_weights, o_p2_shorts, o_p2_longs, o_p2_night, o_p2_guards, o_p2_less, o_p2_more, o_p2_knock, o_p2_pause, o_p2_gap, .int p2_tableTold, o_p2_slipTold, o_p2_timeTold])), (a_p1_bytes, .inl (g.1 0, 320, .inl p1_bytes)), (a_p2_letters, .inl (g.1 0, 25, .inl p2_letters))] := hD.sub [4, 0, 1, 2, 3] (by decide) rfl
    obtain ⟨hzb, h⟩ := h
    exact hret r8 _ _ _ _ _ hzb ⟨u8_t_kind, u8_t_where, p1_at, p1_token, p1_from, p1_value, p2_tableTold, p2_letters, rfl, h⟩ hP hD hS dX6_takeTableLine_16
theorem hdX6_takeNumber : yX6_takeNumber.cls = RX6 ∧ yX6_takeNumber.cls ≠ "java/lang/invoke/MethodHandle" ∧ yX6_takeNumber.cls ≠ "java/lang/invoke/VarHandle" ∧ (parseMethodDescriptor yX6_takeNumber.desc).map (fun d => d.parameters.length) = some 3 := by decide +kernel
abbrev rmX6_takeNumber : Room := { frames := 3, cells := 0, slots := 0, locals := 300 }
set_option maxHeartbeats 4000000 in
set_option maxRecDepth 100000 in
theorem c_X6_takeNumber (l : Launch) (D : va_G) (g : gE) (a_t : Nat) (a_p1 : Nat) (a_p1_bytes : Nat) (t_kind : Int32) (t_where : Int32) (p1_size : Int32) (p1_at : Int32) (p1_token : Int32) (p1_from : Int32) (p1_value : Int32) (p1_bytes : Nat → Int32) (x2 : Int32) (x3 : Int32) (post : Int32 → Int32 → Int32 → Int32 → Int32 → Int32 → Int32 → Prop) (h : wp_X6_takeNumber t_kind t_where p1_size p1_at p1_token p1_from p1_value p1_bytes x2 x3 post) : Ci l D g yX6_takeNumber (.code yX6_takeNumber cX6_takeNumber 4 (some .boolean) :: wsL_law) rmX6_takeNumber [.ref a_t, .ref a_p1, .int x2, .int x3] [(a_t, .inr (6, [.int t_kind, .int t_where])), (a_p1, .inr (9, [.ref a_p1_bytes, .int p1_size, .int p1_at, .int p1_token, .int p1_from, .int p1_value])), (a_p1_bytes, .inl (g.1 0, 320, .inl p1_bytes))] (fun r W' => ∃ (nw_t_kind : Int32) (nw_t_where : Int32) (nw_p1_at : Int32) (nw_p1_token : Int32) (nw_p1_from : Int32) (nw_p1_value : Int32), W' = [(a_t, .inr (6, [.int nw_t_kind, .int nw_t_where])), (a_p1, .inr (9, [.ref a_p1_bytes, .int p1_size, .int nw_p1_at, .int nw_p1_token, .int nw_p1_from, .int nw_p1_value])), (a_p1_bytes, .inl (g.1 0, 320, .inl p1_bytes))] ∧ post r nw_t_kind nw_t_where nw_p1_at nw_p1_token nw_p1_from nw_p1_value) := by
  refine Cz.of (cc := cX6_takeNumber) (maxL := 4) (by decide) rfl (Nat.le_of_ble_eq_true rfl) ?_
  intro p e s m args below meth c A Q hx hb hml hts hown hA H locs hP hD hS hG ls hl hret
  have hown : s.vm.findClass RX6 = some m.cls := hown
  have hl : lv_has ls 4 [(0, .ref a_t), (1, .ref a_p1), (2, .int x2), (3, .int x3)] := hl
  have lk0 := hts (.fieldLink RX6 120 "KnockWall$Tape" "value" "I") (List.mem_cons_of_mem _ (inR_15 (List.mem_of_getElem? (i := 18) rfl)))
  have lk1 := hts (.fieldLink RX6 84 "KnockWall$Tape" "from" "I") (List.mem_cons_of_mem _ (inR_11 (List.mem_of_getElem? (i := 14) rfl)))
  have L31 : ∀ (t_kind : Int32) (t_where : Int32) (p1_at : Int32) (p1_token : Int32) (p1_from : Int32) (p1_value : Int32), B_X6_takeNumber_31 t_kind t_where p1_at p1_token p1_from p1_value post → ∀ (H : Heap) (locs : List Loc), va_P D vwCl [(a_t, .inr (6, [.int t_kind, .int t_where])), (a_p1, .inr (9, [.ref a_p1_bytes, .int p1_size, .int p1_at, .int p1_token, .int p1_from, .int p1_value])), (a_p1_bytes, .inl (g.1 0, 320, .inl p1_bytes))] H → va_D A [(a_t, .inr (6, [.int t_kind, .int t_where])), (a_p1, .inr (9, [.ref a_p1_bytes, .int p1_size, .int p1_at, .int p1_token, .int p1_from, .int p1_value])), (a_p1_bytes, .inl (g.1 0, 320, .inl p1_bytes))] → va_S A s.heap H locs → ∀ (ls : Array Slot), lv_has ls 4 [(0, .ref a_t), (1, .ref a_p1)] → W p l e rmX6_takeNumber s m args below meth c H locs 0 0 Q (F0 m 31 ls []) := by
    intro t_kind t_where p1_at p1_token p1_from p1_value
    intro h H locs hP hD hS ls hl
    unfold B_X6_takeNumber_31 at h
    try dsimp only at h
    refine lv_aload_n hx hb dX6_takeNumber_31 rfl (lv_at hl 0 rfl) ?_
    refine lv_iconst (v := 3) hx hb dX6_takeNumber_32 (by decide) ?_
    refine lv_aload_n hx hb dX6_takeNumber_33 rfl (lv_at hl 1 rfl) ?_
    refine va_get (ci := 9) (v := .int p1_from) (C := RX9) (T := TX9) (N := 6) hx hb hts icX9 hown hG.k hP 1 rfl rfl 4 (by decide) lk1 (fun _ h9 => h9) rfl dX6_takeNumber_34 ?_
    refine k_i (wr := [(a_p1, .inr (9, [.ref a_p1_bytes, .int p1_size, .int p1_at, .int p1_token, .int p1_from, .int p1_value])), (a_p1_bytes, .inl (g.1 0, 320, .inl p1_bytes))]) hA hP hD hS [0] [1, 2] rfl rfl (by decide) (by decide) (va_runV (As := [.int 3, .int p1_from]) (rest := []) ⟨hx, hb, hml, hown, hts⟩ (c_X6_fail l D g a_t t_kind t_where 3 p1_from _ h H.size) (cwV 2 hts (gdV (inR_11 (List.mem_of_getElem? (i := 19) rfl)) (inR_11 (List.mem_of_getElem? (i := 20) rfl)) (inR_11 (List.mem_of_getElem? (i := 21) rfl)) (inR_1 (List.mem_of_getElem? (i := 19) rfl)) (inR_11 (List.mem_of_getElem? (i := 22) rfl))) rfl rfl rfl hdX6_fail ⟨Nat.le_of_ble_eq_true rfl, Nat.le_of_ble_eq_true rfl⟩) (k_preV (q0 := 0) hG hA hP hD hS [0] rfl (by decide) rfl rfl) rfl rfl hl.1 rfl (lv_room (Nat.le_of_ble_eq_true rfl)) dX6_takeNumber_37 ⟨Nat.zero_le _, Nat.zero_le _⟩) (fun r5 W' H locs h hP hD hS => ?_)
    obtain ⟨u5_t_kind, u5_t_where, rfl, h⟩ := h
    have hP : va_P D vwCl [(a_t, .inr (6, [.int u5_t_kind, .int u5_t_where])), (a_p1, .inr (9, [.ref a_p1_bytes, .int p1_size, .int p1_at, .int p1_token, .int p1_from, .int p1_value])), (a_p1_bytes, .inl (g.1 0, 320, .inl p1_bytes))] H := hP.sub [2, 0, 1] rfl
    have hD : va_D A [(a_t, .inr (6, [.int u5_t_kind, .int u5_t_where])), (a_p1, .inr (9, [.ref a_p1_bytes, .int p1_size, .int p1_at, .int p1_token, .int p1_from, .int p1_value])), (a_p1_bytes, .inl (g.1 0, 320, .inl p1_bytes))] := hD.sub [2, 0, 1] (by decide) rfl
    refine lv_if_eq (tgt := 47) hx hb dX6_takeNumber_40 (by decide) (fun c6 => ?_) (fun c6 => ?_)
    · have h := h.1 c6
      refine lv_iconst (v := 0) hx hb dX6_takeNumber_47 (by decide) ?_
      exact hret 0 _ _ _ _ _ (Or.inl rfl) ⟨u5_t_kind, u5_t_where, p1_at, p1_token, p1_from, p1_value, rfl, h⟩ hP hD hS dX6_takeNumber_48
    · have h := h.2 c6
      refine lv_iconst (v := 1) hx hb dX6_takeNumber_43 (by decide) ?_
      refine lv_goto (tgt := 48) hx hb dX6_takeNumber_44 (by decide) ?_
      exact hret 1 _ _ _ _ _ (Or.inr rfl) ⟨u5_t_kind, u5_t_where, p1_at, p1_token, p1_from, p1_value, rfl, h⟩ hP hD hS dX6_takeNumber_48
  unfold wp_X6_takeNumber at h
  try dsimp only at h
  refine lv_aload_n hx hb dX6_takeNumber_0 rfl (lv_at hl 1 rfl) ?_
  refine k_v (wr := [(a_t, .inr (6, [.int t_kind, .int t_where]))]) hA hP hD hS [1, 2] [0] rfl rfl (by decide) (by decide) (va_runV (As := []) (rest := []) ⟨hx, hb, hml, hown, hts⟩ (c_X9_nextToken l D g a_p1 a_p1_bytes p1_size p1_at p1_token p1_from p1_value p1_bytes _ h H.size) (cwV 0 hts (gdV (inR_10 (List.mem_of_getElem? (i := 21) rfl)) (inR_10 (List.mem_of_getElem? (i := 22) rfl)) (inR_10 (List.mem_of_getElem? (i := 23) rfl)) (inR_1 (List.mem_of_getElem? (i := 15) rfl)) (inR_11 (List.mem_of_getElem? (i := 0) rfl))) rfl rfl rfl hdX9_nextToken ⟨Nat.le_of_ble_eq_true rfl, Nat.le_of_ble_eq_true rfl⟩) (k_preV (q0 := 1) hG hA hP hD hS [1, 2] rfl (by decide) rfl rfl) rfl rfl hl.1 rfl (lv_room (Nat.le_of_ble_eq_true rfl)) dX6_takeNumber_1 ⟨Nat.zero_le _, Nat.zero_le _⟩) (fun W' H locs h hP hD hS => ?_)
  obtain ⟨u1_t_at, u1_t_token, u1_t_from, u1_t_value, rfl, h⟩ := h
  have hP : va_P D vwCl [(a_t, .inr (6, [.int t_kind, .int t_where])), (a_p1, .inr (9, [.ref a_p1_bytes, .int p1_size, .int u1_t_at, .int u1_t_token, .int u1_t_from, .int u1_t_value])), (a_p1_bytes, .inl (g.1 0, 320, .inl p1_bytes))] H := hP.sub [0, 1, 2] rfl
  have hD : va_D A [(a_t, .inr (6, [.int t_kind, .int t_where])), (a_p1, .inr (9, [.ref a_p1_bytes, .int p1_size, .int u1_t_at, .int u1_t_token, .int u1_t_from, .int u1_t_value])), (a_p1_bytes, .inl (g.1 0, 320, .inl p1_bytes))] := hD.sub [0, 1, 2] (by decide) rfl
  refine lv_aload_n hx hb dX6_takeNumber_4 rfl (lv_at hl 0 rfl) ?_
  refine lv_aload_n hx hb dX6_takeNumber_5 rfl (lv_at hl 1 rfl) ?_
  refine lv_iconst (v := 3) hx hb dX6_takeNumber_6 (by decide) ?_
  refine k_i (wr := [(a_p1_bytes, .inl (g.1 0, 320, .inl p1_bytes))]) hA hP hD hS [0, 1] [2] rfl rfl (by decide) (by decide) (va_runV (As := [.ref a_p1, .int 3]) (rest := []) ⟨hx, hb, hml, hown, hts⟩ (c_X6_isToken l D g a_t a_p1 (.ref a_p1_bytes) (.int p1_size) (.int u1_t_at) (.int u1_t_value) t_kind t_where u1_t_token u1_t_from 3 _ h H.size) (cwV 2 hts (gdV (inR_11 (List.mem_of_getElem? (i := 15) rfl)) (inR_11 (List.mem_of_getElem? (i := 16) rfl)) (inR_11 (List.mem_of_getElem? (i := 17) rfl)) (inR_1 (List.mem_of_getElem? (i := 19) rfl)) (inR_11 (List.mem_of_getElem? (i := 18) rfl))) rfl rfl rfl hdX6_isToken ⟨Nat.le_of_ble_eq_true rfl, Nat.le_of_ble_eq_true rfl⟩) (k_preV (q0 := 0) hG hA hP hD hS [0, 1] rfl (by decide) rfl rfl) rfl rfl hl.1 rfl (lv_room (Nat.le_of_ble_eq_true rfl)) dX6_takeNumber_7 ⟨Nat.zero_le _, Nat.zero_le _⟩) (fun r2 W' H locs h hP hD hS => ?_)
  obtain ⟨u2_t_kind, u2_t_where, rfl, h⟩ := h
  have hP : va_P D vwCl [(a_t, .inr (6, [.int u2_t_kind, .int u2_t_where])), (a_p1, .inr (9, [.ref a_p1_bytes, .int p1_size, .int u1_t_at, .int u1_t_token, .int u1_t_from, .int u1_t_value])), (a_p1_bytes, .inl (g.1 0, 320, .inl p1_bytes))] H := hP.sub [1, 2, 0] rfl
  have hD : va_D A [(a_t, .inr (6, [.int u2_t_kind, .int u2_t_where])), (a_p1, .inr (9, [.ref a_p1_bytes, .int p1_size, .int u1_t_at, .int u1_t_token, .int u1_t_from, .int u1_t_value])), (a_p1_bytes, .inl (g.1 0, 320, .inl p1_bytes))] := hD.sub [1, 2, 0] (by decide) rfl
  refine lv_if_ne (tgt := 15) hx hb dX6_takeNumber_10 (by decide) (fun c3 => ?_) (fun c3 => ?_)
  · have h := h.1 c3
    refine lv_aload_n hx hb dX6_takeNumber_15 rfl (lv_at hl 1 rfl) ?_
    refine va_get (ci := 9) (v := .int u1_t_value) (C := RX9) (T := TX9) (N := 6) hx hb hts icX9 hown hG.k hP 1 rfl rfl 5 (by decide) lk0 (fun _ h9 => h9) rfl dX6_takeNumber_16 ?_
    refine lv_iload_n hx hb dX6_takeNumber_19 rfl (lv_at hl 2 rfl) ?_
    refine lv_icmp_lt (tgt := 31) hx hb dX6_takeNumber_20 (by decide) (fun c4 => ?_) (fun c4 => ?_)
    · have h := h.1 c4
      exact L31 u2_t_kind u2_t_where u1_t_at u1_t_token u1_t_from u1_t_value h _ _ hP hD hS _ (lv_sub hl [0, 1] rfl)
    · have h := h.2 c4
      refine lv_aload_n hx hb dX6_takeNumber_23 rfl (lv_at hl 1 rfl) ?_
      refine va_get (ci := 9) (v := .int u1_t_value) (C := RX9) (T := TX9) (N := 6) hx hb hts icX9 hown hG.k hP 1 rfl rfl 5 (by decide) lk0 (fun _ h9 => h9) rfl dX6_takeNumber_24 ?_
      refine lv_iload_n hx hb dX6_takeNumber_27 rfl (lv_at hl 3 rfl) ?_
      refine lv_icmp_le (tgt := 43) hx hb dX6_takeNumber_28 (by decide) (fun c7 => ?_) (fun c7 => ?_)
      · have h := h.1 c7
        refine lv_iconst (v := 1) hx hb dX6_takeNumber_43 (by decide) ?_
        refine lv_goto (tgt := 48) hx hb dX6_takeNumber_44 (by decide) ?_
        exact hret 1 _ _ _ _ _ (Or.inr rfl) ⟨u2_t_kind, u2_t_where, u1_t_at, u1_t_token, u1_t_from, u1_t_value, rfl, h⟩ hP hD hS dX6_takeNumber_48
      · have h := h.2 c7
        exact L31 u2_t_kind u2_t_where u1_t_at u1_t_token u1_t_from u1_t_value h _ _ hP hD hS _ (lv_sub hl [0, 1] rfl)
  · have h := h.2 c3
    refine lv_iconst (v := 0) hx hb dX6_takeNumber_13 (by decide) ?_
    exact hret 0 _ _ _ _ _ (Or.inl rfl) ⟨u2_t_kind, u2_t_where, u1_t_at, u1_t_token, u1_t_from, u1_t_value, rfl, h⟩ hP hD hS dX6_takeNumber_14
theorem hdX6_takeWordLine : yX6_takeWordLine.cls = RX6 ∧ yX6_takeWordLine.cls ≠ "java/lang/invoke/MethodHandle" ∧ yX6_takeWordLine.cls ≠ "java/lang/invoke/VarHandle" ∧ (parseMethodDescriptor yX6_takeWordLine.desc).map (fun d => d.parameters.length) = some 2 := by decide +kernel
abbrev rmX6_takeWordLine : Room := { frames := 4, cells := 0, slots := 0, locals := 400 }
set_option maxHeartbeats 4000000 in
set_option maxRecDepth 100000 in
theorem c_X6_takeWordLine (l : Launch) (D : va_G) (g : gE) (a_t : Nat) (a_p1 : Nat) (a_p2 : Nat) (a_p2_words : Nat) (a_p1_bytes : Nat) (a_p2_words_lengths : Nat) (a_p2_words_masks : Nat) (a_p2_words_letters : Nat) (a_p2_weights : Nat) (o_p2_letters : Value) (o_p2_shorts : Value) (o_p2_longs : Value) (o_p2_night : Value) (o_p2_guards : Value) (o_p2_less : Value) (o_p2_more : Value) (o_p2_knock : Value) (o_p2_pause : Value) (o_p2_gap : Value) (o_p2_tableTold : Value) (o_p2_slipTold : Value) (o_p2_timeTold : Value) (n_p2_words_lengths : Nat) (n_p2_words_masks : Nat) (n_p2_words_letters : Nat) (t_kind : Int32) (t_where : Int32) (p1_size : Int32) (p1_at : Int32) (p1_token : Int32) (p1_from : Int32) (p1_value : Int32) (p2_words_most : Int32) (p2_words_width : Int32) (p2_words_size : Int32) (p1_bytes : Nat → Int32) (p2_words_lengths : Nat → Int32) (p2_words_masks : Nat → Int32) (p2_words_letters : Nat → Int32) (p2_weights : Nat → Int32) (post : Int32 → Int32 → Int32 → Int32 → Int32 → Int32 → Int32 → Int32 → (Nat → Int32) → (Nat → Int32) → (Nat → Int32) → (Nat → Int32) → Prop) (h : wp_X6_takeWordLine n_p2_words_lengths n_p2_words_masks n_p2_words_letters t_kind t_where p1_size p1_at p1_token p1_from p1_value p2_words_most p2_words_width p2_words_size p1_bytes p2_words_lengths p2_words_masks p2_words_letters p2_weights post) : Ci l D g yX6_takeWordLine (.code yX6_takeWordLine cX6_takeWordLine 4 (some .boolean) :: wsL_law) rmX6_takeWordLine [.ref a_t, .ref a_p1, .ref a_p2] [(a_t, .inr (6, [.int t_kind, .int t_where])), (a_p1, .inr (9, [.ref a_p1_bytes, .int p1_size, .int p1_at, .int p1_token, .int p1_from, .int p1_value])), (a_p2, .inr (0, [o_p2_letters, .ref a_p2_words, .ref a_p2_weights, o_p2_shorts, o_p2_longs, o_p2_night, o_p2_guards, o_p2_less, o_p2_more, o_p2_knock, o_p2_pause, o_p2_gap, o_p2_tableTold, o_p2_slipTold, o_p2_timeTold])), (a_p2_words, .inr (4, [.int p2_words_most, .int p2_words_width, .ref a_p2_words_letters, .ref a_p2_words_lengths, .ref a_p2_words_masks, .int p2_words_size])), (a_p1_bytes, .inl (g.1 0, 320, .inl p1_bytes)), (a_p2_words_lengths, .inl (g.1 1, n_p2_words_lengths, .inl p2_words_lengths)), (a_p2_words_masks, .inl (g.1 1, n_p2_words_masks, .inl p2_words_masks)), (a_p2_words_letters, .inl (g.1 0, n_p2_words_letters, .inl p2_words_letters)), (a_p2_weights, .inl (g.1 1, 10, .inl p2_weights))] (fun r W' => ∃ (nw_t_kind : Int32) (nw_t_where : Int32) (nw_p1_at : Int32) (nw_p1_token : Int32) (nw_p1_from : Int32) (nw_p1_value : Int32) (nw_p2_words_size : Int32) (nw_p2_words_lengths : Nat → Int32) (nw_p2_words_masks : Nat → Int32) (nw_p2_words_letters : Nat → Int32) (nw_p2_weights : Nat → Int32), W' = [(a_t, .inr (6, [.int nw_t_kind, .int nw_t_where])), (a_p1, .inr (9, [.ref a_p1_bytes, .int p1_size, .int nw_p1_at, .int nw_p1_token, .int nw_p1_from, .int nw_p1_value])), (a_p2, .inr (0, [o_p2_letters, .ref a_p2_words, .ref a_p2_weights, o_p2_shorts, o_p2_longs, o_p2_night, o_p2_guards, o_p2_less, o_p2_more, o_p2_knock, o_p2_pause, o_p2_gap, o_p2_tableTold, o_p2_slipTold, o_p2_timeTold])), (a_p2_words, .inr (4, [.int p2_words_most, .int p2_words_width, .ref a_p2_words_letters, .ref a_p2_words_lengths, .ref a_p2_words_masks, .int nw_p2_words_size])), (a_p1_bytes, .inl (g.1 0, 320, .inl p1_bytes)), (a_p2_words_lengths, .inl (g.1 1, n_p2_words_lengths, .inl nw_p2_words_lengths)), (a_p2_words_masks, .inl (g.1 1, n_p2_words_masks, .inl nw_p2_words_masks)), (a_p2_words_letters, .inl (g.1 0, n_p2_words_letters, .inl nw_p2_words_letters)), (a_p2_weights, .inl (g.1 1, 10, .inl nw_p2_weights))] ∧ post r nw_t_kind nw_t_where nw_p1_at nw_p1_token nw_p1_from nw_p1_value nw_p2_words_size nw_p2_words_lengths nw_p2_words_masks nw_p2_words_letters nw_p2_weights) := by
  refine Cz.of (cc := cX6_takeWordLine) (maxL := 4) (by decide) rfl (Nat.le_of_ble_eq_true rfl) ?_
  intro p e s m args below meth c A Q hx hb hml hts hown hA H locs hP hD hS hG ls hl hret
  have hown : s.vm.findClass RX6 = some m.cls := hown
  have hl : lv_has ls 4 [(0, .ref a_t), (1, .ref a_p1), (2, .ref a_p2)] := hl
  have lk0 := hts (.fieldLink RX6 102 "KnockWall$Code" "words" "LKnockWall$Names;") (List.mem_cons_of_mem _ (inR_15 (List.mem_of_getElem? (i := 15) rfl)))
  have lk1 := hts (.fieldLink RX6 106 "KnockWall$Names" "size" "I") (List.mem_cons_of_mem _ (inR_15 (List.mem_of_getElem? (i := 16) rfl)))
  have lk2 := hts (.fieldLink RX6 116 "KnockWall$Code" "weights" "[I") (List.mem_cons_of_mem _ (inR_15 (List.mem_of_getElem? (i := 17) rfl)))
  have lk3 := hts (.fieldLink RX6 120 "KnockWall$Tape" "value" "I") (List.mem_cons_of_mem _ (inR_15 (List.mem_of_getElem? (i := 18) rfl)))
  have lk4 := hts (.fieldLink RX6 84 "KnockWall$Tape" "from" "I") (List.mem_cons_of_mem _ (inR_11 (List.mem_of_getElem? (i := 14) rfl)))
  unfold wp_X6_takeWordLine at h
  try dsimp only at h
  refine lv_aload_n hx hb dX6_takeWordLine_0 rfl (lv_at hl 2 rfl) ?_
  refine va_get (ci := 0) (v := .ref a_p2_words) (C := RX0) (T := TX0) (N := 15) hx hb hts icX0 hown hG.k hP 2 rfl rfl 1 (by decide) lk0 (fun _ h9 => h9) rfl dX6_takeWordLine_1 ?_
  refine va_get (ci := 4) (v := .int p2_words_size) (C := RX4) (T := TX4) (N := 6) hx hb hts icX4 hown hG.k hP 3 rfl rfl 5 (by decide) lk1 (fun _ h9 => h9) rfl dX6_takeWordLine_4 ?_
  refine lv_istore_n (lv' := [(3, .int p2_words_size), (0, .ref a_t), (1, .ref a_p1), (2, .ref a_p2)]) hx hb dX6_takeWordLine_7 rfl hl (by decide) rfl (fun ls hl => ?_)
  refine lv_iload_n hx hb dX6_takeWordLine_8 rfl (lv_at hl 0 rfl) ?_
  refine lv_bipush (v := 10) hx hb dX6_takeWordLine_9 (by decide) ?_
  refine lv_icmp_lt (tgt := 24) hx hb dX6_takeWordLine_11 (by decide) (fun c1 => ?_) (fun c1 => ?_)
  · have h := h.1 c1
    refine lv_aload_n hx hb dX6_takeWordLine_24 rfl (lv_at hl 1 rfl) ?_
    refine lv_aload_n hx hb dX6_takeWordLine_25 rfl (lv_at hl 2 rfl) ?_
    refine lv_iconst (v := 1) hx hb dX6_takeWordLine_26 (by decide) ?_
    refine lv_bipush (v := 8) hx hb dX6_takeWordLine_27 (by decide) ?_
    refine k_i (wr := [(a_p2, .inr (0, [o_p2_letters, .ref a_p2_words, .ref a_p2_weights, o_p2_shorts, o_p2_longs, o_p2_night, o_p2_guards, o_p2_less, o_p2_more, o_p2_knock, o_p2_pause, o_p2_gap, o_p2_tableTold, o_p2_slipTold, o_p2_timeTold])), (a_p2_words, .inr (4, [.int p2_words_most, .int p2_words_width, .ref a_p2_words_letters, .ref a_p2_words_lengths, .ref a_p2_words_masks, .int p2_words_size])), (a_p2_words_lengths, .inl (g.1 1, n_p2_words_lengths, .inl p2_words_lengths)), (a_p2_words_masks, .inl (g.1 1, n_p2_words_masks, .inl p2_words_masks)), (a_p2_words_letters, .inl (g.1 0, n_p2_words_letters, .inl p2_words_letters)), (a_p2_weights, .inl (g.1 1, 10, .inl p2_weights))]) hA hP hD hS [0, 1, 4] [2, 3, 5, 6, 7, 8] rfl rfl (by decide) (by decide) (va_runV (As := [.ref a_p1, .int 1, .int 8]) (rest := []) ⟨hx, hb, hml, hown, hts⟩ (c_X6_takeName l D g a_t a_p1 a_p1_bytes t_kind t_where p1_size p1_at p1_token p1_from p1_value p1_bytes 1 8 _ h H.size) (cwV 3 hts (gdV (inR_14 (List.mem_of_getElem? (i := 9) rfl)) (inR_14 (List.mem_of_getElem? (i := 10) rfl)) (inR_14 (List.mem_of_getElem? (i := 11) rfl)) (inR_1 (List.mem_of_getElem? (i := 19) rfl)) (inR_14 (List.mem_of_getElem? (i := 12) rfl))) rfl rfl rfl hdX6_takeName ⟨Nat.le_of_ble_eq_true rfl, Nat.le_of_ble_eq_true rfl⟩) (k_preV (q0 := 0) hG hA hP hD hS [0, 1, 4] rfl (by decide) rfl rfl) rfl rfl hl.1 rfl (lv_room (Nat.le_of_ble_eq_true rfl)) dX6_takeWordLine_29 ⟨Nat.zero_le _, Nat.zero_le _⟩) (fun r2 W' H locs h hP hD hS => ?_)
    obtain ⟨u2_t_kind, u2_t_where, u2_p1_at, u2_p1_token, u2_p1_from, u2_p1_value, rfl, h⟩ := h
    have hP : va_P D vwCl [(a_t, .inr (6, [.int u2_t_kind, .int u2_t_where])), (a_p1, .inr (9, [.ref a_p1_bytes, .int p1_size, .int u2_p1_at, .int u2_p1_token, .int u2_p1_from, .int u2_p1_value])), (a_p2, .inr (0, [o_p2_letters, .ref a_p2_words, .ref a_p2_weights, o_p2_shorts, o_p2_longs, o_p2_night, o_p2_guards, o_p2_less, o_p2_more, o_p2_knock, o_p2_pause, o_p2_gap, o_p2_tableTold, o_p2_slipTold, o_p2_timeTold])), (a_p2_words, .inr (4, [.int p2_words_most, .int p2_words_width, .ref a_p2_words_letters, .ref a_p2_words_lengths, .ref a_p2_words_masks, .int p2_words_size])), (a_p1_bytes, .inl (g.1 0, 320, .inl p1_bytes)), (a_p2_words_lengths, .inl (g.1 1, n_p2_words_lengths, .inl p2_words_lengths)), (a_p2_words_masks, .inl (g.1 1, n_p2_words_masks, .inl p2_words_masks)), (a_p2_words_letters, .inl (g.1 0, n_p2_words_letters, .inl p2_words_letters)), (a_p2_weights, .inl (g.1 1, 10, .inl p2_weights))] H := hP.sub [6, 7, 0, 1, 8, 2, 3, 4, 5] rfl
    have hD : va_D A [(a_t, .inr (6, [.int u2_t_kind, .int u2_t_where])), (a_p1, .inr (9, [.ref a_p1_bytes, .int p1_size, .int u2_p1_at, .int u2_p1_token, .int u2_p1_from, .int u2_p1_value])), (a_p2, .inr (0, [o_p2_letters, .ref a_p2_words, .ref a_p2_weights, o_p2_shorts, o_p2_longs, o_p2_night, o_p2_guards, o_p2_less, o_p2_more, o_p2_knock, o_p2_pause, o_p2_gap, o_p2_tableTold, o_p2_slipTold, o_p2_timeTold])), (a_p2_words, .inr (4, [.int p2_words_most, .int p2_words_width, .ref a_p2_words_letters, .ref a_p2_words_lengths, .ref a_p2_words_masks, .int p2_words_size])), (a_p1_bytes, .inl (g.1 0, 320, .inl p1_bytes)), (a_p2_words_lengths, .inl (g.1 1, n_p2_words_lengths, .inl p2_words_lengths)), (a_p2_words_masks, .inl (g.1 1, n_p2_words_masks, .inl p2_words_masks)), (a_p2_words_letters, .inl (g.1 0, n_p2_words_letters, .inl p2_words_letters)), (a_p2_weights, .inl (g.1 1, 10, .inl p2_weights))] := hD.sub [6, 7, 0, 1, 8, 2, 3, 4, 5] (by decide) rfl
    refine lv_if_ne (tgt := 37) hx hb dX6_takeWordLine_32 (by decide) (fun c3 => ?_) (fun c3 => ?_)
    · have h := h.1 c3
      refine lv_aload_n hx hb dX6_takeWordLine_37 rfl (lv_at hl 3 rfl) ?_
      refine va_get (ci := 0) (v := .ref a_p2_words) (C := RX0) (T := TX0) (N := 15) hx hb hts icX0 hown hG.k hP 2 rfl rfl 1 (by decide) lk0 (fun _ h9 => h9) rfl dX6_takeWordLine_38 ?_
      refine lv_aload_n hx hb dX6_takeWordLine_41 rfl (lv_at hl 2 rfl) ?_
      refine k_v (wr := [(a_t, .inr (6, [.int u2_t_kind, .int u2_t_where])), (a_p2, .inr (0, [o_p2_letters, .ref a_p2_words, .ref a_p2_weights, o_p2_shorts, o_p2_longs, o_p2_night, o_p2_guards, o_p2_less, o_p2_more, o_p2_knock, o_p2_pause, o_p2_gap, o_p2_tableTold, o_p2_slipTold, o_p2_timeTold])), (a_p2_weights, .inl (g.1 1, 10, .inl p2_weights))]) hA hP hD hS [3, 1, 5, 6, 4, 7] [0, 2, 8] rfl rfl (by decide) (by decide) (va_runV (As := [.ref a_p1]) (rest := []) ⟨hx, hb, hml, hown, hts⟩ (c_X4_add l D g a_p2_words a_p1 a_p2_words_lengths a_p2_words_masks a_p1_bytes a_p2_words_letters (.int p1_size) (.int u2_p1_token) (.int u2_p1_value) n_p2_words_lengths n_p2_words_masks n_p2_words_letters p2_words_most p2_words_width p2_words_size u2_p1_at u2_p1_from p2_words_lengths p2_words_masks p1_bytes p2_words_letters _ h H.size) (cwV 1 hts (gdV (inR_15 (List.mem_of_getElem? (i := 19) rfl)) (inR_15 (List.mem_of_getElem? (i := 20) rfl)) (inR_15 (List.mem_of_getElem? (i := 21) rfl)) (inR_5 (List.mem_of_getElem? (i := 2) rfl)) (inR_15 (List.mem_of_getElem? (i := 22) rfl))) rfl rfl rfl hdX4_add ⟨Nat.le_of_ble_eq_true rfl, Nat.le_of_ble_eq_true rfl⟩) (k_preV (q0 := 3) hG hA hP hD hS [3, 1, 5, 6, 4, 7] rfl (by decide) rfl rfl) rfl rfl hl.1 rfl (lv_room (Nat.le_of_ble_eq_true rfl)) dX6_takeWordLine_42 ⟨Nat.zero_le _, Nat.zero_le _⟩) (fun W' H locs h hP hD hS => ?_)
      obtain ⟨u4_t_size, u4_t_lengths, u4_t_masks, u4_t_letters, rfl, h⟩ := h
      have hP : va_P D vwCl [(a_t, .inr (6, [.int u2_t_kind, .int u2_t_where])), (a_p1, .inr (9, [.ref a_p1_bytes, .int p1_size, .int u2_p1_at, .int u2_p1_token, .int u2_p1_from, .int u2_p1_value])), (a_p2, .inr (0, [o_p2_letters, .ref a_p2_words, .ref a_p2_weights, o_p2_shorts, o_p2_longs, o_p2_night, o_p2_guards, o_p2_less, o_p2_more, o_p2_knock, o_p2_pause, o_p2_gap, o_p2_tableTold, o_p2_slipTold, o_p2_timeTold])), (a_p2_words, .inr (4, [.int p2_words_most, .int p2_words_width, .ref a_p2_words_letters, .ref a_p2_words_lengths, .ref a_p2_words_masks, .int u4_t_size])), (a_p1_bytes, .inl (g.1 0, 320, .inl p1_bytes)), (a_p2_words_lengths, .inl (g.1 1, n_p2_words_lengths, .inl u4_t_lengths)), (a_p2_words_masks, .inl (g.1 1, n_p2_words_masks, .inl u4_t_masks)), (a_p2_words_letters, .inl (g.1 0, n_p2_words_letters, .inl u4_t_letters)), (a_p2_weights, .inl (g.1 1, 10, .inl p2_weights))] H := hP.sub [0, 4, 1, 3, 7, 5, 6, 8, 2] rfl
      have hD : va_D A [(a_t, .inr (6, [.int u2_t_kind, .int u2_t_where])), (a_p1, .inr (9, [.ref a_p1_bytes, .int p1_size, .int u2_p1_at, .int u2_p1_token, .int u2_p1_from, .int u2_p1_value])), (a_p2, .inr (0, [o_p2_letters, .ref a_p2_words, .ref a_p2_weights, o_p2_shorts, o_p2_longs, o_p2_night, o_p2_guards, o_p2_less, o_p2_more, o_p2_knock, o_p2_pause, o_p2_gap, o_p2_tableTold, o_p2_slipTold, o_p2_timeTold])), (a_p2_words, .inr (4, [.int p2_words_most, .int p2_words_width, .ref a_p2_words_letters, .ref a_p2_words_lengths, .ref a_p2_words_masks, .int u4_t_size])), (a_p1_bytes, .inl (g.1 0, 320, .inl p1_bytes)), (a_p2_words_lengths, .inl (g.1 1, n_p2_words_lengths, .inl u4_t_lengths)), (a_p2_words_masks, .inl (g.1 1, n_p2_words_masks, .inl u4_t_masks)), (a_p2_words_letters, .inl (g.1 0, n_p2_words_letters, .inl u4_t_letters)), (a_p2_weights, .inl (g.1 1, 10, .inl p2_weights))] := hD.sub [0, 4, 1, 3, 7, 5, 6, 8, 2] (by decide) rfl
      refine lv_aload_n hx hb dX6_takeWordLine_45 rfl (lv_at hl 1 rfl) ?_
      refine lv_aload_n hx hb dX6_takeWordLine_46 rfl (lv_at hl 2 rfl) ?_
      refine lv_iconst (v := 1) hx hb dX6_takeWordLine_47 (by decide) ?_
      refine lv_bipush (v := 99) hx hb dX6_takeWordLine_48 (by decide) ?_
      refine k_i (wr := [(a_p2, .inr (0, [o_p2_letters, .ref a_p2_words, .ref a_p2_weights, o_p2_shorts, o_p2_longs, o_p2_night, o_p2_guards, o_p2_less, o_p2_more, o_p2_knock, o_p2_pause, o_p2_gap, o_p2_tableTold, o_p2_slipTold, o_p2_timeTold])), (a_p2_words, .inr (4, [.int p2_words_most, .int p2_words_width, .ref a_p2_words_letters, .ref a_p2_words_lengths, .ref a_p2_words_masks, .int u4_t_size])), (a_p2_words_lengths, .inl (g.1 1, n_p2_words_lengths, .inl u4_t_lengths)), (a_p2_words_masks, .inl (g.1 1, n_p2_words_masks, .inl u4_t_masks)), (a_p2_words_letters, .inl (g.1 0, n_p2_words_letters, .inl u4_t_letters)), (a_p2_weights, .inl (g.1 1, 10, .inl p2_weights))]) hA hP hD hS [0, 1, 4] [2, 3, 5, 6, 7, 8] rfl rfl (by decide) (by decide) (va_runV (As := [.ref a_p1, .int 1, .int 99]) (rest := []) ⟨hx, hb, hml, hown, hts⟩ (c_X6_takeNumber l D g a_t a_p1 a_p1_bytes u2_t_kind u2_t_where p1_size u2_p1_at u2_p1_token u2_p1_from u2_p1_value p1_bytes 1 99 _ h H.size) (cwV 3 hts (gdV (inR_16 (List.mem_of_getElem? (i := 3) rfl)) (inR_16 (List.mem_of_getElem? (i := 4) rfl)) (inR_16 (List.mem_of_getElem? (i := 5) rfl)) (inR_1 (List.mem_of_getElem? (i := 19) rfl)) (inR_16 (List.mem_of_getElem? (i := 6) rfl))) rfl rfl rfl hdX6_takeNumber ⟨Nat.le_of_ble_eq_true rfl, Nat.le_of_ble_eq_true rfl⟩) (k_preV (q0 := 0) hG hA hP hD hS [0, 1, 4] rfl (by decide) rfl rfl) rfl rfl hl.1 rfl (lv_room (Nat.le_of_ble_eq_true rfl)) dX6_takeWordLine_50 ⟨Nat.zero_le _, Nat.zero_le _⟩) (fun r5 W' H locs h hP hD hS => ?_)
      obtain ⟨u5_t_kind, u5_t_where, u5_p1_at, u5_p1_token, u5_p1_from, u5_p1_value, rfl, h⟩ := h
      have hP : va_P D vwCl [(a_t, .inr (6, [.int u5_t_kind, .int u5_t_where])), (a_p1, .inr (9, [.ref a_p1_bytes, .int p1_size, .int u5_p1_at, .int u5_p1_token, .int u5_p1_from, .int u5_p1_value])), (a_p2, .inr (0, [o_p2_letters, .ref a_p2_words, .ref a_p2_weights, o_p2_shorts, o_p2_longs, o_p2_night, o_p2_guards, o_p2_less, o_p2_more, o_p2_knock, o_p2_pause, o_p2_gap, o_p2_tableTold, o_p2_slipTold, o_p2_timeTold])), (a_p2_words, .inr (4, [.int p2_words_most, .int p2_words_width, .ref a_p2_words_letters, .ref a_p2_words_lengths, .ref a_p2_words_masks, .int u4_t_size])), (a_p1_bytes, .inl (g.1 0, 320, .inl p1_bytes)), (a_p2_words_lengths, .inl (g.1 1, n_p2_words_lengths, .inl u4_t_lengths)), (a_p2_words_masks, .inl (g.1 1, n_p2_words_masks, .inl u4_t_masks)), (a_p2_words_letters, .inl (g.1 0, n_p2_words_letters, .inl u4_t_letters)), (a_p2_weights, .inl (g.1 1, 10, .inl p2_weights))] H := hP.sub [6, 7, 0, 1, 8, 2, 3, 4, 5] rfl
      have hD : va_D A [(a_t, .inr (6, [.int u5_t_kind, .int u5_t_where])), (a_p1, .inr (9, [.ref a_p1_bytes, .int p1_size, .int u5_p1_at, .int u5_p1_token, .int u5_p1_from, .int u5_p1_value])), (a_p2, .inr (0, [o_p2_letters, .ref a_p2_words, .ref a_p2_weights, o_p2_shorts, o_p2_longs, o_p2_night, o_p2_guards, o_p2_less, o_p2_more, o_p2_knock, o_p2_pause, o_p2_gap, o_p2_tableTold, o_p2_slipTold, o_p2_timeTold])), (a_p2_words, .inr (4, [.int p2_words_most, .int p2_words_width, .ref a_p2_words_letters, .ref a_p2_words_lengths, .ref a_p2_words_masks, .int u4_t_size])), (a_p1_bytes, .inl (g.1 0, 320, .inl p1_bytes)), (a_p2_words_lengths, .inl (g.1 1, n_p2_words_lengths, .inl u4_t_lengths)), (a_p2_words_masks, .inl (g.1 1, n_p2_words_masks, .inl u4_t_masks)), (a_p2_words_letters, .inl (g.1 0, n_p2_words_letters, .inl u4_t_letters)), (a_p2_weights, .inl (g.1 1, 10, .inl p2_weights))] := hD.sub [6, 7, 0, 1, 8, 2, 3, 4, 5] (by decide) rfl
      refine lv_if_ne (tgt := 58) hx hb dX6_takeWordLine_53 (by decide) (fun c6 => ?_) (fun c6 => ?_)
      · have h := h.1 c6
        refine lv_aload_n hx hb dX6_takeWordLine_58 rfl (lv_at hl 3 rfl) ?_
        refine va_get (ci := 0) (v := .ref a_p2_weights) (C := RX0) (T := TX0) (N := 15) hx hb hts icX0 hown hG.k hP 2 rfl rfl 2 (by decide) lk2 (fun _ h9 => h9) rfl dX6_takeWordLine_59 ?_
        refine lv_iload_n hx hb dX6_takeWordLine_62 rfl (lv_at hl 0 rfl) ?_
        refine lv_aload_n hx hb dX6_takeWordLine_63 rfl (lv_at hl 2 rfl) ?_
        refine va_get (ci := 9) (v := .int u5_p1_value) (C := RX9) (T := TX9) (N := 6) hx hb hts icX9 hown hG.k hP 1 rfl rfl 5 (by decide) lk3 (fun _ h9 => h9) rfl dX6_takeWordLine_64 ?_
        obtain ⟨hv7, h⟩ := h
        refine va_iast hx hb hG.k hP hD hS 8 1 rfl rfl hv7 dX6_takeWordLine_67 (fun H locs hP hD hS => ?_)
        have hP : va_P D vwCl [(a_t, .inr (6, [.int u5_t_kind, .int u5_t_where])), (a_p1, .inr (9, [.ref a_p1_bytes, .int p1_size, .int u5_p1_at, .int u5_p1_token, .int u5_p1_from, .int u5_p1_value])), (a_p2, .inr (0, [o_p2_letters, .ref a_p2_words, .ref a_p2_weights, o_p2_shorts, o_p2_longs, o_p2_night, o_p2_guards, o_p2_less, o_p2_more, o_p2_knock, o_p2_pause, o_p2_gap, o_p2_tableTold, o_p2_slipTold, o_p2_timeTold])), (a_p2_words, .inr (4, [.int p2_words_most, .int p2_words_width, .ref a_p2_words_letters, .ref a_p2_words_lengths, .ref a_p2_words_masks, .int u4_t_size])), (a_p1_bytes, .inl (g.1 0, 320, .inl p1_bytes)), (a_p2_words_lengths, .inl (g.1 1, n_p2_words_lengths, .inl u4_t_lengths)), (a_p2_words_masks, .inl (g.1 1, n_p2_words_masks, .inl u4_t_masks)), (a_p2_words_letters, .inl (g.1 0, n_p2_words_letters, .inl u4_t_letters)), (a_p2_weights, .inl (g.1 1, 10, .inl (upd p2_weights p2_words_size.toNatClampNeg u5_p1_value)))] H := hP
        have hD : va_D A [(a_t, .inr (6, [.int u5_t_kind, .int u5_t_where])), (a_p1, .inr (9, [.ref a_p1_bytes, .int p1_size, .int u5_p1_at, .int u5_p1_token, .int u5_p1_from, .int u5_p1_value])), (a_p2, .inr (0, [o_p2_letters, .ref a_p2_words, .ref a_p2_weights, o_p2_shorts, o_p2_longs, o_p2_night, o_p2_guards, o_p2_less, o_p2_more, o_p2_knock, o_p2_pause, o_p2_gap, o_p2_tableTold, o_p2_slipTold, o_p2_timeTold])), (a_p2_words, .inr (4, [.int p2_words_most, .int p2_words_width, .ref a_p2_words_letters, .ref a_p2_words_lengths, .ref a_p2_words_masks, .int u4_t_size])), (a_p1_bytes, .inl (g.1 0, 320, .inl p1_bytes)), (a_p2_words_lengths, .inl (g.1 1, n_p2_words_lengths, .inl u4_t_lengths)), (a_p2_words_masks, .inl (g.1 1, n_p2_words_masks, .inl u4_t_masks)), (a_p2_words_letters, .inl (g.1 0, n_p2_words_letters, .inl u4_t_letters)), (a_p2_weights, .inl (g.1 1, 10, .inl (upd p2_weights p2_words_size.toNatClampNeg u5_p1_value)))] := hD
        refine lv_aload_n hx hb dX6_takeWordLine_68 rfl (lv_at hl 1 rfl) ?_
        refine lv_aload_n hx hb dX6_takeWordLine_69 rfl (lv_at hl 2 rfl) ?_
        refine k_i (wr := [(a_p2, .inr (0, [o_p2_letters, .ref a_p2_words, .ref a_p2_weights, o_p2_shorts, o_p2_longs, o_p2_night, o_p2_guards, o_p2_less, o_p2_more, o_p2_knock, o_p2_pause, o_p2_gap, o_p2_tableTold, o_p2_slipTold, o_p2_timeTold])), (a_p2_words, .inr (4, [.int p2_words_most, .int p2_words_width, .ref a_p2_words_letters, .ref a_p2_words_lengths, .ref a_p2_words_masks, .int u4_t_size])), (a_p2_words_lengths, .inl (g.1 1, n_p2_words_lengths, .inl u4_t_lengths)), (a_p2_words_masks, .inl (g.1 1, n_p2_words_masks, .inl u4_t_masks)), (a_p2_words_letters, .inl (g.1 0, n_p2_words_letters, .inl u4_t_letters)), (a_p2_weights, .inl (g.1 1, 10, .inl (upd p2_weights p2_words_size.toNatClampNeg u5_p1_value)))]) hA hP hD hS [0, 1, 4] [2, 3, 5, 6, 7, 8] rfl rfl (by decide) (by decide) (va_runV (As := [.ref a_p1]) (rest := []) ⟨hx, hb, hml, hown, hts⟩ (c_X6_takeSign l D g a_t a_p1 a_p1_bytes u5_t_kind u5_t_where p1_size u5_p1_at u5_p1_token u5_p1_from u5_p1_value p1_bytes _ h H.size) (cwV 1 hts (gdV (inR_15 (List.mem_of_getElem? (i := 7) rfl)) (inR_15 (List.mem_of_getElem? (i := 8) rfl)) (inR_15 (List.mem_of_getElem? (i := 9) rfl)) (inR_1 (List.mem_of_getElem? (i := 19) rfl)) (inR_15 (List.mem_of_getElem? (i := 10) rfl))) rfl rfl rfl hdX6_takeSign ⟨Nat.le_of_ble_eq_true rfl, Nat.le_of_ble_eq_true rfl⟩) (k_preV (q0 := 0) hG hA hP hD hS [0, 1, 4] rfl (by decide) rfl rfl) rfl rfl hl.1 rfl (lv_room (Nat.le_of_ble_eq_true rfl)) dX6_takeWordLine_70 ⟨Nat.zero_le _, Nat.zero_le _⟩) (fun r8 W' H locs h hP hD hS => ?_)
        obtain ⟨u8_t_kind, u8_t_where, u8_p1_at, u8_p1_token, u8_p1_from, u8_p1_value, rfl, h⟩ := h
        have hP : va_P D vwCl [(a_t, .inr (6, [.int u8_t_kind, .int u8_t_where])), (a_p1, .inr (9, [.ref a_p1_bytes, .int p1_size, .int u8_p1_at, .int u8_p1_token, .int u8_p1_from, .int u8_p1_value])), (a_p2, .inr (0, [o_p2_letters, .ref a_p2_words, .ref a_p2_weights, o_p2_shorts, o_p2_longs, o_p2_night, o_p2_guards, o_p2_less, o_p2_more, o_p2_knock, o_p2_pause, o_p2_gap, o_p2_tableTold, o_p2_slipTold, o_p2_timeTold])), (a_p2_words, .inr (4, [.int p2_words_most, .int p2_words_width, .ref a_p2_words_letters, .ref a_p2_words_lengths, .ref a_p2_words_masks, .int u4_t_size])), (a_p1_bytes, .inl (g.1 0, 320, .inl p1_bytes)), (a_p2_words_lengths, .inl (g.1 1, n_p2_words_lengths, .inl u4_t_lengths)), (a_p2_words_masks, .inl (g.1 1, n_p2_words_masks, .inl u4_t_masks)), (a_p2_words_letters, .inl (g.1 0, n_p2_words_letters, .inl u4_t_letters)), (a_p2_weights, .inl (g.1 1, 10, .inl (upd p2_weights p2_words_size.toNatClampNeg u5_p1_value)))] H := hP.sub [6, 7, 0, 1, 8, 2, 3, 4, 5] rfl
        have hD : va_D A [(a_t, .inr (6, [.int u8_t_kind, .int u8_t_where])), (a_p1, .inr (9, [.ref a_p1_bytes, .int p1_size, .int u8_p1_at, .int u8_p1_token, .int u8_p1_from, .int u8_p1_value])), (a_p2, .inr (0, [o_p2_letters, .ref a_p2_words, .ref a_p2_weights, o_p2_shorts, o_p2_longs, o_p2_night, o_p2_guards, o_p2_less, o_p2_more, o_p2_knock, o_p2_pause, o_p2_gap, o_p2_tableTold, o_p2_slipTold, o_p2_timeTold])), (a_p2_words, .inr (4, [.int p2_words_most, .int p2_words_width, .ref a_p2_words_letters, .ref a_p2_words_lengths, .ref a_p2_words_masks, .int u4_t_size])), (a_p1_bytes, .inl (g.1 0, 320, .inl p1_bytes)), (a_p2_words_lengths, .inl (g.1 1, n_p2_words_lengths, .inl u4_t_lengths)), (a_p2_words_masks, .inl (g.1 1, n_p2_words_masks, .inl u4_t_masks)), (a_p2_words_letters, .inl (g.1 0, n_p2_words_letters, .inl u4_t_letters)), (a_p2_weights, .inl (g.1 1, 10, .inl (upd p2_weights p2_words_size.toNatClampNeg u5_p1_value)))] := hD.sub [6, 7, 0, 1, 8, 2, 3, 4, 5] (by decide) rfl
        obtain ⟨hzb, h⟩ := h
        exact hret r8 _ _ _ _ _ hzb ⟨u8_t_kind, u8_t_where, u8_p1_at, u8_p1_token, u8_p1_from, u8_p1_value, u4_t_size, u4_t_lengths, u4_t_masks, u4_t_letters, upd p2_weights p2_words_size.toNatClampNeg u5_p1_value, rfl, h⟩ hP hD hS dX6_takeWordLine_73
      · have h := h.2 c6
        refine lv_iconst (v := 0) hx hb dX6_takeWordLine_56 (by decide) ?_
        exact hret 0 _ _ _ _ _ (Or.inl rfl) ⟨u5_t_kind, u5_t_where, u5_p1_at, u5_p1_token, u5_p1_from, u5_p1_value, u4_t_size, u4_t_lengths, u4_t_masks, u4_t_letters, p2_weights, rfl, h⟩ hP hD hS dX6_takeWordLine_57
    · have h := h.2 c3
      refine lv_iconst (v := 0) hx hb dX6_takeWordLine_35 (by decide) ?_
      exact hret 0 _ _ _ _ _ (Or.inl rfl) ⟨u2_t_kind, u2_t_where, u2_p1_at, u2_p1_token, u2_p1_from, u2_p1_value, p2_words_size, p2_words_lengths, p2_words_masks, p2_words_letters, p2_weights, rfl, h⟩ hP hD hS dX6_takeWordLine_36
  · have h := h.2 c1
    refine lv_aload_n hx hb dX6_takeWordLine_14 rfl (lv_at hl 1 rfl) ?_
    refine lv_iconst (v := 5) hx hb dX6_takeWordLine_15 (by decide) ?_
    refine lv_aload_n hx hb dX6_takeWordLine_16 rfl (lv_at hl 2 rfl) ?_
    refine va_get (ci := 9) (v := .int p1_from) (C := RX9) (T := TX9) (N := 6) hx hb hts icX9 hown hG.k hP 1 rfl rfl 4 (by decide) lk4 (fun _ h9 => h9) rfl dX6_takeWordLine_17 ?_
    refine k_i (wr := [(a_p1, .inr (9, [.ref a_p1_bytes, .int p1_size, .int p1_at, .int p1_token, .int p1_from, .int p1_value])), (a_p2, .inr (0, [o_p2_letters, .ref a_p2_words, .ref a_p2_weights, o_p2_shorts, o_p2_longs, o_p2_night, o_p2_guards, o_p2_less, o_p2_more, o_p2_knock, o_p2_pause, o_p2_gap, o_p2_tableTold, o_p2_slipTold, o_p2_timeTold])), (a_p2_words, .inr (4, [.int p2_words_most, .int p2_words_width, .ref a_p2_words_letters, .ref a_p2_words_lengths, .ref a_p2_words_masks, .int p2_words_size])), (a_p1_bytes, .inl (g.1 0, 320, .inl p1_bytes)), (a_p2_words_lengths, .inl (g.1 1, n_p2_words_lengths, .inl p2_words_lengths)), (a_p2_words_masks, .inl (g.1 1, n_p2_words_masks, .inl p2_words_masks)), (a_p2_words_letters, .inl (g.1 0, n_p2_words_letters, .inl p2_words_letters)), (a_p2_weights, .inl (g.1 1, 10, .inl p2_weights))]) hA hP hD hS [0] [1, 2, 3, 4, 5, 6, 7, 8] rfl rfl (by decide) (by decide) (va_runV (As := [.int 5, .int p1_from]) (rest := []) ⟨hx, hb, hml, hown, hts⟩ (c_X6_fail l D g a_t t_kind t_where 5 p1_from _ h H.size) (cwV 2 hts (gdV (inR_11 (List.mem_of_getElem? (i := 19) rfl)) (inR_11 (List.mem_of_getElem? (i := 20) rfl)) (inR_11 (List.mem_of_getElem? (i := 21) rfl)) (inR_1 (List.mem_of_getElem? (i := 19) rfl)) (inR_11 (List.mem_of_getElem? (i := 22) rfl))) rfl rfl rfl hdX6_fail ⟨Nat.le_of_ble_eq_true rfl, Nat.le_of_ble_eq_true rfl⟩) (k_preV (q0 := 0) hG hA hP hD hS [0] rfl (by decide) rfl rfl) rfl rfl hl.1 rfl (lv_room (Nat.le_of_ble_eq_true rfl)) dX6_takeWordLine_20 ⟨Nat.zero_le _, Nat.zero_le _⟩) (fun r9 W' H locs h hP hD hS => ?_)
    obtain ⟨u9_t_kind, u9_t_where, rfl, h⟩ := h
    have hP : va_P D vwCl [(a_t, .inr (6, [.int u9_t_kind, .int u9_t_where])), (a_p1, .inr (9, [.ref a_p1_bytes, .int p1_size, .int p1_at, .int p1_token, .int p1_from, .int p1_value])), (a_p2, .inr (0, [o_p2_letters, .ref a_p2_words, .ref a_p2_weights, o_p2_shorts, o_p2_longs, o_p2_night, o_p2_guards, o_p2_less, o_p2_more, o_p2_knock, o_p2_pause, o_p2_gap, o_p2_tableTold, o_p2_slipTold, o_p2_timeTold])), (a_p2_words, .inr (4, [.int p2_words_most, .int p2_words_width, .ref a_p2_words_letters, .ref a_p2_words_lengths, .ref a_p2_words_masks, .int p2_words_size])), (a_p1_bytes, .inl (g.1 0, 320, .inl p1_bytes)), (a_p2_words_lengths, .inl (g.1 1, n_p2_words_lengths, .inl p2_words_lengths)), (a_p2_words_masks, .inl (g.1 1, n_p2_words_masks, .inl p2_words_masks)), (a_p2_words_letters, .inl (g.1 0, n_p2_words_letters, .inl p2_words_letters)), (a_p2_weights, .inl (g.1 1, 10, .inl p2_weights))] H := hP.sub [8, 0, 1, 2, 3, 4, 5, 6, 7] rfl
    have hD : va_D A [(a_t, .inr (6, [.int u9_t_kind, .int u9_t_where])), (a_p1, .inr (9, [.ref a_p1_bytes, .int p1_size, .int p1_at, .int p1_token, .int p1_from, .int p1_value])), (a_p2, .inr (0, [o_p2_letters, .ref a_p2_words, .ref a_p2_weights, o_p2_shorts, o_p2_longs, o_p2_night, o_p2_guards, o_p2_less, o_p2_more, o_p2_knock, o_p2_pause, o_p2_gap, o_p2_tableTold, o_p2_slipTold, o_p2_timeTold])), (a_p2_words, .inr (4, [.int p2_words_most, .int p2_words_width, .ref a_p2_words_letters, .ref a_p2_words_lengths, .ref a_p2_words_masks, .int p2_words_size])), (a_p1_bytes, .inl (g.1 0, 320, .inl p1_bytes)), (a_p2_words_lengths, .inl (g.1 1, n_p2_words_lengths, .inl p2_words_lengths)), (a_p2_words_masks, .inl (g.1 1, n_p2_words_masks, .inl p2_words_masks)), (a_p2_words_letters, .inl (g.1 0, n_p2_words_letters, .inl p2_words_letters)), (a_p2_weights, .inl (g.1 1, 10, .inl p2_weights))] := hD.sub [8, 0, 1, 2, 3, 4, 5, 6, 7] (by decide) rfl
    obtain ⟨hzb, h⟩ := h
    exact hret r9 _ _ _ _ _ hzb ⟨u9_t_kind, u9_t_where, p1_at, p1_token, p1_from, p1_value, p2_words_size, p2_words_lengths, p2_words_masks, p2_words_letters, p2_weights, rfl, h⟩ hP hD hS dX6_takeWordLine_23
theorem hdX6_takeShortLine : yX6_takeShortLine.cls = RX6 ∧ yX6_takeShortLine.cls ≠ "java/lang/invoke/MethodHandle" ∧ yX6_takeShortLine.cls ≠ "java/lang/invoke/VarHandle" ∧ (parseMethodDescriptor yX6_takeShortLine.desc).map (fun d => d.parameters.length) = some 2 := by decide +kernel
abbrev rmX6_takeShortLine : Room := { frames := 4, cells := 0, slots := 0, locals := 400 }
set_option maxHeartbeats 4000000 in
set_option maxRecDepth 100000 in
theorem c_X6_takeShortLine (l : Launch) (D : va_G) (g : gE) (a_t : Nat) (a_p1 : Nat) (a_p2 : Nat) (a_p2_shorts : Nat) (a_p1_bytes : Nat) (a_p2_shorts_lengths : Nat) (a_p2_shorts_masks : Nat) (a_p2_shorts_letters : Nat) (a_p2_longs : Nat) (a_p2_longs_lengths : Nat) (a_p2_longs_masks : Nat) (a_p2_longs_letters : Nat) (o_p2_letters : Value) (o_p2_words : Value) (o_p2_weights : Value) (o_p2_night : Value) (o_p2_guards : Value) (o_p2_less : Value) (o_p2_more : Value) (o_p2_knock : Value) (o_p2_pause : Value) (o_p2_gap : Value) (o_p2_tableTold : Value) (o_p2_slipTold : Value) (o_p2_timeTold : Value) (n_p2_shorts_lengths : Nat) (n_p2_shorts_masks : Nat) (n_p2_shorts_letters : Nat) (n_p2_longs_lengths : Nat) (n_p2_longs_masks : Nat) (n_p2_longs_letters : Nat) (t_kind : Int32) (t_where : Int32) (p1_size : Int32) (p1_at : Int32) (p1_token : Int32) (p1_from : Int32) (p1_value : Int32) (p2_shorts_most : Int32) (p2_shorts_width : Int32) (p2_shorts_size : Int32) (p1_bytes : Nat → Int32) (p2_shorts_lengths : Nat → Int32) (p2_shorts_masks : Nat → Int32) (p2_shorts_letters : Nat → Int32) (p2_longs_most : Int32) (p2_longs_width : Int32) (p2_longs_size : Int32) (p2_longs_lengths : Nat → Int32) (p2_longs_masks : Nat → Int32) (p2_longs_letters : Nat → Int32) (post : Int32 → Int32 → Int32 → Int32 → Int32 → Int32 → Int32 → Int32 → (Nat → Int32) → (Nat → Int32) → (Nat → Int32) → Int32 → (Nat → Int32) → (Nat → Int32) → (Nat → Int32) → Prop) (h : wp_X6_takeShortLine n_p2_shorts_lengths n_p2_shorts_masks n_p2_shorts_letters n_p2_longs_lengths n_p2_longs_masks n_p2_longs_letters t_kind t_where p1_size p1_at p1_token p1_from p1_value p2_shorts_most p2_shorts_width p2_shorts_size p1_bytes p2_shorts_lengths p2_shorts_masks p2_shorts_letters p2_longs_most p2_longs_width p2_longs_size p2_longs_lengths p2_longs_masks p2_longs_letters post) : Ci l D g yX6_takeShortLine (.code yX6_takeShortLine cX6_takeShortLine 3 (some .boolean) :: wsL_law) rmX6_takeShortLine [.ref a_t, .ref a_p1, .ref a_p2] [(a_t, .inr (6, [.int t_kind, .int t_where])), (a_p1, .inr (9, [.ref a_p1_bytes, .int p1_size, .int p1_at, .int p1_token, .int p1_from, .int p1_value])), (a_p2, .inr (0, [o_p2_letters, o_p2_words, o_p2_weights, .ref a_p2_shorts, .ref a_p2_longs, o_p2_night, o_p2_guards, o_p2_less, o_p2_more, o_p2_knock, o_p2_pause, o_p2_gap, o_p2_tableTold, o_p2_slipTold, o_p2_timeTold])), (a_p2_shorts, .inr (4, [.int p2_shorts_most, .int p2_shorts_width, .ref a_p2_shorts_letters, .ref a_p2_shorts_lengths, .ref a_p2_shorts_masks, .int p2_shorts_size])), (a_p1_bytes, .inl (g.1 0, 320, .inl p1_bytes)), (a_p2_shorts_lengths, .inl (g.1 1, n_p2_shorts_lengths, .inl p2_shorts_lengths)), (a_p2_shorts_masks, .inl (g.1 1, n_p2_shorts_masks, .inl p2_shorts_masks)), (a_p2_shorts_letters, .inl (g.1 0, n_p2_shorts_letters, .inl p2_shorts_letters)), (a_p2_longs, .inr (4, [.int p2_longs_most, .int p2_longs_width, .ref a_p2_longs_letters, .ref a_p2_longs_lengths, .ref a_p2_longs_masks, .int p2_longs_size])), (a_p2_longs_lengths, .inl (g.1 1, n_p2_longs_lengths, .inl p2_longs_lengths)), (a_p2_longs_masks, .inl (g.1 1, n_p2_longs_masks, .inl p2_longs_masks)), (a_p2_longs_letters, .inl (g.1 0, n_p2_longs_letters, .inl p2_longs_letters))] (fun r W' => ∃ (nw_t_kind : Int32) (nw_t_where : Int32) (nw_p1_at : Int32) (nw_p1_token : Int32) (nw_p1_from : Int32) (nw_p1_value : Int32) (nw_p2_shorts_size : Int32) (nw_p2_shorts_lengths : Nat → Int32) (nw_p2_shorts_masks : Nat → Int32) (nw_p2_shorts_letters : Nat → Int32) (nw_p2_longs_size : Int32) (nw_p2_longs_lengths : Nat → Int32) (nw_p2_longs_masks : Nat → Int32) (nw_p2_longs_letters : Nat → Int32), W' = [(a_t, .inr (6, [.int nw_t_kind, .int nw_t_where])), (a_p1, .inr (9, [.ref a_p1_bytes, .int p1_size, .int nw_p1_at, .int nw_p1_token, .int nw_p1_from, .int nw_p1_value])), (a_p2, .inr (0, [o_p2_letters, o_p2_words, o_p2_weights, .ref a_p2_shorts, .ref a_p2_longs, o_p2_night, o_p2_guards, o_p2_less, o_p2_more, o_p2_knock, o_p2_pause, o_p2_gap, o_p2_tableTold, o_p2_slipTold, o_p2_timeTold])), (a_p2_shorts, .inr (4, [.int p2_shorts_most, .int p2_shorts_width, .ref a_p2_shorts_letters, .ref a_p2_shorts_lengths, .ref a_p2_shorts_masks, .int nw_p2_shorts_size])), (a_p1_bytes, .inl (g.1 0, 320, .inl p1_bytes)), (a_p2_shorts_lengths, .inl (g.1 1, n_p2_shorts_lengths, .inl nw_p2_shorts_lengths)), (a_p2_shorts_masks, .inl (g.1 1, n_p2_shorts_masks, .inl nw_p2_shorts_masks)), (a_p2_shorts_letters, .inl (g.1 0, n_p2_shorts_letters, .inl nw_p2_shorts_letters)), (a_p2_longs, .inr (4, [.int p2_longs_most, .int p2_longs_width, .ref a_p2_longs_letters, .ref a_p2_longs_lengths, .ref a_p2_longs_masks, .int nw_p2_longs_size])), (a_p2_longs_lengths, .inl (g.1 1, n_p2_longs_lengths, .inl nw_p2_longs_lengths)), (a_p2_longs_masks, .inl (g.1 1, n_p2_longs_masks, .inl nw_p2_longs_masks)), (a_p2_longs_letters, .inl (g.1 0, n_p2_longs_letters, .inl nw_p2_longs_letters))] ∧ post r nw_t_kind nw_t_where nw_p1_at nw_p1_token nw_p1_from nw_p1_value nw_p2_shorts_size nw_p2_shorts_lengths nw_p2_shorts_masks nw_p2_shorts_letters nw_p2_longs_size nw_p2_longs_lengths nw_p2_longs_masks nw_p2_longs_letters) := by
  refine Cz.of (cc := cX6_takeShortLine) (maxL := 3) (by decide) rfl (Nat.le_of_ble_eq_true rfl) ?_
  intro p e s m args below meth c A Q hx hb hml hts hown hA H locs hP hD hS hG ls hl hret
  have hown : s.vm.findClass RX6 = some m.cls := hown
  have hl : lv_has ls 3 [(0, .ref a_t), (1, .ref a_p1), (2, .ref a_p2)] := hl
  have lk0 := hts (.fieldLink RX6 123 "KnockWall$Code" "shorts" "LKnockWall$Names;") (List.mem_cons_of_mem _ (inR_16 (List.mem_of_getElem? (i := 11) rfl)))
  have lk1 := hts (.fieldLink RX6 106 "KnockWall$Names" "size" "I") (List.mem_cons_of_mem _ (inR_15 (List.mem_of_getElem? (i := 16) rfl)))
  have lk2 := hts (.fieldLink RX6 126 "KnockWall$Code" "longs" "LKnockWall$Names;") (List.mem_cons_of_mem _ (inR_16 (List.mem_of_getElem? (i := 12) rfl)))
  have lk3 := hts (.fieldLink RX6 84 "KnockWall$Tape" "from" "I") (List.mem_cons_of_mem _ (inR_11 (List.mem_of_getElem? (i := 14) rfl)))
  unfold wp_X6_takeShortLine at h
  try dsimp only at h
  refine lv_aload_n hx hb dX6_takeShortLine_0 rfl (lv_at hl 2 rfl) ?_
  refine va_get (ci := 0) (v := .ref a_p2_shorts) (C := RX0) (T := TX0) (N := 15) hx hb hts icX0 hown hG.k hP 2 rfl rfl 3 (by decide) lk0 (fun _ h9 => h9) rfl dX6_takeShortLine_1 ?_
  refine va_get (ci := 4) (v := .int p2_shorts_size) (C := RX4) (T := TX4) (N := 6) hx hb hts icX4 hown hG.k hP 3 rfl rfl 5 (by decide) lk1 (fun _ h9 => h9) rfl dX6_takeShortLine_4 ?_
  refine lv_bipush (v := 6) hx hb dX6_takeShortLine_7 (by decide) ?_
  refine lv_icmp_lt (tgt := 22) hx hb dX6_takeShortLine_9 (by decide) (fun c1 => ?_) (fun c1 => ?_)
  · have h := h.1 c1
    refine lv_aload_n hx hb dX6_takeShortLine_22 rfl (lv_at hl 0 rfl) ?_
    refine lv_aload_n hx hb dX6_takeShortLine_23 rfl (lv_at hl 1 rfl) ?_
    refine lv_iconst (v := 1) hx hb dX6_takeShortLine_24 (by decide) ?_
    refine lv_iconst (v := 3) hx hb dX6_takeShortLine_25 (by decide) ?_
    refine k_i (wr := [(a_p2, .inr (0, [o_p2_letters, o_p2_words, o_p2_weights, .ref a_p2_shorts, .ref a_p2_longs, o_p2_night, o_p2_guards, o_p2_less, o_p2_more, o_p2_knock, o_p2_pause, o_p2_gap, o_p2_tableTold, o_p2_slipTold, o_p2_timeTold])), (a_p2_shorts, .inr (4, [.int p2_shorts_most, .int p2_shorts_width, .ref a_p2_shorts_letters, .ref a_p2_shorts_lengths, .ref a_p2_shorts_masks, .int p2_shorts_size])), (a_p2_shorts_lengths, .inl (g.1 1, n_p2_shorts_lengths, .inl p2_shorts_lengths)), (a_p2_shorts_masks, .inl (g.1 1, n_p2_shorts_masks, .inl p2_shorts_masks)), (a_p2_shorts_letters, .inl (g.1 0, n_p2_shorts_letters, .inl p2_shorts_letters)), (a_p2_longs, .inr (4, [.int p2_longs_most, .int p2_longs_width, .ref a_p2_longs_letters, .ref a_p2_longs_lengths, .ref a_p2_longs_masks, .int p2_longs_size])), (a_p2_longs_lengths, .inl (g.1 1, n_p2_longs_lengths, .inl p2_longs_lengths)), (a_p2_longs_masks, .inl (g.1 1, n_p2_longs_masks, .inl p2_longs_masks)), (a_p2_longs_letters, .inl (g.1 0, n_p2_longs_letters, .inl p2_longs_letters))]) hA hP hD hS [0, 1, 4] [2, 3, 5, 6, 7, 8, 9, 10, 11] rfl rfl (by decide) (by decide) (va_runV (As := [.ref a_p1, .int 1, .int 3]) (rest := []) ⟨hx, hb, hml, hown, hts⟩ (c_X6_takeName l D g a_t a_p1 a_p1_bytes t_kind t_where p1_size p1_at p1_token p1_from p1_value p1_bytes 1 3 _ h H.size) (cwV 3 hts (gdV (inR_14 (List.mem_of_getElem? (i := 9) rfl)) (inR_14 (List.mem_of_getElem? (i := 10) rfl)) (inR_14 (List.mem_of_getElem? (i := 11) rfl)) (inR_1 (List.mem_of_getElem? (i := 19) rfl)) (inR_14 (List.mem_of_getElem? (i := 12) rfl))) rfl rfl rfl hdX6_takeName ⟨Nat.le_of_ble_eq_true rfl, Nat.le_of_ble_eq_true rfl⟩) (k_preV (q0 := 0) hG hA hP hD hS [0, 1, 4] rfl (by decide) rfl rfl) rfl rfl hl.1 rfl (lv_room (Nat.le_of_ble_eq_true rfl)) dX6_takeShortLine_26 ⟨Nat.zero_le _, Nat.zero_le _⟩) (fun r2 W' H locs h hP hD hS => ?_)
    obtain ⟨u2_t_kind, u2_t_where, u2_p1_at, u2_p1_token, u2_p1_from, u2_p1_value, rfl, h⟩ := h
    have hP : va_P D vwCl [(a_t, .inr (6, [.int u2_t_kind, .int u2_t_where])), (a_p1, .inr (9, [.ref a_p1_bytes, .int p1_size, .int u2_p1_at, .int u2_p1_token, .int u2_p1_from, .int u2_p1_value])), (a_p2, .inr (0, [o_p2_letters, o_p2_words, o_p2_weights, .ref a_p2_shorts, .ref a_p2_longs, o_p2_night, o_p2_guards, o_p2_less, o_p2_more, o_p2_knock, o_p2_pause, o_p2_gap, o_p2_tableTold, o_p2_slipTold, o_p2_timeTold])), (a_p2_shorts, .inr (4, [.int p2_shorts_most, .int p2_shorts_width, .ref a_p2_shorts_letters, .ref a_p2_shorts_lengths, .ref a_p2_shorts_masks, .int p2_shorts_size])), (a_p1_bytes, .inl (g.1 0, 320, .inl p1_bytes)), (a_p2_shorts_lengths, .inl (g.1 1, n_p2_shorts_lengths, .inl p2_shorts_lengths)), (a_p2_shorts_masks, .inl (g.1 1, n_p2_shorts_masks, .inl p2_shorts_masks)), (a_p2_shorts_letters, .inl (g.1 0, n_p2_shorts_letters, .inl p2_shorts_letters)), (a_p2_longs, .inr (4, [.int p2_longs_most, .int p2_longs_width, .ref a_p2_longs_letters, .ref a_p2_longs_lengths, .ref a_p2_longs_masks, .int p2_longs_size])), (a_p2_longs_lengths, .inl (g.1 1, n_p2_longs_lengths, .inl p2_longs_lengths)), (a_p2_longs_masks, .inl (g.1 1, n_p2_longs_masks, .inl p2_longs_masks)), (a_p2_longs_letters, .inl (g.1 0, n_p2_longs_letters, .inl p2_longs_letters))] H := hP.sub [9, 10, 0, 1, 11, 2, 3, 4, 5, 6, 7, 8] rfl
    have hD : va_D A [(a_t, .inr (6, [.int u2_t_kind, .int u2_t_where])), (a_p1, .inr (9, [.ref a_p1_bytes, .int p1_size, .int u2_p1_at, .int u2_p1_token, .int u2_p1_from, .int u2_p1_value])), (a_p2, .inr (0, [o_p2_letters, o_p2_words, o_p2_weights, .ref a_p2_shorts, .ref a_p2_longs, o_p2_night, o_p2_guards, o_p2_less, o_p2_more, o_p2_knock, o_p2_pause, o_p2_gap, o_p2_tableTold, o_p2_slipTold, o_p2_timeTold])), (a_p2_shorts, .inr (4, [.int p2_shorts_most, .int p2_shorts_width, .ref a_p2_shorts_letters, .ref a_p2_shorts_lengths, .ref a_p2_shorts_masks, .int p2_shorts_size])), (a_p1_bytes, .inl (g.1 0, 320, .inl p1_bytes)), (a_p2_shorts_lengths, .inl (g.1 1, n_p2_shorts_lengths, .inl p2_shorts_lengths)), (a_p2_shorts_masks, .inl (g.1 1, n_p2_shorts_masks, .inl p2_shorts_masks)), (a_p2_shorts_letters, .inl (g.1 0, n_p2_shorts_letters, .inl p2_shorts_letters)), (a_p2_longs, .inr (4, [.int p2_longs_most, .int p2_longs_width, .ref a_p2_longs_letters, .ref a_p2_longs_lengths, .ref a_p2_longs_masks, .int p2_longs_size])), (a_p2_longs_lengths, .inl (g.1 1, n_p2_longs_lengths, .inl p2_longs_lengths)), (a_p2_longs_masks, .inl (g.1 1, n_p2_longs_masks, .inl p2_longs_masks)), (a_p2_longs_letters, .inl (g.1 0, n_p2_longs_letters, .inl p2_longs_letters))] := hD.sub [9, 10, 0, 1, 11, 2, 3, 4, 5, 6, 7, 8] (by decide) rfl
    refine lv_if_ne (tgt := 34) hx hb dX6_takeShortLine_29 (by decide) (fun c3 => ?_) (fun c3 => ?_)
    · have h := h.1 c3
      refine lv_aload_n hx hb dX6_takeShortLine_34 rfl (lv_at hl 2 rfl) ?_
      refine va_get (ci := 0) (v := .ref a_p2_shorts) (C := RX0) (T := TX0) (N := 15) hx hb hts icX0 hown hG.k hP 2 rfl rfl 3 (by decide) lk0 (fun _ h9 => h9) rfl dX6_takeShortLine_35 ?_
      refine lv_aload_n hx hb dX6_takeShortLine_38 rfl (lv_at hl 1 rfl) ?_
      refine k_v (wr := [(a_t, .inr (6, [.int u2_t_kind, .int u2_t_where])), (a_p2, .inr (0, [o_p2_letters, o_p2_words, o_p2_weights, .ref a_p2_shorts, .ref a_p2_longs, o_p2_night, o_p2_guards, o_p2_less, o_p2_more, o_p2_knock, o_p2_pause, o_p2_gap, o_p2_tableTold, o_p2_slipTold, o_p2_timeTold])), (a_p2_longs, .inr (4, [.int p2_longs_most, .int p2_longs_width, .ref a_p2_longs_letters, .ref a_p2_longs_lengths, .ref a_p2_longs_masks, .int p2_longs_size])), (a_p2_longs_lengths, .inl (g.1 1, n_p2_longs_lengths, .inl p2_longs_lengths)), (a_p2_longs_masks, .inl (g.1 1, n_p2_longs_masks, .inl p2_longs_masks)), (a_p2_longs_letters, .inl (g.1 0, n_p2_longs_letters, .inl p2_longs_letters))]) hA hP hD hS [3, 1, 5, 6, 4, 7] [0, 2, 8, 9, 10, 11] rfl rfl (by decide) (by decide) (va_runV (As := [.ref a_p1]) (rest := []) ⟨hx, hb, hml, hown, hts⟩ (c_X4_add l D g a_p2_shorts a_p1 a_p2_shorts_lengths a_p2_shorts_masks a_p1_bytes a_p2_shorts_letters (.int p1_size) (.int u2_p1_token) (.int u2_p1_value) n_p2_shorts_lengths n_p2_shorts_masks n_p2_shorts_letters p2_shorts_most p2_shorts_width p2_shorts_size u2_p1_at u2_p1_from p2_shorts_lengths p2_shorts_masks p1_bytes p2_shorts_letters _ h H.size) (cwV 1 hts (gdV (inR_15 (List.mem_of_getElem? (i := 19) rfl)) (inR_15 (List.mem_of_getElem? (i := 20) rfl)) (inR_15 (List.mem_of_getElem? (i := 21) rfl)) (inR_5 (List.mem_of_getElem? (i := 2) rfl)) (inR_15 (List.mem_of_getElem? (i := 22) rfl))) rfl rfl rfl hdX4_add ⟨Nat.le_of_ble_eq_true rfl, Nat.le_of_ble_eq_true rfl⟩) (k_preV (q0 := 3) hG hA hP hD hS [3, 1, 5, 6, 4, 7] rfl (by decide) rfl rfl) rfl rfl hl.1 rfl (lv_room (Nat.le_of_ble_eq_true rfl)) dX6_takeShortLine_39 ⟨Nat.zero_le _, Nat.zero_le _⟩) (fun W' H locs h hP hD hS => ?_)
      obtain ⟨u4_t_size, u4_t_lengths, u4_t_masks, u4_t_letters, rfl, h⟩ := h
      have hP : va_P D vwCl [(a_t, .inr (6, [.int u2_t_kind, .int u2_t_where])), (a_p1, .inr (9, [.ref a_p1_bytes, .int p1_size, .int u2_p1_at, .int u2_p1_token, .int u2_p1_from, .int u2_p1_value])), (a_p2, .inr (0, [o_p2_letters, o_p2_words, o_p2_weights, .ref a_p2_shorts, .ref a_p2_longs, o_p2_night, o_p2_guards, o_p2_less, o_p2_more, o_p2_knock, o_p2_pause, o_p2_gap, o_p2_tableTold, o_p2_slipTold, o_p2_timeTold])), (a_p2_shorts, .inr (4, [.int p2_shorts_most, .int p2_shorts_width, .ref a_p2_shorts_letters, .ref a_p2_shorts_lengths, .ref a_p2_shorts_masks, .int u4_t_size])), (a_p1_bytes, .inl (g.1 0, 320, .inl p1_bytes)), (a_p2_shorts_lengths, .inl (g.1 1, n_p2_shorts_lengths, .inl u4_t_lengths)), (a_p2_shorts_masks, .inl (g.1 1, n_p2_shorts_masks, .inl u4_t_masks)), (a_p2_shorts_letters, .inl (g.1 0, n_p2_shorts_letters, .inl u4_t_letters)), (a_p2_longs, .inr (4, [.int p2_longs_most, .int p2_longs_width, .ref a_p2_longs_letters, .ref a_p2_longs_lengths, .ref a_p2_longs_masks, .int p2_longs_size])), (a_p2_longs_lengths, .inl (g.1 1, n_p2_longs_lengths, .inl p2_longs_lengths)), (a_p2_longs_masks, .inl (g.1 1, n_p2_longs_masks, .inl p2_longs_masks)), (a_p2_longs_letters, .inl (g.1 0, n_p2_longs_letters, .inl p2_longs_letters))] H := hP.sub [0, 7, 1, 6, 10, 8, 9, 11, 2, 3, 4, 5] rfl
      have hD : va_D A [(a_t, .inr (6, [.int u2_t_kind, .int u2_t_where])), (a_p1, .inr (9, [.ref a_p1_bytes, .int p1_size, .int u2_p1_at, .int u2_p1_token, .int u2_p1_from, .int u2_p1_value])), (a_p2, .inr (0, [o_p2_letters, o_p2_words, o_p2_weights, .ref a_p2_shorts, .ref a_p2_longs, o_p2_night, o_p2_guards, o_p2_less, o_p2_more, o_p2_knock, o_p2_pause, o_p2_gap, o_p2_tableTold, o_p2_slipTold, o_p2_timeTold])), (a_p2_shorts, .inr (4, [.int p2_shorts_most, .int p2_shorts_width, .ref a_p2_shorts_letters, .ref a_p2_shorts_lengths, .ref a_p2_shorts_masks, .int u4_t_size])), (a_p1_bytes, .inl (g.1 0, 320, .inl p1_bytes)), (a_p2_shorts_lengths, .inl (g.1 1, n_p2_shorts_lengths, .inl u4_t_lengths)), (a_p2_shorts_masks, .inl (g.1 1, n_p2_shorts_masks, .inl u4_t_masks)), (a_p2_shorts_letters, .inl (g.1 0, n_p2_shorts_letters, .inl u4_t_letters)), (a_p2_longs, .inr (4, [.int p2_longs_most, .int p2_longs_width, .ref a_p2_longs_letters, .ref a_p2_longs_lengths, .ref a_p2_longs_masks, .int p2_longs_size])), (a_p2_longs_lengths, .inl (g.1 1, n_p2_longs_lengths, .inl p2_longs_lengths)), (a_p2_longs_masks, .inl (g.1 1, n_p2_longs_masks, .inl p2_longs_masks)), (a_p2_longs_letters, .inl (g.1 0, n_p2_longs_letters, .inl p2_longs_letters))] := hD.sub [0, 7, 1, 6, 10, 8, 9, 11, 2, 3, 4, 5] (by decide) rfl
      refine lv_aload_n hx hb dX6_takeShortLine_42 rfl (lv_at hl 0 rfl) ?_
      refine lv_aload_n hx hb dX6_takeShortLine_43 rfl (lv_at hl 1 rfl) ?_
      refine lv_iconst (v := 2) hx hb dX6_takeShortLine_44 (by decide) ?_
      refine lv_bipush (v := 8) hx hb dX6_takeShortLine_45 (by decide) ?_
      refine k_i (wr := [(a_p2, .inr (0, [o_p2_letters, o_p2_words, o_p2_weights, .ref a_p2_shorts, .ref a_p2_longs, o_p2_night, o_p2_guards, o_p2_less, o_p2_more, o_p2_knock, o_p2_pause, o_p2_gap, o_p2_tableTold, o_p2_slipTold, o_p2_timeTold])), (a_p2_shorts, .inr (4, [.int p2_shorts_most, .int p2_shorts_width, .ref a_p2_shorts_letters, .ref a_p2_shorts_lengths, .ref a_p2_shorts_masks, .int u4_t_size])), (a_p2_shorts_lengths, .inl (g.1 1, n_p2_shorts_lengths, .inl u4_t_lengths)), (a_p2_shorts_masks, .inl (g.1 1, n_p2_shorts_masks, .inl u4_t_masks)), (a_p2_shorts_letters, .inl (g.1 0, n_p2_shorts_letters, .inl u4_t_letters)), (a_p2_longs, .inr (4, [.int p2_longs_most, .int p2_longs_width, .ref a_p2_longs_letters, .ref a_p2_longs_lengths, .ref a_p2_longs_masks, .int p2_longs_size])), (a_p2_longs_lengths, .inl (g.1 1, n_p2_longs_lengths, .inl p2_longs_lengths)), (a_p2_longs_masks, .inl (g.1 1, n_p2_longs_masks, .inl p2_longs_masks)), (a_p2_longs_letters, .inl (g.1 0, n_p2_longs_letters, .inl p2_longs_letters))]) hA hP hD hS [0, 1, 4] [2, 3, 5, 6, 7, 8, 9, 10, 11] rfl rfl (by decide) (by decide) (va_runV (As := [.ref a_p1, .int 2, .int 8]) (rest := []) ⟨hx, hb, hml, hown, hts⟩ (c_X6_takeName l D g a_t a_p1 a_p1_bytes u2_t_kind u2_t_where p1_size u2_p1_at u2_p1_token u2_p1_from u2_p1_value p1_bytes 2 8 _ h H.size) (cwV 3 hts (gdV (inR_14 (List.mem_of_getElem? (i := 9) rfl)) (inR_14 (List.mem_of_getElem? (i := 10) rfl)) (inR_14 (List.mem_of_getElem? (i := 11) rfl)) (inR_1 (List.mem_of_getElem? (i := 19) rfl)) (inR_14 (List.mem_of_getElem? (i := 12) rfl))) rfl rfl rfl hdX6_takeName ⟨Nat.le_of_ble_eq_true rfl, Nat.le_of_ble_eq_true rfl⟩) (k_preV (q0 := 0) hG hA hP hD hS [0, 1, 4] rfl (by decide) rfl rfl) rfl rfl hl.1 rfl (lv_room (Nat.le_of_ble_eq_true rfl)) dX6_takeShortLine_47 ⟨Nat.zero_le _, Nat.zero_le _⟩) (fun r5 W' H locs h hP hD hS => ?_)
      obtain ⟨u5_t_kind, u5_t_where, u5_p1_at, u5_p1_token, u5_p1_from, u5_p1_value, rfl, h⟩ := h
      have hP : va_P D vwCl [(a_t, .inr (6, [.int u5_t_kind, .int u5_t_where])), (a_p1, .inr (9, [.ref a_p1_bytes, .int p1_size, .int u5_p1_at, .int u5_p1_token, .int u5_p1_from, .int u5_p1_value])), (a_p2, .inr (0, [o_p2_letters, o_p2_words, o_p2_weights, .ref a_p2_shorts, .ref a_p2_longs, o_p2_night, o_p2_guards, o_p2_less, o_p2_more, o_p2_knock, o_p2_pause, o_p2_gap, o_p2_tableTold, o_p2_slipTold, o_p2_timeTold])), (a_p2_shorts, .inr (4, [.int p2_shorts_most, .int p2_shorts_width, .ref a_p2_shorts_letters, .ref a_p2_shorts_lengths, .ref a_p2_shorts_masks, .int u4_t_size])), (a_p1_bytes, .inl (g.1 0, 320, .inl p1_bytes)), (a_p2_shorts_lengths, .inl (g.1 1, n_p2_shorts_lengths, .inl u4_t_lengths)), (a_p2_shorts_masks, .inl (g.1 1, n_p2_shorts_masks, .inl u4_t_masks)), (a_p2_shorts_letters, .inl (g.1 0, n_p2_shorts_letters, .inl u4_t_letters)), (a_p2_longs, .inr (4, [.int p2_longs_most, .int p2_longs_width, .ref a_p2_longs_letters, .ref a_p2_longs_lengths, .ref a_p2_longs_masks, .int p2_longs_size])), (a_p2_longs_lengths, .inl (g.1 1, n_p2_longs_lengths, .inl p2_longs_lengths)), (a_p2_longs_masks, .inl (g.1 1, n_p2_longs_masks, .inl p2_longs_masks)), (a_p2_longs_letters, .inl (g.1 0, n_p2_longs_letters, .inl p2_longs_letters))] H := hP.sub [9, 10, 0, 1, 11, 2, 3, 4, 5, 6, 7, 8] rfl
      have hD : va_D A [(a_t, .inr (6, [.int u5_t_kind, .int u5_t_where])), (a_p1, .inr (9, [.ref a_p1_bytes, .int p1_size, .int u5_p1_at, .int u5_p1_token, .int u5_p1_from, .int u5_p1_value])), (a_p2, .inr (0, [o_p2_letters, o_p2_words, o_p2_weights, .ref a_p2_shorts, .ref a_p2_longs, o_p2_night, o_p2_guards, o_p2_less, o_p2_more, o_p2_knock, o_p2_pause, o_p2_gap, o_p2_tableTold, o_p2_slipTold, o_p2_timeTold])), (a_p2_shorts, .inr (4, [.int p2_shorts_most, .int p2_shorts_width, .ref a_p2_shorts_letters, .ref a_p2_shorts_lengths, .ref a_p2_shorts_masks, .int u4_t_size])), (a_p1_bytes, .inl (g.1 0, 320, .inl p1_bytes)), (a_p2_shorts_lengths, .inl (g.1 1, n_p2_shorts_lengths, .inl u4_t_lengths)), (a_p2_shorts_masks, .inl (g.1 1, n_p2_shorts_masks, .inl u4_t_masks)), (a_p2_shorts_letters, .inl (g.1 0, n_p2_shorts_letters, .inl u4_t_letters)), (a_p2_longs, .inr (4, [.int p2_longs_most, .int p2_longs_width, .ref a_p2_longs_letters, .ref a_p2_longs_lengths, .ref a_p2_longs_masks, .int p2_longs_size])), (a_p2_longs_lengths, .inl (g.1 1, n_p2_longs_lengths, .inl p2_longs_lengths)), (a_p2_longs_masks, .inl (g.1 1, n_p2_longs_masks, .inl p2_longs_masks)), (a_p2_longs_letters, .inl (g.1 0, n_p2_longs_letters, .inl p2_longs_letters))] := hD.sub [9, 10, 0, 1, 11, 2, 3, 4, 5, 6, 7, 8] (by decide) rfl
      refine lv_if_ne (tgt := 55) hx hb dX6_takeShortLine_50 (by decide) (fun c6 => ?_) (fun c6 => ?_)
      · have h := h.1 c6
        refine lv_aload_n hx hb dX6_takeShortLine_55 rfl (lv_at hl 2 rfl) ?_
        refine va_get (ci := 0) (v := .ref a_p2_longs) (C := RX0) (T := TX0) (N := 15) hx hb hts icX0 hown hG.k hP 2 rfl rfl 4 (by decide) lk2 (fun _ h9 => h9) rfl dX6_takeShortLine_56 ?_
        refine lv_aload_n hx hb dX6_takeShortLine_59 rfl (lv_at hl 1 rfl) ?_
        refine k_v (wr := [(a_t, .inr (6, [.int u5_t_kind, .int u5_t_where])), (a_p2, .inr (0, [o_p2_letters, o_p2_words, o_p2_weights, .ref a_p2_shorts, .ref a_p2_longs, o_p2_night, o_p2_guards, o_p2_less, o_p2_more, o_p2_knock, o_p2_pause, o_p2_gap, o_p2_tableTold, o_p2_slipTold, o_p2_timeTold])), (a_p2_shorts, .inr (4, [.int p2_shorts_most, .int p2_shorts_width, .ref a_p2_shorts_letters, .ref a_p2_shorts_lengths, .ref a_p2_shorts_masks, .int u4_t_size])), (a_p2_shorts_lengths, .inl (g.1 1, n_p2_shorts_lengths, .inl u4_t_lengths)), (a_p2_shorts_masks, .inl (g.1 1, n_p2_shorts_masks, .inl u4_t_masks)), (a_p2_shorts_letters, .inl (g.1 0, n_p2_shorts_letters, .inl u4_t_letters))]) hA hP hD hS [8, 1, 9, 10, 4, 11] [0, 2, 3, 5, 6, 7] rfl rfl (by decide) (by decide) (va_runV (As := [.ref a_p1]) (rest := []) ⟨hx, hb, hml, hown, hts⟩ (c_X4_add l D g a_p2_longs a_p1 a_p2_longs_lengths a_p2_longs_masks a_p1_bytes a_p2_longs_letters (.int p1_size) (.int u5_p1_token) (.int u5_p1_value) n_p2_longs_lengths n_p2_longs_masks n_p2_longs_letters p2_longs_most p2_longs_width p2_longs_size u5_p1_at u5_p1_from p2_longs_lengths p2_longs_masks p1_bytes p2_longs_letters _ h H.size) (cwV 1 hts (gdV (inR_15 (List.mem_of_getElem? (i := 19) rfl)) (inR_15 (List.mem_of_getElem? (i := 20) rfl)) (inR_15 (List.mem_of_getElem? (i := 21) rfl)) (inR_5 (List.mem_of_getElem? (i := 2) rfl)) (inR_15 (List.mem_of_getElem? (i := 22) rfl))) rfl rfl rfl hdX4_add ⟨Nat.le_of_ble_eq_true rfl, Nat.le_of_ble_eq_true rfl⟩) (k_preV (q0 := 8) hG hA hP hD hS [8, 1, 9, 10, 4, 11] rfl (by decide) rfl rfl) rfl rfl hl.1 rfl (lv_room (Nat.le_of_ble_eq_true rfl)) dX6_takeShortLine_60 ⟨Nat.zero_le _, Nat.zero_le _⟩) (fun W' H locs h hP hD hS => ?_)
        obtain ⟨u7_t_size, u7_t_lengths, u7_t_masks, u7_t_letters, rfl, h⟩ := h
        have hP : va_P D vwCl [(a_t, .inr (6, [.int u5_t_kind, .int u5_t_where])), (a_p1, .inr (9, [.ref a_p1_bytes, .int p1_size, .int u5_p1_at, .int u5_p1_token, .int u5_p1_from, .int u5_p1_value])), (a_p2, .inr (0, [o_p2_letters, o_p2_words, o_p2_weights, .ref a_p2_shorts, .ref a_p2_longs, o_p2_night, o_p2_guards, o_p2_less, o_p2_more, o_p2_knock, o_p2_pause, o_p2_gap, o_p2_tableTold, o_p2_slipTold, o_p2_timeTold])), (a_p2_shorts, .inr (4, [.int p2_shorts_most, .int p2_shorts_width, .ref a_p2_shorts_letters, .ref a_p2_shorts_lengths, .ref a_p2_shorts_masks, .int u4_t_size])), (a_p1_bytes, .inl (g.1 0, 320, .inl p1_bytes)), (a_p2_shorts_lengths, .inl (g.1 1, n_p2_shorts_lengths, .inl u4_t_lengths)), (a_p2_shorts_masks, .inl (g.1 1, n_p2_shorts_masks, .inl u4_t_masks)), (a_p2_shorts_letters, .inl (g.1 0, n_p2_shorts_letters, .inl u4_t_letters)), (a_p2_longs, .inr (4, [.int p2_longs_most, .int p2_longs_width, .ref a_p2_longs_letters, .ref a_p2_longs_lengths, .ref a_p2_longs_masks, .int u7_t_size])), (a_p2_longs_lengths, .inl (g.1 1, n_p2_longs_lengths, .inl u7_t_lengths)), (a_p2_longs_masks, .inl (g.1 1, n_p2_longs_masks, .inl u7_t_masks)), (a_p2_longs_letters, .inl (g.1 0, n_p2_longs_letters, .inl u7_t_letters))] H := hP.sub [0, 7, 1, 2, 10, 3, 4, 5, 6, 8, 9, 11] rfl
        have hD : va_D A [(a_t, .inr (6, [.int u5_t_kind, .int u5_t_where])), (a_p1, .inr (9, [.ref a_p1_bytes, .int p1_size, .int u5_p1_at, .int u5_p1_token, .int u5_p1_from, .int u5_p1_value])), (a_p2, .inr (0, [o_p2_letters, o_p2_words, o_p2_weights, .ref a_p2_shorts, .ref a_p2_longs, o_p2_night, o_p2_guards, o_p2_less, o_p2_more, o_p2_knock, o_p2_pause, o_p2_gap, o_p2_tableTold, o_p2_slipTold, o_p2_timeTold])), (a_p2_shorts, .inr (4, [.int p2_shorts_most, .int p2_shorts_width, .ref a_p2_shorts_letters, .ref a_p2_shorts_lengths, .ref a_p2_shorts_masks, .int u4_t_size])), (a_p1_bytes, .inl (g.1 0, 320, .inl p1_bytes)), (a_p2_shorts_lengths, .inl (g.1 1, n_p2_shorts_lengths, .inl u4_t_lengths)), (a_p2_shorts_masks, .inl (g.1 1, n_p2_shorts_masks, .inl u4_t_masks)), (a_p2_shorts_letters, .inl (g.1 0, n_p2_shorts_letters, .inl u4_t_letters)), (a_p2_longs, .inr (4, [.int p2_longs_most, .int p2_longs_width, .ref a_p2_longs_letters, .ref a_p2_longs_lengths, .ref a_p2_longs_masks, .int u7_t_size])), (a_p2_longs_lengths, .inl (g.1 1, n_p2_longs_lengths, .inl u7_t_lengths)), (a_p2_longs_masks, .inl (g.1 1, n_p2_longs_masks, .inl u7_t_masks)), (a_p2_longs_letters, .inl (g.1 0, n_p2_longs_letters, .inl u7_t_letters))] := hD.sub [0, 7, 1, 2, 10, 3, 4, 5, 6, 8, 9, 11] (by decide) rfl
        refine lv_aload_n hx hb dX6_takeShortLine_63 rfl (lv_at hl 0 rfl) ?_
        refine lv_aload_n hx hb dX6_takeShortLine_64 rfl (lv_at hl 1 rfl) ?_
        refine k_i (wr := [(a_p2, .inr (0, [o_p2_letters, o_p2_words, o_p2_weights, .ref a_p2_shorts, .ref a_p2_longs, o_p2_night, o_p2_guards, o_p2_less, o_p2_more, o_p2_knock, o_p2_pause, o_p2_gap, o_p2_tableTold, o_p2_slipTold, o_p2_timeTold])), (a_p2_shorts, .inr (4, [.int p2_shorts_most, .int p2_shorts_width, .ref a_p2_shorts_letters, .ref a_p2_shorts_lengths, .ref a_p2_shorts_masks, .int u4_t_size])), (a_p2_shorts_lengths, .inl (g.1 1, n_p2_shorts_lengths, .inl u4_t_lengths)), (a_p2_shorts_masks, .inl (g.1 1, n_p2_shorts_masks, .inl u4_t_masks)), (a_p2_shorts_letters, .inl (g.1 0, n_p2_shorts_letters, .inl u4_t_letters)), (a_p2_longs, .inr (4, [.int p2_longs_most, .int p2_longs_width, .ref a_p2_longs_letters, .ref a_p2_longs_lengths, .ref a_p2_longs_masks, .int u7_t_size])), (a_p2_longs_lengths, .inl (g.1 1, n_p2_longs_lengths, .inl u7_t_lengths)), (a_p2_longs_masks, .inl (g.1 1, n_p2_longs_masks, .inl u7_t_masks)), (a_p2_longs_letters, .inl (g.1 0, n_p2_longs_letters, .inl u7_t_letters))]) hA hP hD hS [0, 1, 4] [2, 3, 5, 6, 7, 8, 9, 10, 11] rfl rfl (by decide) (by decide) (va_runV (As := [.ref a_p1]) (rest := []) ⟨hx, hb, hml, hown, hts⟩ (c_X6_takeSign l D g a_t a_p1 a_p1_bytes u5_t_kind u5_t_where p1_size u5_p1_at u5_p1_token u5_p1_from u5_p1_value p1_bytes _ h H.size) (cwV 1 hts (gdV (inR_15 (List.mem_of_getElem? (i := 7) rfl)) (inR_15 (List.mem_of_getElem? (i := 8) rfl)) (inR_15 (List.mem_of_getElem? (i := 9) rfl)) (inR_1 (List.mem_of_getElem? (i := 19) rfl)) (inR_15 (List.mem_of_getElem? (i := 10) rfl))) rfl rfl rfl hdX6_takeSign ⟨Nat.le_of_ble_eq_true rfl, Nat.le_of_ble_eq_true rfl⟩) (k_preV (q0 := 0) hG hA hP hD hS [0, 1, 4] rfl (by decide) rfl rfl) rfl rfl hl.1 rfl (lv_room (Nat.le_of_ble_eq_true rfl)) dX6_takeShortLine_65 ⟨Nat.zero_le _, Nat.zero_le _⟩) (fun r8 W' H locs h hP hD hS => ?_)
        obtain ⟨u8_t_kind, u8_t_where, u8_p1_at, u8_p1_token, u8_p1_from, u8_p1_value, rfl, h⟩ := h
        have hP : va_P D vwCl [(a_t, .inr (6, [.int u8_t_kind, .int u8_t_where])), (a_p1, .inr (9, [.ref a_p1_bytes, .int p1_size, .int u8_p1_at, .int u8_p1_token, .int u8_p1_from, .int u8_p1_value])), (a_p2, .inr (0, [o_p2_letters, o_p2_words, o_p2_weights, .ref a_p2_shorts, .ref a_p2_longs, o_p2_night, o_p2_guards, o_p2_less, o_p2_more, o_p2_knock, o_p2_pause, o_p2_gap, o_p2_tableTold, o_p2_slipTold, o_p2_timeTold])), (a_p2_shorts, .inr (4, [.int p2_shorts_most, .int p2_shorts_width, .ref a_p2_shorts_letters, .ref a_p2_shorts_lengths, .ref a_p2_shorts_masks, .int u4_t_size])), (a_p1_bytes, .inl (g.1 0, 320, .inl p1_bytes)), (a_p2_shorts_lengths, .inl (g.1 1, n_p2_shorts_lengths, .inl u4_t_lengths)), (a_p2_shorts_masks, .inl (g.1 1, n_p2_shorts_masks, .inl u4_t_masks)), (a_p2_shorts_letters, .inl (g.1 0, n_p2_shorts_letters, .inl u4_t_letters)), (a_p2_longs, .inr (4, [.int p2_longs_most, .int p2_longs_width, .ref a_p2_longs_letters, .ref a_p2_longs_lengths, .ref a_p2_longs_masks, .int u7_t_size])), (a_p2_longs_lengths, .inl (g.1 1, n_p2_longs_lengths, .inl u7_t_lengths)), (a_p2_longs_masks, .inl (g.1 1, n_p2_longs_masks, .inl u7_t_masks)), (a_p2_longs_letters, .inl (g.1 0, n_p2_longs_letters, .inl u7_t_letters))] H := hP.sub [9, 10, 0, 1, 11, 2, 3, 4, 5, 6, 7, 8] rfl
        have hD : va_D A [(a_t, .inr (6, [.int u8_t_kind, .int u8_t_where])), (a_p1, .inr (9, [.ref a_p1_bytes, .int p1_size, .int u8_p1_at, .int u8_p1_token, .int u8_p1_from, .int u8_p1_value])), (a_p2, .inr (0, [o_p2_letters, o_p2_words, o_p2_weights, .ref a_p2_shorts, .ref a_p2_longs, o_p2_night, o_p2_guards, o_p2_less, o_p2_more, o_p2_knock, o_p2_pause, o_p2_gap, o_p2_tableTold, o_p2_slipTold, o_p2_timeTold])), (a_p2_shorts, .inr (4, [.int p2_shorts_most, .int p2_shorts_width, .ref a_p2_shorts_letters, .ref a_p2_shorts_lengths, .ref a_p2_shorts_masks, .int u4_t_size])), (a_p1_bytes, .inl (g.1 0, 320, .inl p1_bytes)), (a_p2_shorts_lengths, .inl (g.1 1, n_p2_shorts_lengths, .inl u4_t_lengths)), (a_p2_shorts_masks, .inl (g.1 1, n_p2_shorts_masks, .inl u4_t_masks)), (a_p2_shorts_letters, .inl (g.1 0, n_p2_shorts_letters, .inl u4_t_letters)), (a_p2_longs, .inr (4, [.int p2_longs_most, .int p2_longs_width, .ref a_p2_longs_letters, .ref a_p2_longs_lengths, .ref a_p2_longs_masks, .int u7_t_size])), (a_p2_longs_lengths, .inl (g.1 1, n_p2_longs_lengths, .inl u7_t_lengths)), (a_p2_longs_masks, .inl (g.1 1, n_p2_longs_masks, .inl u7_t_masks)), (a_p2_longs_letters, .inl (g.1 0, n_p2_longs_letters, .inl u7_t_letters))] := hD.sub [9, 10, 0, 1, 11, 2, 3, 4, 5, 6, 7, 8] (by decide) rfl
        obtain ⟨hzb, h⟩ := h
        exact hret r8 _ _ _ _ _ hzb ⟨u8_t_kind, u8_t_where, u8_p1_at, u8_p1_token, u8_p1_from, u8_p1_value, u4_t_size, u4_t_lengths, u4_t_masks, u4_t_letters, u7_t_size, u7_t_lengths, u7_t_masks, u7_t_letters, rfl, h⟩ hP hD hS dX6_takeShortLine_68
      · have h := h.2 c6
        refine lv_iconst (v := 0) hx hb dX6_takeShortLine_53 (by decide) ?_
        exact hret 0 _ _ _ _ _ (Or.inl rfl) ⟨u5_t_kind, u5_t_where, u5_p1_at, u5_p1_token, u5_p1_from, u5_p1_value, u4_t_size, u4_t_lengths, u4_t_masks, u4_t_letters, p2_longs_size, p2_longs_lengths, p2_longs_masks, p2_longs_letters, rfl, h⟩ hP hD hS dX6_takeShortLine_54
    · have h := h.2 c3
      refine lv_iconst (v := 0) hx hb dX6_takeShortLine_32 (by decide) ?_
      exact hret 0 _ _ _ _ _ (Or.inl rfl) ⟨u2_t_kind, u2_t_where, u2_p1_at, u2_p1_token, u2_p1_from, u2_p1_value, p2_shorts_size, p2_shorts_lengths, p2_shorts_masks, p2_shorts_letters, p2_longs_size, p2_longs_lengths, p2_longs_masks, p2_longs_letters, rfl, h⟩ hP hD hS dX6_takeShortLine_33
  · have h := h.2 c1
    refine lv_aload_n hx hb dX6_takeShortLine_12 rfl (lv_at hl 0 rfl) ?_
    refine lv_iconst (v := 5) hx hb dX6_takeShortLine_13 (by decide) ?_
    refine lv_aload_n hx hb dX6_takeShortLine_14 rfl (lv_at hl 1 rfl) ?_
    refine va_get (ci := 9) (v := .int p1_from) (C := RX9) (T := TX9) (N := 6) hx hb hts icX9 hown hG.k hP 1 rfl rfl 4 (by decide) lk3 (fun _ h9 => h9) rfl dX6_takeShortLine_15 ?_
    refine k_i (wr := [(a_p1, .inr (9, [.ref a_p1_bytes, .int p1_size, .int p1_at, .int p1_token, .int p1_from, .int p1_value])), (a_p2, .inr (0, [o_p2_letters, o_p2_words, o_p2_weights, .ref a_p2_shorts, .ref a_p2_longs, o_p2_night, o_p2_guards, o_p2_less, o_p2_more, o_p2_knock, o_p2_pause, o_p2_gap, o_p2_tableTold, o_p2_slipTold, o_p2_timeTold])), (a_p2_shorts, .inr (4, [.int p2_shorts_most, .int p2_shorts_width, .ref a_p2_shorts_letters, .ref a_p2_shorts_lengths, .ref a_p2_shorts_masks, .int p2_shorts_size])), (a_p1_bytes, .inl (g.1 0, 320, .inl p1_bytes)), (a_p2_shorts_lengths, .inl (g.1 1, n_p2_shorts_lengths, .inl p2_shorts_lengths)), (a_p2_shorts_masks, .inl (g.1 1, n_p2_shorts_masks, .inl p2_shorts_masks)), (a_p2_shorts_letters, .inl (g.1 0, n_p2_shorts_letters, .inl p2_shorts_letters)), (a_p2_longs, .inr (4, [.int p2_longs_most, .int p2_longs_width, .ref a_p2_longs_letters, .ref a_p2_longs_lengths, .ref a_p2_longs_masks, .int p2_longs_size])), (a_p2_longs_lengths, .inl (g.1 1, n_p2_longs_lengths, .inl p2_longs_lengths)), (a_p2_longs_masks, .inl (g.1 1, n_p2_longs_masks, .inl p2_longs_masks)), (a_p2_longs_letters, .inl (g.1 0, n_p2_longs_letters, .inl p2_longs_letters))]) hA hP hD hS [0] [1, 2, 3, 4, 5, 6, 7, 8, 9, 10, 11] rfl rfl (by decide) (by decide) (va_runV (As := [.int 5, .int p1_from]) (rest := []) ⟨hx, hb, hml, hown, hts⟩ (c_X6_fail l D g a_t t_kind t_where 5 p1_from _ h H.size) (cwV 2 hts (gdV (inR_11 (List.mem_of_getElem? (i := 19) rfl)) (inR_11 (List.mem_of_getElem? (i := 20) rfl)) (inR_11 (List.mem_of_getElem? (i := 21) rfl)) (inR_1 (List.mem_of_getElem? (i := 19) rfl)) (inR_11 (List.mem_of_getElem? (i := 22) rfl))) rfl rfl rfl hdX6_fail ⟨Nat.le_of_ble_eq_true rfl, Nat.le_of_ble_eq_true rfl⟩) (k_preV (q0 := 0) hG hA hP hD hS [0] rfl (by decide) rfl rfl) rfl rfl hl.1 rfl (lv_room (Nat.le_of_ble_eq_true rfl)) dX6_takeShortLine_18 ⟨Nat.zero_le _, Nat.zero_le _⟩) (fun r9 W' H locs h hP hD hS => ?_)
    obtain ⟨u9_t_kind, u9_t_where, rfl, h⟩ := h
    have hP : va_P D vwCl [(a_t, .inr (6, [.int u9_t_kind, .int u9_t_where])), (a_p1, .inr (9, [.ref a_p1_bytes, .int p1_size, .int p1_at, .int p1_token, .int p1_from, .int p1_value])), (a_p2, .inr (0, [o_p2_letters, o_p2_words, o_p2_weights, .ref a_p2_shorts, .ref a_p2_longs, o_p2_night, o_p2_guards, o_p2_less, o_p2_more, o_p2_knock, o_p2_pause, o_p2_gap, o_p2_tableTold, o_p2_slipTold, o_p2_timeTold])), (a_p2_shorts, .inr (4, [.int p2_shorts_most, .int p2_shorts_width, .ref a_p2_shorts_letters, .ref a_p2_shorts_lengths, .ref a_p2_shorts_masks, .int p2_shorts_size])), (a_p1_bytes, .inl (g.1 0, 320, .inl p1_bytes)), (a_p2_shorts_lengths, .inl (g.1 1, n_p2_shorts_lengths, .inl p2_shorts_lengths)), (a_p2_shorts_masks, .inl (g.1 1, n_p2_shorts_masks, .inl p2_shorts_masks)), (a_p2_shorts_letters, .inl (g.1 0, n_p2_shorts_letters, .inl p2_shorts_letters)), (a_p2_longs, .inr (4, [.int p2_longs_most, .int p2_longs_width, .ref a_p2_longs_letters, .ref a_p2_longs_lengths, .ref a_p2_longs_masks, .int p2_longs_size])), (a_p2_longs_lengths, .inl (g.1 1, n_p2_longs_lengths, .inl p2_longs_lengths)), (a_p2_longs_masks, .inl (g.1 1, n_p2_longs_masks, .inl p2_longs_masks)), (a_p2_longs_letters, .inl (g.1 0, n_p2_longs_letters, .inl p2_longs_letters))] H := hP.sub [11, 0, 1, 2, 3, 4, 5, 6, 7, 8, 9, 10] rfl
    have hD : va_D A [(a_t, .inr (6, [.int u9_t_kind, .int u9_t_where])), (a_p1, .inr (9, [.ref a_p1_bytes, .int p1_size, .int p1_at, .int p1_token, .int p1_from, .int p1_value])), (a_p2, .inr (0, [o_p2_letters, o_p2_words, o_p2_weights, .ref a_p2_shorts, .ref a_p2_longs, o_p2_night, o_p2_guards, o_p2_less, o_p2_more, o_p2_knock, o_p2_pause, o_p2_gap, o_p2_tableTold, o_p2_slipTold, o_p2_timeTold])), (a_p2_shorts, .inr (4, [.int p2_shorts_most, .int p2_shorts_width, .ref a_p2_shorts_letters, .ref a_p2_shorts_lengths, .ref a_p2_shorts_masks, .int p2_shorts_size])), (a_p1_bytes, .inl (g.1 0, 320, .inl p1_bytes)), (a_p2_shorts_lengths, .inl (g.1 1, n_p2_shorts_lengths, .inl p2_shorts_lengths)), (a_p2_shorts_masks, .inl (g.1 1, n_p2_shorts_masks, .inl p2_shorts_masks)), (a_p2_shorts_letters, .inl (g.1 0, n_p2_shorts_letters, .inl p2_shorts_letters)), (a_p2_longs, .inr (4, [.int p2_longs_most, .int p2_longs_width, .ref a_p2_longs_letters, .ref a_p2_longs_lengths, .ref a_p2_longs_masks, .int p2_longs_size])), (a_p2_longs_lengths, .inl (g.1 1, n_p2_longs_lengths, .inl p2_longs_lengths)), (a_p2_longs_masks, .inl (g.1 1, n_p2_longs_masks, .inl p2_longs_masks)), (a_p2_longs_letters, .inl (g.1 0, n_p2_longs_letters, .inl p2_longs_letters))] := hD.sub [11, 0, 1, 2, 3, 4, 5, 6, 7, 8, 9, 10] (by decide) rfl
    obtain ⟨hzb, h⟩ := h
    exact hret r9 _ _ _ _ _ hzb ⟨u9_t_kind, u9_t_where, p1_at, p1_token, p1_from, p1_value, p2_shorts_size, p2_shorts_lengths, p2_shorts_masks, p2_shorts_letters, p2_longs_size, p2_longs_lengths, p2_longs_masks, p2_longs_letters, rfl, h⟩ hP hD hS dX6_takeShortLine_21
theorem hdX6_takeSlipLine : yX6_takeSlipLine.cls = RX6 ∧ yX6_takeSlipLine.cls ≠ "java/lang/invoke/MethodHandle" ∧ yX6_takeSlipLine.cls ≠ "java/lang/invoke/VarHandle" ∧ (parseMethodDescriptor yX6_takeSlipLine.desc).map (fun d => d.parameters.length) = some 2 := by decide +kernel
abbrev rmX6_takeSlipLine : Room := { frames := 4, cells := 0, slots := 0, locals := 400 }
set_option maxHeartbeats 4000000 in
set_option maxRecDepth 100000 in
theorem c_X6_takeSlipLine (l : Launch) (D : va_G) (g : gE) (a_t : Nat) (a_p1 : Nat) (a_p2 : Nat) (a_p1_bytes : Nat) (o_p2_letters : Value) (o_p2_words : Value) (o_p2_weights : Value) (o_p2_shorts : Value) (o_p2_longs : Value) (o_p2_night : Value) (o_p2_guards : Value) (o_p2_knock : Value) (o_p2_pause : Value) (o_p2_gap : Value) (o_p2_tableTold : Value) (o_p2_timeTold : Value) (t_kind : Int32) (t_where : Int32) (p1_size : Int32) (p1_at : Int32) (p1_token : Int32) (p1_from : Int32) (p1_value : Int32) (p2_less : Int32) (p2_more : Int32) (p2_slipTold : Int32) (p1_bytes : Nat → Int32) (post : Int32 → Int32 → Int32 → Int32 → Int32 → Int32 → Int32 → Int32 → Int32 → Int32 → Prop) (h : wp_X6_takeSlipLine t_kind t_where p1_size p1_at p1_token p1_from p1_value p2_less p2_more p2_slipTold p1_bytes post) : Ci l D g yX6_takeSlipLine (.code yX6_takeSlipLine cX6_takeSlipLine 3 (some .boolean) :: wsL_law) rmX6_takeSlipLine [.ref a_t, .ref a_p1, .ref a_p2] [(a_t, .inr (6, [.int t_kind, .int t_where])), (a_p1, .inr (9, [.ref a_p1_bytes, .int p1_size, .int p1_at, .int p1_token, .int p1_from, .int p1_value])), (a_p2, .inr (0, [o_p2_letters, o_p2_words, o_p2_weights, o_p2_shorts, o_p2_longs, o_p2_night, o_p2_guards, .int p2_less, .int p2_more, o_p2_knock, o_p2_pause, o_p2_gap, o_p2_tableTold, .int p2_slipTold, o_p2_timeTold])), (a_p1_bytes, .inl (g.1 0, 320, .inl p1_bytes))] (fun r W' => ∃ (nw_t_kind : Int32) (nw_t_where : Int32) (nw_p1_at : Int32) (nw_p1_token : Int32) (nw_p1_from : Int32) (nw_p1_value : Int32) (nw_p2_less : Int32) (nw_p2_more : Int32) (nw_p2_slipTold : Int32), W' = [(a_t, .inr (6, [.int nw_t_kind, .int nw_t_where])), (a_p1, .inr (9, [.ref a_p1_bytes, .int p1_size, .int nw_p1_at, .int nw_p1_token, .int nw_p1_from, .int nw_p1_value])), (a_p2, .inr (0, [o_p2_letters, o_p2_words, o_p2_weights, o_p2_shorts, o_p2_longs, o_p2_night, o_p2_guards, .int nw_p2_less, .int nw_p2_more, o_p2_knock, o_p2_pause, o_p2_gap, o_p2_tableTold, .int nw_p2_slipTold, o_p2_timeTold])), (a_p1_bytes, .inl (g.1 0, 320, .inl p1_bytes))] ∧ post r nw_t_kind nw_t_where nw_p1_at nw_p1_token nw_p1_from nw_p1_value nw_p2_less nw_p2_more nw_p2_slipTold) := by
  refine Cz.of (cc := cX6_takeSlipLine) (maxL := 3) (by decide) rfl (Nat.le_of_ble_eq_true rfl) ?_
  intro p e s m args below meth c A Q hx hb hml hts hown hA H locs hP hD hS hG ls hl hret
  have hown : s.vm.findClass RX6 = some m.cls := hown
  have hl : lv_has ls 3 [(0, .ref a_t), (1, .ref a_p1), (2, .ref a_p2)] := hl
  have lk0 := hts (.fieldLink RX6 129 "KnockWall$Code" "slipTold" "Z") (List.mem_cons_of_mem _ (inR_16 (List.mem_of_getElem? (i := 17) rfl)))
  have lk1 := hts (.fieldLink RX6 120 "KnockWall$Tape" "value" "I") (List.mem_cons_of_mem _ (inR_15 (List.mem_of_getElem? (i := 18) rfl)))
  have lk2 := hts (.fieldLink RX6 132 "KnockWall$Code" "less" "I") (List.mem_cons_of_mem _ (inR_16 (List.mem_of_getElem? (i := 18) rfl)))
  have lk3 := hts (.fieldLink RX6 135 "KnockWall$Code" "more" "I") (List.mem_cons_of_mem _ (inR_16 (List.mem_of_getElem? (i := 19) rfl)))
  have lk4 := hts (.fieldLink RX6 84 "KnockWall$Tape" "from" "I") (List.mem_cons_of_mem _ (inR_11 (List.mem_of_getElem? (i := 14) rfl)))
  unfold wp_X6_takeSlipLine at h
  try dsimp only at h
  refine lv_aload_n hx hb dX6_takeSlipLine_0 rfl (lv_at hl 2 rfl) ?_
  refine va_get (ci := 0) (v := .int p2_slipTold) (C := RX0) (T := TX0) (N := 15) hx hb hts icX0 hown hG.k hP 2 rfl rfl 13 (by decide) lk0 (fun _ h9 => h9) rfl dX6_takeSlipLine_1 ?_
  refine lv_if_eq (tgt := 17) hx hb dX6_takeSlipLine_4 (by decide) (fun c1 => ?_) (fun c1 => ?_)
  · have h := h.1 c1
    refine lv_aload_n hx hb dX6_takeSlipLine_17 rfl (lv_at hl 2 rfl) ?_
    refine lv_iconst (v := 1) hx hb dX6_takeSlipLine_18 (by decide) ?_
    refine va_put (ci := 0) (v := .int 1) (C := RX0) (T := TX0) (N := 15) hx hb hts icX0 tyX0 tyX0_ok nmX0 hown hG.k hP hD hS 2 rfl rfl 13 (by decide) lk0 (fun _ h9 => h9) rfl (tyX0_ok 13 (by decide)) rfl rfl (Nat.le_of_ble_eq_true rfl) dX6_takeSlipLine_19 (fun H locs hP hD hS => ?_)
    have hP : va_P D vwCl [(a_t, .inr (6, [.int t_kind, .int t_where])), (a_p1, .inr (9, [.ref a_p1_bytes, .int p1_size, .int p1_at, .int p1_token, .int p1_from, .int p1_value])), (a_p2, .inr (0, [o_p2_letters, o_p2_words, o_p2_weights, o_p2_shorts, o_p2_longs, o_p2_night, o_p2_guards, .int p2_less, .int p2_more, o_p2_knock, o_p2_pause, o_p2_gap, o_p2_tableTold, .int 1, o_p2_timeTold])), (a_p1_bytes, .inl (g.1 0, 320, .inl p1_bytes))] H := hP
    have hD : va_D A [(a_t, .inr (6, [.int t_kind, .int t_where])), (a_p1, .inr (9, [.ref a_p1_bytes, .int p1_size, .int p1_at, .int p1_token, .int p1_from, .int p1_value])), (a_p2, .inr (0, [o_p2_letters, o_p2_words, o_p2_weights, o_p2_shorts, o_p2_longs, o_p2_night, o_p2_guards, .int p2_less, .int p2_more, o_p2_knock, o_p2_pause, o_p2_gap, o_p2_tableTold, .int 1, o_p2_timeTold])), (a_p1_bytes, .inl (g.1 0, 320, .inl p1_bytes))] := hD
    refine lv_aload_n hx hb dX6_takeSlipLine_22 rfl (lv_at hl 0 rfl) ?_
    refine lv_aload_n hx hb dX6_takeSlipLine_23 rfl (lv_at hl 1 rfl) ?_
    refine lv_iconst (v := 0) hx hb dX6_takeSlipLine_24 (by decide) ?_
    refine lv_bipush (v := 9) hx hb dX6_takeSlipLine_25 (by decide) ?_
    refine k_i (wr := [(a_p2, .inr (0, [o_p2_letters, o_p2_words, o_p2_weights, o_p2_shorts, o_p2_longs, o_p2_night, o_p2_guards, .int p2_less, .int p2_more, o_p2_knock, o_p2_pause, o_p2_gap, o_p2_tableTold, .int 1, o_p2_timeTold]))]) hA hP hD hS [0, 1, 3] [2] rfl rfl (by decide) (by decide) (va_runV (As := [.ref a_p1, .int 0, .int 9]) (rest := []) ⟨hx, hb, hml, hown, hts⟩ (c_X6_takeNumber l D g a_t a_p1 a_p1_bytes t_kind t_where p1_size p1_at p1_token p1_from p1_value p1_bytes 0 9 _ h H.size) (cwV 3 hts (gdV (inR_16 (List.mem_of_getElem? (i := 3) rfl)) (inR_16 (List.mem_of_getElem? (i := 4) rfl)) (inR_16 (List.mem_of_getElem? (i := 5) rfl)) (inR_1 (List.mem_of_getElem? (i := 19) rfl)) (inR_16 (List.mem_of_getElem? (i := 6) rfl))) rfl rfl rfl hdX6_takeNumber ⟨Nat.le_of_ble_eq_true rfl, Nat.le_of_ble_eq_true rfl⟩) (k_preV (q0 := 0) hG hA hP hD hS [0, 1, 3] rfl (by decide) rfl rfl) rfl rfl hl.1 rfl (lv_room (Nat.le_of_ble_eq_true rfl)) dX6_takeSlipLine_27 ⟨Nat.zero_le _, Nat.zero_le _⟩) (fun r2 W' H locs h hP hD hS => ?_)
    obtain ⟨u2_t_kind, u2_t_where, u2_p1_at, u2_p1_token, u2_p1_from, u2_p1_value, rfl, h⟩ := h
    have hP : va_P D vwCl [(a_t, .inr (6, [.int u2_t_kind, .int u2_t_where])), (a_p1, .inr (9, [.ref a_p1_bytes, .int p1_size, .int u2_p1_at, .int u2_p1_token, .int u2_p1_from, .int u2_p1_value])), (a_p2, .inr (0, [o_p2_letters, o_p2_words, o_p2_weights, o_p2_shorts, o_p2_longs, o_p2_night, o_p2_guards, .int p2_less, .int p2_more, o_p2_knock, o_p2_pause, o_p2_gap, o_p2_tableTold, .int 1, o_p2_timeTold])), (a_p1_bytes, .inl (g.1 0, 320, .inl p1_bytes))] H := hP.sub [1, 2, 0, 3] rfl
    have hD : va_D A [(a_t, .inr (6, [.int u2_t_kind, .int u2_t_where])), (a_p1, .inr (9, [.ref a_p1_bytes, .int p1_size, .int u2_p1_at, .int u2_p1_token, .int u2_p1_from, .int u2_p1_value])), (a_p2, .inr (0, [o_p2_letters, o_p2_words, o_p2_weights, o_p2_shorts, o_p2_longs, o_p2_night, o_p2_guards, .int p2_less, .int p2_more, o_p2_knock, o_p2_pause, o_p2_gap, o_p2_tableTold, .int 1, o_p2_timeTold])), (a_p1_bytes, .inl (g.1 0, 320, .inl p1_bytes))] := hD.sub [1, 2, 0, 3] (by decide) rfl
    refine lv_if_ne (tgt := 35) hx hb dX6_takeSlipLine_30 (by decide) (fun c3 => ?_) (fun c3 => ?_)
    · have h := h.1 c3
      refine lv_aload_n hx hb dX6_takeSlipLine_35 rfl (lv_at hl 2 rfl) ?_
      refine lv_aload_n hx hb dX6_takeSlipLine_36 rfl (lv_at hl 1 rfl) ?_
      refine va_get (ci := 9) (v := .int u2_p1_value) (C := RX9) (T := TX9) (N := 6) hx hb hts icX9 hown hG.k hP 1 rfl rfl 5 (by decide) lk1 (fun _ h9 => h9) rfl dX6_takeSlipLine_37 ?_
      refine va_put (ci := 0) (v := .int u2_p1_value) (C := RX0) (T := TX0) (N := 15) hx hb hts icX0 tyX0 tyX0_ok nmX0 hown hG.k hP hD hS 2 rfl rfl 7 (by decide) lk2 (fun _ h9 => h9) rfl (tyX0_ok 7 (by decide)) rfl rfl (Nat.le_of_ble_eq_true rfl) dX6_takeSlipLine_40 (fun H locs hP hD hS => ?_)
      have hP : va_P D vwCl [(a_t, .inr (6, [.int u2_t_kind, .int u2_t_where])), (a_p1, .inr (9, [.ref a_p1_bytes, .int p1_size, .int u2_p1_at, .int u2_p1_token, .int u2_p1_from, .int u2_p1_value])), (a_p2, .inr (0, [o_p2_letters, o_p2_words, o_p2_weights, o_p2_shorts, o_p2_longs, o_p2_night, o_p2_guards, .int u2_p1_value, .int p2_more, o_p2_knock, o_p2_pause, o_p2_gap, o_p2_tableTold, .int 1, o_p2_timeTold])), (a_p1_bytes, .inl (g.1 0, 320, .inl p1_bytes))] H := hP
      have hD : va_D A [(a_t, .inr (6, [.int u2_t_kind, .int u2_t_where])), (a_p1, .inr (9, [.ref a_p1_bytes, .int p1_size, .int u2_p1_at, .int u2_p1_token, .int u2_p1_from, .int u2_p1_value])), (a_p2, .inr (0, [o_p2_letters, o_p2_words, o_p2_weights, o_p2_shorts, o_p2_longs, o_p2_night, o_p2_guards, .int u2_p1_value, .int p2_more, o_p2_knock, o_p2_pause, o_p2_gap, o_p2_tableTold, .int 1, o_p2_timeTold])), (a_p1_bytes, .inl (g.1 0, 320, .inl p1_bytes))] := hD
      refine lv_aload_n hx hb dX6_takeSlipLine_43 rfl (lv_at hl 0 rfl) ?_
      refine lv_aload_n hx hb dX6_takeSlipLine_44 rfl (lv_at hl 1 rfl) ?_
      refine lv_iconst (v := 0) hx hb dX6_takeSlipLine_45 (by decide) ?_
      refine lv_bipush (v := 9) hx hb dX6_takeSlipLine_46 (by decide) ?_
      refine k_i (wr := [(a_p2, .inr (0, [o_p2_letters, o_p2_words, o_p2_weights, o_p2_shorts, o_p2_longs, o_p2_night, o_p2_guards, .int u2_p1_value, .int p2_more, o_p2_knock, o_p2_pause, o_p2_gap, o_p2_tableTold, .int 1, o_p2_timeTold]))]) hA hP hD hS [0, 1, 3] [2] rfl rfl (by decide) (by decide) (va_runV (As := [.ref a_p1, .int 0, .int 9]) (rest := []) ⟨hx, hb, hml, hown, hts⟩ (c_X6_takeNumber l D g a_t a_p1 a_p1_bytes u2_t_kind u2_t_where p1_size u2_p1_at u2_p1_token u2_p1_from u2_p1_value p1_bytes 0 9 _ h H.size) (cwV 3 hts (gdV (inR_16 (List.mem_of_getElem? (i := 3) rfl)) (inR_16 (List.mem_of_getElem? (i := 4) rfl)) (inR_16 (List.mem_of_getElem? (i := 5) rfl)) (inR_1 (List.mem_of_getElem? (i := 19) rfl)) (inR_16 (List.mem_of_getElem? (i := 6) rfl))) rfl rfl rfl hdX6_takeNumber ⟨Nat.le_of_ble_eq_true rfl, Nat.le_of_ble_eq_true rfl⟩) (k_preV (q0 := 0) hG hA hP hD hS [0, 1, 3] rfl (by decide) rfl rfl) rfl rfl hl.1 rfl (lv_room (Nat.le_of_ble_eq_true rfl)) dX6_takeSlipLine_48 ⟨Nat.zero_le _, Nat.zero_le _⟩) (fun r4 W' H locs h hP hD hS => ?_)
      obtain ⟨u4_t_kind, u4_t_where, u4_p1_at, u4_p1_token, u4_p1_from, u4_p1_value, rfl, h⟩ := h
      have hP : va_P D vwCl [(a_t, .inr (6, [.int u4_t_kind, .int u4_t_where])), (a_p1, .inr (9, [.ref a_p1_bytes, .int p1_size, .int u4_p1_at, .int u4_p1_token, .int u4_p1_from, .int u4_p1_value])), (a_p2, .inr (0, [o_p2_letters, o_p2_words, o_p2_weights, o_p2_shorts, o_p2_longs, o_p2_night, o_p2_guards, .int u2_p1_value, .int p2_more, o_p2_knock, o_p2_pause, o_p2_gap, o_p2_tableTold, .int 1, o_p2_timeTold])), (a_p1_bytes, .inl (g.1 0, 320, .inl p1_bytes))] H := hP.sub [1, 2, 0, 3] rfl
      have hD : va_D A [(a_t, .inr (6, [.int u4_t_kind, .int u4_t_where])), (a_p1, .inr (9, [.ref a_p1_bytes, .int p1_size, .int u4_p1_at, .int u4_p1_token, .int u4_p1_from, .int u4_p1_value])), (a_p2, .inr (0, [o_p2_letters, o_p2_words, o_p2_weights, o_p2_shorts, o_p2_longs, o_p2_night, o_p2_guards, .int u2_p1_value, .int p2_more, o_p2_knock, o_p2_pause, o_p2_gap, o_p2_tableTold, .int 1, o_p2_timeTold])), (a_p1_bytes, .inl (g.1 0, 320, .inl p1_bytes))] := hD.sub [1, 2, 0, 3] (by decide) rfl
      refine lv_if_ne (tgt := 56) hx hb dX6_takeSlipLine_51 (by decide) (fun c5 => ?_) (fun c5 => ?_)
      · have h := h.1 c5
        refine lv_aload_n hx hb dX6_takeSlipLine_56 rfl (lv_at hl 2 rfl) ?_
        refine lv_aload_n hx hb dX6_takeSlipLine_57 rfl (lv_at hl 1 rfl) ?_
        refine va_get (ci := 9) (v := .int u4_p1_value) (C := RX9) (T := TX9) (N := 6) hx hb hts icX9 hown hG.k hP 1 rfl rfl 5 (by decide) lk1 (fun _ h9 => h9) rfl dX6_takeSlipLine_58 ?_
        refine va_put (ci := 0) (v := .int u4_p1_value) (C := RX0) (T := TX0) (N := 15) hx hb hts icX0 tyX0 tyX0_ok nmX0 hown hG.k hP hD hS 2 rfl rfl 8 (by decide) lk3 (fun _ h9 => h9) rfl (tyX0_ok 8 (by decide)) rfl rfl (Nat.le_of_ble_eq_true rfl) dX6_takeSlipLine_61 (fun H locs hP hD hS => ?_)
        have hP : va_P D vwCl [(a_t, .inr (6, [.int u4_t_kind, .int u4_t_where])), (a_p1, .inr (9, [.ref a_p1_bytes, .int p1_size, .int u4_p1_at, .int u4_p1_token, .int u4_p1_from, .int u4_p1_value])), (a_p2, .inr (0, [o_p2_letters, o_p2_words, o_p2_weights, o_p2_shorts, o_p2_longs, o_p2_night, o_p2_guards, .int u2_p1_value, .int u4_p1_value, o_p2_knock, o_p2_pause, o_p2_gap, o_p2_tableTold, .int 1, o_p2_timeTold])), (a_p1_bytes, .inl (g.1 0, 320, .inl p1_bytes))] H := hP
        have hD : va_D A [(a_t, .inr (6, [.int u4_t_kind, .int u4_t_where])), (a_p1, .inr (9, [.ref a_p1_bytes, .int p1_size, .int u4_p1_at, .int u4_p1_token, .int u4_p1_from, .int u4_p1_value])), (a_p2, .inr (0, [o_p2_letters, o_p2_words, o_p2_weights, o_p2_shorts, o_p2_longs, o_p2_night, o_p2_guards, .int u2_p1_value, .int u4_p1_value, o_p2_knock, o_p2_pause, o_p2_gap, o_p2_tableTold, .int 1, o_p2_timeTold])), (a_p1_bytes, .inl (g.1 0, 320, .inl p1_bytes))] := hD
        refine lv_aload_n hx hb dX6_takeSlipLine_64 rfl (lv_at hl 0 rfl) ?_
        refine lv_aload_n hx hb dX6_takeSlipLine_65 rfl (lv_at hl 1 rfl) ?_
        refine k_i (wr := [(a_p2, .inr (0, [o_p2_letters, o_p2_words, o_p2_weights, o_p2_shorts, o_p2_longs, o_p2_night, o_p2_guards, .int u2_p1_value, .int u4_p1_value, o_p2_knock, o_p2_pause, o_p2_gap, o_p2_tableTold, .int 1, o_p2_timeTold]))]) hA hP hD hS [0, 1, 3] [2] rfl rfl (by decide) (by decide) (va_runV (As := [.ref a_p1]) (rest := []) ⟨hx, hb, hml, hown, hts⟩ (c_X6_takeSign l D g a_t a_p1 a_p1_bytes u4_t_kind u4_t_where p1_size u4_p1_at u4_p1_token u4_p1_from u4_p1_value p1_bytes _ h H.size) (cwV 1 hts (gdV (inR_15 (List.mem_of_getElem? (i := 7) rfl)) (inR_15 (List.mem_of_getElem? (i := 8) rfl)) (inR_15 (List.mem_of_getElem? (i := 9) rfl)) (inR_1 (List.mem_of_getElem? (i := 19) rfl)) (inR_15 (List.mem_of_getElem? (i := 10) rfl))) rfl rfl rfl hdX6_takeSign ⟨Nat.le_of_ble_eq_true rfl, Nat.le_of_ble_eq_true rfl⟩) (k_preV (q0 := 0) hG hA hP hD hS [0, 1, 3] rfl (by decide) rfl rfl) rfl rfl hl.1 rfl (lv_room (Nat.le_of_ble_eq_true rfl)) dX6_takeSlipLine_66 ⟨Nat.zero_le _, Nat.zero_le _⟩) (fun r6 W' H locs h hP hD hS => ?_)
        obtain ⟨u6_t_kind, u6_t_where, u6_p1_at, u6_p1_token, u6_p1_from, u6_p1_value, rfl, h⟩ := h
        have hP : va_P D vwCl [(a_t, .inr (6, [.int u6_t_kind, .int u6_t_where])), (a_p1, .inr (9, [.ref a_p1_bytes, .int p1_size, .int u6_p1_at, .int u6_p1_token, .int u6_p1_from, .int u6_p1_value])), (a_p2, .inr (0, [o_p2_letters, o_p2_words, o_p2_weights, o_p2_shorts, o_p2_longs, o_p2_night, o_p2_guards, .int u2_p1_value, .int u4_p1_value, o_p2_knock, o_p2_pause, o_p2_gap, o_p2_tableTold, .int 1, o_p2_timeTold])), (a_p1_bytes, .inl (g.1 0, 320, .inl p1_bytes))] H := hP.sub [1, 2, 0, 3] rfl
        have hD : va_D A [(a_t, .inr (6, [.int u6_t_kind, .int u6_t_where])), (a_p1, .inr (9, [.ref a_p1_bytes, .int p1_size, .int u6_p1_at, .int u6_p1_token, .int u6_p1_from, .int u6_p1_value])), (a_p2, .inr (0, [o_p2_letters, o_p2_words, o_p2_weights, o_p2_shorts, o_p2_longs, o_p2_night, o_p2_guards, .int u2_p1_value, .int u4_p1_value, o_p2_knock, o_p2_pause, o_p2_gap, o_p2_tableTold, .int 1, o_p2_timeTold])), (a_p1_bytes, .inl (g.1 0, 320, .inl p1_bytes))] := hD.sub [1, 2, 0, 3] (by decide) rfl
        obtain ⟨hzb, h⟩ := h
        exact hret r6 _ _ _ _ _ hzb ⟨u6_t_kind, u6_t_where, u6_p1_at, u6_p1_token, u6_p1_from, u6_p1_value, u2_p1_value, u4_p1_value, 1, rfl, h⟩ hP hD hS dX6_takeSlipLine_69
      · have h := h.2 c5
        refine lv_iconst (v := 0) hx hb dX6_takeSlipLine_54 (by decide) ?_
        exact hret 0 _ _ _ _ _ (Or.inl rfl) ⟨u4_t_kind, u4_t_where, u4_p1_at, u4_p1_token, u4_p1_from, u4_p1_value, u2_p1_value, p2_more, 1, rfl, h⟩ hP hD hS dX6_takeSlipLine_55
    · have h := h.2 c3
      refine lv_iconst (v := 0) hx hb dX6_takeSlipLine_33 (by decide) ?_
      exact hret 0 _ _ _ _ _ (Or.inl rfl) ⟨u2_t_kind, u2_t_where, u2_p1_at, u2_p1_token, u2_p1_from, u2_p1_value, p2_less, p2_more, 1, rfl, h⟩ hP hD hS dX6_takeSlipLine_34
  · have h := h.2 c1
    refine lv_aload_n hx hb dX6_takeSlipLine_7 rfl (lv_at hl 0 rfl) ?_
    refine lv_iconst (v := 4) hx hb dX6_takeSlipLine_8 (by decide) ?_
    refine lv_aload_n hx hb dX6_takeSlipLine_9 rfl (lv_at hl 1 rfl) ?_
    refine va_get (ci := 9) (v := .int p1_from) (C := RX9) (T := TX9) (N := 6) hx hb hts icX9 hown hG.k hP 1 rfl rfl 4 (by decide) lk4 (fun _ h9 => h9) rfl dX6_takeSlipLine_10 ?_
    refine k_i (wr := [(a_p1, .inr (9, [.ref a_p1_bytes, .int p1_size, .int p1_at, .int p1_token, .int p1_from, .int p1_value])), (a_p2, .inr (0, [o_p2_letters, o_p2_words, o_p2_weights, o_p2_shorts, o_p2_longs, o_p2_night, o_p2_guards, .int p2_less, .int p2_more, o_p2_knock, o_p2_pause, o_p2_gap, o_p2_tableTold, .int p2_slipTold, o_p2_timeTold])), (a_p1_bytes, .inl (g.1 0, 320, .inl p1_bytes))]) hA hP hD hS [0] [1, 2, 3] rfl rfl (by decide) (by decide) (va_runV (As := [.int 4, .int p1_from]) (rest := []) ⟨hx, hb, hml, hown, hts⟩ (c_X6_fail l D g a_t t_kind t_where 4 p1_from _ h H.size) (cwV 2 hts (gdV (inR_11 (List.mem_of_getElem? (i := 19) rfl)) (inR_11 (List.mem_of_getElem? (i := 20) rfl)) (inR_11 (List.mem_of_getElem? (i := 21) rfl)) (inR_1 (List.mem_of_getElem? (i := 19) rfl)) (inR_11 (List.mem_of_getElem? (i := 22) rfl))) rfl rfl rfl hdX6_fail ⟨Nat.le_of_ble_eq_true rfl, Nat.le_of_ble_eq_true rfl⟩) (k_preV (q0 := 0) hG hA hP hD hS [0] rfl (by decide) rfl rfl) rfl rfl hl.1 rfl (lv_room (Nat.le_of_ble_eq_true rfl)) dX6_takeSlipLine_13 ⟨Nat.zero_le _, Nat.zero_le _⟩) (fun r7 W' H locs h hP hD hS => ?_)
    obtain ⟨u7_t_kind, u7_t_where, rfl, h⟩ := h
    have hP : va_P D vwCl [(a_t, .inr (6, [.int u7_t_kind, .int u7_t_where])), (a_p1, .inr (9, [.ref a_p1_bytes, .int p1_size, .int p1_at, .int p1_token, .int p1_from, .int p1_value])), (a_p2, .inr (0, [o_p2_letters, o_p2_words, o_p2_weights, o_p2_shorts, o_p2_longs, o_p2_night, o_p2_guards, .int p2_less, .int p2_more, o_p2_knock, o_p2_pause, o_p2_gap, o_p2_tableTold, .int p2_slipTold, o_p2_timeTold])), (a_p1_bytes, .inl (g.1 0, 320, .inl p1_bytes))] H := hP.sub [3, 0, 1, 2] rfl
    have hD : va_D A [(a_t, .inr (6, [.int u7_t_kind, .int u7_t_where])), (a_p1, .inr (9, [.ref a_p1_bytes, .int p1_size, .int p1_at, .int p1_token, .int p1_from, .int p1_value])), (a_p2, .inr (0, [o_p2_letters, o_p2_words, o_p2_weights, o_p2_shorts, o_p2_longs, o_p2_night, o_p2_guards, .int p2_less, .int p2_more, o_p2_knock, o_p2_pause, o_p2_gap, o_p2_tableTold, .int p2_slipTold, o_p2_timeTold])), (a_p1_bytes, .inl (g.1 0, 320, .inl p1_bytes))] := hD.sub [3, 0, 1, 2] (by decide) rfl
    obtain ⟨hzb, h⟩ := h
    exact hret r7 _ _ _ _ _ hzb ⟨u7_t_kind, u7_t_where, p1_at, p1_token, p1_from, p1_value, p2_less, p2_more, p2_slipTold, rfl, h⟩ hP hD hS dX6_takeSlipLine_16
theorem hdX6_takeTimeLine : yX6_takeTimeLine.cls = RX6 ∧ yX6_takeTimeLine.cls ≠ "java/lang/invoke/MethodHandle" ∧ yX6_takeTimeLine.cls ≠ "java/lang/invoke/VarHandle" ∧ (parseMethodDescriptor yX6_takeTimeLine.desc).map (fun d => d.parameters.length) = some 2 := by decide +kernel
abbrev rmX6_takeTimeLine : Room := { frames := 4, cells := 0, slots := 0, locals := 400 }
set_option maxHeartbeats 4000000 in
set_option maxRecDepth 100000 in
theorem c_X6_takeTimeLine (l : Launch) (D : va_G) (g : gE) (a_t : Nat) (a_p1 : Nat) (a_p2 : Nat) (a_p1_bytes : Nat) (o_p2_letters : Value) (o_p2_words : Value) (o_p2_weights : Value) (o_p2_shorts : Value) (o_p2_longs : Value) (o_p2_night : Value) (o_p2_guards : Value) (o_p2_less : Value) (o_p2_more : Value) (o_p2_tableTold : Value) (o_p2_slipTold : Value) (t_kind : Int32) (t_where : Int32) (p1_size : Int32) (p1_at : Int32) (p1_token : Int32) (p1_from : Int32) (p1_value : Int32) (p2_knock : Int32) (p2_pause : Int32) (p2_gap : Int32) (p2_timeTold : Int32) (p1_bytes : Nat → Int32) (post : Int32 → Int32 → Int32 → Int32 → Int32 → Int32 → Int32 → Int32 → Int32 → Int32 → Int32 → Prop) (h : wp_X6_takeTimeLine t_kind t_where p1_size p1_at p1_token p1_from p1_value p2_knock p2_pause p2_gap p2_timeTold p1_bytes post) : Ci l D g yX6_takeTimeLine (.code yX6_takeTimeLine cX6_takeTimeLine 3 (some .boolean) :: wsL_law) rmX6_takeTimeLine [.ref a_t, .ref a_p1, .ref a_p2] [(a_t, .inr (6, [.int t_kind, .int t_where])), (a_p1, .inr (9, [.ref a_p1_bytes, .int p1_size, .int p1_at, .int p1_token, .int p1_from, .int p1_value])), (a_p2, .inr (0, [o_p2_letters, o_p2_words, o_p2_weights, o_p2_shorts, o_p2_longs, o_p2_night, o_p2_guards, o_p2_less, o_p2_more, .int p2_knock, .int p2_pause, .int p2_gap, o_p2_tableTold, o_p2_slipTold, .int p2_timeTold])), (a_p1_bytes, .inl (g.1 0, 320, .inl p1_bytes))] (fun r W' => ∃ (nw_t_kind : Int32) (nw_t_where : Int32) (nw_p1_at : Int32) (nw_p1_token : Int32) (nw_p1_from : Int32) (nw_p1_value : Int32) (nw_p2_knock : Int32) (nw_p2_pause : Int32) (nw_p2_gap : Int32) (nw_p2_timeTold : Int32), W' = [(a_t, .inr (6, [.int nw_t_kind, .int nw_t_where])), (a_p1, .inr (9, [.ref a_p1_bytes, .int p1_size, .int nw_p1_at, .int nw_p1_token, .int nw_p1_from, .int nw_p1_value])), (a_p2, .inr (0, [o_p2_letters, o_p2_words, o_p2_weights, o_p2_shorts, o_p2_longs, o_p2_night, o_p2_guards, o_p2_less, o_p2_more, .int nw_p2_knock, .int nw_p2_pause, .int nw_p2_gap, o_p2_tableTold, o_p2_slipTold, .int nw_p2_timeTold])), (a_p1_bytes, .inl (g.1 0, 320, .inl p1_bytes))] ∧ post r nw_t_kind nw_t_where nw_p1_at nw_p1_token nw_p1_from nw_p1_value nw_p2_knock nw_p2_pause nw_p2_gap nw_p2_timeTold) := by
  refine Cz.of (cc := cX6_takeTimeLine) (maxL := 3) (by decide) rfl (Nat.le_of_ble_eq_true rfl) ?_
  intro p e s m args below meth c A Q hx hb hml hts hown hA H locs hP hD hS hG ls hl hret
  have hown : s.vm.findClass RX6 = some m.cls := hown
  have hl : lv_has ls 3 [(0, .ref a_t), (1, .ref a_p1), (2, .ref a_p2)] := hl
  have lk0 := hts (.fieldLink RX6 138 "KnockWall$Code" "timeTold" "Z") (List.mem_cons_of_mem _ (inR_17 (List.mem_of_getElem? (i := 0) rfl)))
  have lk1 := hts (.fieldLink RX6 120 "KnockWall$Tape" "value" "I") (List.mem_cons_of_mem _ (inR_15 (List.mem_of_getElem? (i := 18) rfl)))
  have lk2 := hts (.fieldLink RX6 141 "KnockWall$Code" "knock" "I") (List.mem_cons_of_mem _ (inR_17 (List.mem_of_getElem? (i := 1) rfl)))
  have lk3 := hts (.fieldLink RX6 144 "KnockWall$Code" "pause" "I") (List.mem_cons_of_mem _ (inR_17 (List.mem_of_getElem? (i := 2) rfl)))
  have lk4 := hts (.fieldLink RX6 147 "KnockWall$Code" "gap" "I") (List.mem_cons_of_mem _ (inR_17 (List.mem_of_getElem? (i := 3) rfl)))
  have lk5 := hts (.fieldLink RX6 84 "KnockWall$Tape" "from" "I") (List.mem_cons_of_mem _ (inR_11 (List.mem_of_getElem? (i := 14) rfl)))
  unfold wp_X6_takeTimeLine at h
  try dsimp only at h
  refine lv_aload_n hx hb dX6_takeTimeLine_0 rfl (lv_at hl 2 rfl) ?_
  refine va_get (ci := 0) (v := .int p2_timeTold) (C := RX0) (T := TX0) (N := 15) hx hb hts icX0 hown hG.k hP 2 rfl rfl 14 (by decide) lk0 (fun _ h9 => h9) rfl dX6_takeTimeLine_1 ?_
  refine lv_if_eq (tgt := 17) hx hb dX6_takeTimeLine_4 (by decide) (fun c1 => ?_) (fun c1 => ?_)
  · have h := h.1 c1
    refine lv_aload_n hx hb dX6_takeTimeLine_17 rfl (lv_at hl 2 rfl) ?_
    refine lv_iconst (v := 1) hx hb dX6_takeTimeLine_18 (by decide) ?_
    refine va_put (ci := 0) (v := .int 1) (C := RX0) (T := TX0) (N := 15) hx hb hts icX0 tyX0 tyX0_ok nmX0 hown hG.k hP hD hS 2 rfl rfl 14 (by decide) lk0 (fun _ h9 => h9) rfl (tyX0_ok 14 (by decide)) rfl rfl (Nat.le_of_ble_eq_true rfl) dX6_takeTimeLine_19 (fun H locs hP hD hS => ?_)
    have hP : va_P D vwCl [(a_t, .inr (6, [.int t_kind, .int t_where])), (a_p1, .inr (9, [.ref a_p1_bytes, .int p1_size, .int p1_at, .int p1_token, .int p1_from, .int p1_value])), (a_p2, .inr (0, [o_p2_letters, o_p2_words, o_p2_weights, o_p2_shorts, o_p2_longs, o_p2_night, o_p2_guards, o_p2_less, o_p2_more, .int p2_knock, .int p2_pause, .int p2_gap, o_p2_tableTold, o_p2_slipTold, .int 1])), (a_p1_bytes, .inl (g.1 0, 320, .inl p1_bytes))] H := hP
    have hD : va_D A [(a_t, .inr (6, [.int t_kind, .int t_where])), (a_p1, .inr (9, [.ref a_p1_bytes, .int p1_size, .int p1_at, .int p1_token, .int p1_from, .int p1_value])), (a_p2, .inr (0, [o_p2_letters, o_p2_words, o_p2_weights, o_p2_shorts, o_p2_longs, o_p2_night, o_p2_guards, o_p2_less, o_p2_more, .int p2_knock, .int p2_pause, .int p2_gap, o_p2_tableTold, o_p2_slipTold, .int 1])), (a_p1_bytes, .inl (g.1 0, 320, .inl p1_bytes))] := hD
    refine lv_aload_n hx hb dX6_takeTimeLine_22 rfl (lv_at hl 0 rfl) ?_
    refine lv_aload_n hx hb dX6_takeTimeLine_23 rfl (lv_at hl 1 rfl) ?_
    refine lv_iconst (v := 1) hx hb dX6_takeTimeLine_24 (by decide) ?_
    refine lv_bipush (v := 99) hx hb dX6_takeTimeLine_25 (by decide) ?_
    refine k_i (wr := [(a_p2, .inr (0, [o_p2_letters, o_p2_words, o_p2_weights, o_p2_shorts, o_p2_longs, o_p2_night, o_p2_guards, o_p2_less, o_p2_more, .int p2_knock, .int p2_pause, .int p2_gap, o_p2_tableTold, o_p2_slipTold, .int 1]))]) hA hP hD hS [0, 1, 3] [2] rfl rfl (by decide) (by decide) (va_runV (As := [.ref a_p1, .int 1, .int 99]) (rest := []) ⟨hx, hb, hml, hown, hts⟩ (c_X6_takeNumber l D g a_t a_p1 a_p1_bytes t_kind t_where p1_size p1_at p1_token p1_from p1_value p1_bytes 1 99 _ h H.size) (cwV 3 hts (gdV (inR_16 (List.mem_of_getElem? (i := 3) rfl)) (inR_16 (List.mem_of_getElem? (i := 4) rfl)) (inR_16 (List.mem_of_getElem? (i := 5) rfl)) (inR_1 (List.mem_of_getElem? (i := 19) rfl)) (inR_16 (List.mem_of_getElem? (i := 6) rfl))) rfl rfl rfl hdX6_takeNumber ⟨Nat.le_of_ble_eq_true rfl, Nat.le_of_ble_eq_true rfl⟩) (k_preV (q0 := 0) hG hA hP hD hS [0, 1, 3] rfl (by decide) rfl rfl) rfl rfl hl.1 rfl (lv_room (Nat.le_of_ble_eq_true rfl)) dX6_takeTimeLine_27 ⟨Nat.zero_le _, Nat.zero_le _⟩) (fun r2 W' H locs h hP hD hS => ?_)
    obtain ⟨u2_t_kind, u2_t_where, u2_p1_at, u2_p1_token, u2_p1_from, u2_p1_value, rfl, h⟩ := h
    have hP : va_P D vwCl [(a_t, .inr (6, [.int u2_t_kind, .int u2_t_where])), (a_p1, .inr (9, [.ref a_p1_bytes, .int p1_size, .int u2_p1_at, .int u2_p1_token, .int u2_p1_from, .int u2_p1_value])), (a_p2, .inr (0, [o_p2_letters, o_p2_words, o_p2_weights, o_p2_shorts, o_p2_longs, o_p2_night, o_p2_guards, o_p2_less, o_p2_more, .int p2_knock, .int p2_pause, .int p2_gap, o_p2_tableTold, o_p2_slipTold, .int 1])), (a_p1_bytes, .inl (g.1 0, 320, .inl p1_bytes))] H := hP.sub [1, 2, 0, 3] rfl
    have hD : va_D A [(a_t, .inr (6, [.int u2_t_kind, .int u2_t_where])), (a_p1, .inr (9, [.ref a_p1_bytes, .int p1_size, .int u2_p1_at, .int u2_p1_token, .int u2_p1_from, .int u2_p1_value])), (a_p2, .inr (0, [o_p2_letters, o_p2_words, o_p2_weights, o_p2_shorts, o_p2_longs, o_p2_night, o_p2_guards, o_p2_less, o_p2_more, .int p2_knock, .int p2_pause, .int p2_gap, o_p2_tableTold, o_p2_slipTold, .int 1])), (a_p1_bytes, .inl (g.1 0, 320, .inl p1_bytes))] := hD.sub [1, 2, 0, 3] (by decide) rfl
    refine lv_if_ne (tgt := 35) hx hb dX6_takeTimeLine_30 (by decide) (fun c3 => ?_) (fun c3 => ?_)
    · have h := h.1 c3
      refine lv_aload_n hx hb dX6_takeTimeLine_35 rfl (lv_at hl 2 rfl) ?_
      refine lv_aload_n hx hb dX6_takeTimeLine_36 rfl (lv_at hl 1 rfl) ?_
      refine va_get (ci := 9) (v := .int u2_p1_value) (C := RX9) (T := TX9) (N := 6) hx hb hts icX9 hown hG.k hP 1 rfl rfl 5 (by decide) lk1 (fun _ h9 => h9) rfl dX6_takeTimeLine_37 ?_
      refine va_put (ci := 0) (v := .int u2_p1_value) (C := RX0) (T := TX0) (N := 15) hx hb hts icX0 tyX0 tyX0_ok nmX0 hown hG.k hP hD hS 2 rfl rfl 9 (by decide) lk2 (fun _ h9 => h9) rfl (tyX0_ok 9 (by decide)) rfl rfl (Nat.le_of_ble_eq_true rfl) dX6_takeTimeLine_40 (fun H locs hP hD hS => ?_)
      have hP : va_P D vwCl [(a_t, .inr (6, [.int u2_t_kind, .int u2_t_where])), (a_p1, .inr (9, [.ref a_p1_bytes, .int p1_size, .int u2_p1_at, .int u2_p1_token, .int u2_p1_from, .int u2_p1_value])), (a_p2, .inr (0, [o_p2_letters, o_p2_words, o_p2_weights, o_p2_shorts, o_p2_longs, o_p2_night, o_p2_guards, o_p2_less, o_p2_more, .int u2_p1_value, .int p2_pause, .int p2_gap, o_p2_tableTold, o_p2_slipTold, .int 1])), (a_p1_bytes, .inl (g.1 0, 320, .inl p1_bytes))] H := hP
      have hD : va_D A [(a_t, .inr (6, [.int u2_t_kind, .int u2_t_where])), (a_p1, .inr (9, [.ref a_p1_bytes, .int p1_size, .int u2_p1_at, .int u2_p1_token, .int u2_p1_from, .int u2_p1_value])), (a_p2, .inr (0, [o_p2_letters, o_p2_words, o_p2_weights, o_p2_shorts, o_p2_longs, o_p2_night, o_p2_guards, o_p2_less, o_p2_more, .int u2_p1_value, .int p2_pause, .int p2_gap, o_p2_tableTold, o_p2_slipTold, .int 1])), (a_p1_bytes, .inl (g.1 0, 320, .inl p1_bytes))] := hD
      refine lv_aload_n hx hb dX6_takeTimeLine_43 rfl (lv_at hl 0 rfl) ?_
      refine lv_aload_n hx hb dX6_takeTimeLine_44 rfl (lv_at hl 1 rfl) ?_
      refine lv_iconst (v := 1) hx hb dX6_takeTimeLine_45 (by decide) ?_
      refine lv_bipush (v := 99) hx hb dX6_takeTimeLine_46 (by decide) ?_
      refine k_i (wr := [(a_p2, .inr (0, [o_p2_letters, o_p2_words, o_p2_weights, o_p2_shorts, o_p2_longs, o_p2_night, o_p2_guards, o_p2_less, o_p2_more, .int u2_p1_value, .int p2_pause, .int p2_gap, o_p2_tableTold, o_p2_slipTold, .int 1]))]) hA hP hD hS [0, 1, 3] [2] rfl rfl (by decide) (by decide) (va_runV (As := [.ref a_p1, .int 1, .int 99]) (rest := []) ⟨hx, hb, hml, hown, hts⟩ (c_X6_takeNumber l D g a_t a_p1 a_p1_bytes u2_t_kind u2_t_where p1_size u2_p1_at u2_p1_token u2_p1_from u2_p1_value p1_bytes 1 99 _ h H.size) (cwV 3 hts (gdV (inR_16 (List.mem_of_getElem? (i := 3) rfl)) (inR_16 (List.mem_of_getElem? (i := 4) rfl)) (inR_16 (List.mem_of_getElem? (i := 5) rfl)) (inR_1 (List.mem_of_getElem? (i := 19) rfl)) (inR_16 (List.mem_of_getElem? (i := 6) rfl))) rfl rfl rfl hdX6_takeNumber ⟨Nat.le_of_ble_eq_true rfl, Nat.le_of_ble_eq_true rfl⟩) (k_preV (q0 := 0) hG hA hP hD hS [0, 1, 3] rfl (by decide) rfl rfl) rfl rfl hl.1 rfl (lv_room (Nat.le_of_ble_eq_true rfl)) dX6_takeTimeLine_48 ⟨Nat.zero_le _, Nat.zero_le _⟩) (fun r4 W' H locs h hP hD hS => ?_)
      obtain ⟨u4_t_kind, u4_t_where, u4_p1_at, u4_p1_token, u4_p1_from, u4_p1_value, rfl, h⟩ := h
      have hP : va_P D vwCl [(a_t, .inr (6, [.int u4_t_kind, .int u4_t_where])), (a_p1, .inr (9, [.ref a_p1_bytes, .int p1_size, .int u4_p1_at, .int u4_p1_token, .int u4_p1_from, .int u4_p1_value])), (a_p2, .inr (0, [o_p2_letters, o_p2_words, o_p2_weights, o_p2_shorts, o_p2_longs, o_p2_night, o_p2_guards, o_p2_less, o_p2_more, .int u2_p1_value, .int p2_pause, .int p2_gap, o_p2_tableTold, o_p2_slipTold, .int 1])), (a_p1_bytes, .inl (g.1 0, 320, .inl p1_bytes))] H := hP.sub [1, 2, 0, 3] rfl
      have hD : va_D A [(a_t, .inr (6, [.int u4_t_kind, .int u4_t_where])), (a_p1, .inr (9, [.ref a_p1_bytes, .int p1_size, .int u4_p1_at, .int u4_p1_token, .int u4_p1_from, .int u4_p1_value])), (a_p2, .inr (0, [o_p2_letters, o_p2_words, o_p2_weights, o_p2_shorts, o_p2_longs, o_p2_night, o_p2_guards, o_p2_less, o_p2_more, .int u2_p1_value, .int p2_pause, .int p2_gap, o_p2_tableTold, o_p2_slipTold, .int 1])), (a_p1_bytes, .inl (g.1 0, 320, .inl p1_bytes))] := hD.sub [1, 2, 0, 3] (by decide) rfl
      refine lv_if_ne (tgt := 56) hx hb dX6_takeTimeLine_51 (by decide) (fun c5 => ?_) (fun c5 => ?_)
      · have h := h.1 c5
        refine lv_aload_n hx hb dX6_takeTimeLine_56 rfl (lv_at hl 2 rfl) ?_
        refine lv_aload_n hx hb dX6_takeTimeLine_57 rfl (lv_at hl 1 rfl) ?_
        refine va_get (ci := 9) (v := .int u4_p1_value) (C := RX9) (T := TX9) (N := 6) hx hb hts icX9 hown hG.k hP 1 rfl rfl 5 (by decide) lk1 (fun _ h9 => h9) rfl dX6_takeTimeLine_58 ?_
        refine va_put (ci := 0) (v := .int u4_p1_value) (C := RX0) (T := TX0) (N := 15) hx hb hts icX0 tyX0 tyX0_ok nmX0 hown hG.k hP hD hS 2 rfl rfl 10 (by decide) lk3 (fun _ h9 => h9) rfl (tyX0_ok 10 (by decide)) rfl rfl (Nat.le_of_ble_eq_true rfl) dX6_takeTimeLine_61 (fun H locs hP hD hS => ?_)
        have hP : va_P D vwCl [(a_t, .inr (6, [.int u4_t_kind, .int u4_t_where])), (a_p1, .inr (9, [.ref a_p1_bytes, .int p1_size, .int u4_p1_at, .int u4_p1_token, .int u4_p1_from, .int u4_p1_value])), (a_p2, .inr (0, [o_p2_letters, o_p2_words, o_p2_weights, o_p2_shorts, o_p2_longs, o_p2_night, o_p2_guards, o_p2_less, o_p2_more, .int u2_p1_value, .int u4_p1_value, .int p2_gap, o_p2_tableTold, o_p2_slipTold, .int 1])), (a_p1_bytes, .inl (g.1 0, 320, .inl p1_bytes))] H := hP
        have hD : va_D A [(a_t, .inr (6, [.int u4_t_kind, .int u4_t_where])), (a_p1, .inr (9, [.ref a_p1_bytes, .int p1_size, .int u4_p1_at, .int u4_p1_token, .int u4_p1_from, .int u4_p1_value])), (a_p2, .inr (0, [o_p2_letters, o_p2_words, o_p2_weights, o_p2_shorts, o_p2_longs, o_p2_night, o_p2_guards, o_p2_less, o_p2_more, .int u2_p1_value, .int u4_p1_value, .int p2_gap, o_p2_tableTold, o_p2_slipTold, .int 1])), (a_p1_bytes, .inl (g.1 0, 320, .inl p1_bytes))] := hD
        refine lv_aload_n hx hb dX6_takeTimeLine_64 rfl (lv_at hl 0 rfl) ?_
        refine lv_aload_n hx hb dX6_takeTimeLine_65 rfl (lv_at hl 1 rfl) ?_
        refine lv_iconst (v := 1) hx hb dX6_takeTimeLine_66 (by decide) ?_
        refine lv_bipush (v := 99) hx hb dX6_takeTimeLine_67 (by decide) ?_
        refine k_i (wr := [(a_p2, .inr (0, [o_p2_letters, o_p2_words, o_p2_weights, o_p2_shorts, o_p2_longs, o_p2_night, o_p2_guards, o_p2_less, o_p2_more, .int u2_p1_value, .int u4_p1_value, .int p2_gap, o_p2_tableTold, o_p2_slipTold, .int 1]))]) hA hP hD hS [0, 1, 3] [2] rfl rfl (by decide) (by decide) (va_runV (As := [.ref a_p1, .int 1, .int 99]) (rest := []) ⟨hx, hb, hml, hown, hts⟩ (c_X6_takeNumber l D g a_t a_p1 a_p1_bytes u4_t_kind u4_t_where p1_size u4_p1_at u4_p1_token u4_p1_from u4_p1_value p1_bytes 1 99 _ h H.size) (cwV 3 hts (gdV (inR_16 (List.mem_of_getElem? (i := 3) rfl)) (inR_16 (List.mem_of_getElem? (i := 4) rfl)) (inR_16 (List.mem_of_getElem? (i := 5) rfl)) (inR_1 (List.mem_of_getElem? (i := 19) rfl)) (inR_16 (List.mem_of_getElem? (i := 6) rfl))) rfl rfl rfl hdX6_takeNumber ⟨Nat.le_of_ble_eq_true rfl, Nat.le_of_ble_eq_true rfl⟩) (k_preV (q0 := 0) hG hA hP hD hS [0, 1, 3] rfl (by decide) rfl rfl) rfl rfl hl.1 rfl (lv_room (Nat.le_of_ble_eq_true rfl)) dX6_takeTimeLine_69 ⟨Nat.zero_le _, Nat.zero_le _⟩) (fun r6 W' H locs h hP hD hS => ?_)
        obtain ⟨u6_t_kind, u6_t_where, u6_p1_at, u6_p1_token, u6_p1_from, u6_p1_value, rfl, h⟩ := h
        have hP : va_P D vwCl [(a_t, .inr (6, [.int u6_t_kind, .int u6_t_where])), (a_p1, .inr (9, [.ref a_p1_bytes, .int p1_size, .int u6_p1_at, .int u6_p1_token, .int u6_p1_from, .int u6_p1_value])), (a_p2, .inr (0, [o_p2_letters, o_p2_words, o_p2_weights, o_p2_shorts, o_p2_longs, o_p2_night, o_p2_guards, o_p2_less, o_p2_more, .int u2_p1_value, .int u4_p1_value, .int p2_gap, o_p2_tableTold, o_p2_slipTold, .int 1])), (a_p1_bytes, .inl (g.1 0, 320, .inl p1_bytes))] H := hP.sub [1, 2, 0, 3] rfl
        have hD : va_D A [(a_t, .inr (6, [.int u6_t_kind, .int u6_t_where])), (a_p1, .inr (9, [.ref a_p1_bytes, .int p1_size, .int u6_p1_at, .int u6_p1_token, .int u6_p1_from, .int u6_p1_value])), (a_p2, .inr (0, [o_p2_letters, o_p2_words, o_p2_weights, o_p2_shorts, o_p2_longs, o_p2_night, o_p2_guards, o_p2_less, o_p2_more, .int u2_p1_value, .int u4_p1_value, .int p2_gap, o_p2_tableTold, o_p2_slipTold, .int 1])), (a_p1_bytes, .inl (g.1 0, 320, .inl p1_bytes))] := hD.sub [1, 2, 0, 3] (by decide) rfl
        refine lv_if_ne (tgt := 77) hx hb dX6_takeTimeLine_72 (by decide) (fun c7 => ?_) (fun c7 => ?_)
        · have h := h.1 c7
          refine lv_aload_n hx hb dX6_takeTimeLine_77 rfl (lv_at hl 2 rfl) ?_
          refine lv_aload_n hx hb dX6_takeTimeLine_78 rfl (lv_at hl 1 rfl) ?_
          refine va_get (ci := 9) (v := .int u6_p1_value) (C := RX9) (T := TX9) (N := 6) hx hb hts icX9 hown hG.k hP 1 rfl rfl 5 (by decide) lk1 (fun _ h9 => h9) rfl dX6_takeTimeLine_79 ?_
          refine va_put (ci := 0) (v := .int u6_p1_value) (C := RX0) (T := TX0) (N := 15) hx hb hts icX0 tyX0 tyX0_ok nmX0 hown hG.k hP hD hS 2 rfl rfl 11 (by decide) lk4 (fun _ h9 => h9) rfl (tyX0_ok 11 (by decide)) rfl rfl (Nat.le_of_ble_eq_true rfl) dX6_takeTimeLine_82 (fun H locs hP hD hS => ?_)
          have hP : va_P D vwCl [(a_t, .inr (6, [.int u6_t_kind, .int u6_t_where])), (a_p1, .inr (9, [.ref a_p1_bytes, .int p1_size, .int u6_p1_at, .int u6_p1_token, .int u6_p1_from, .int u6_p1_value])), (a_p2, .inr (0, [o_p2_letters, o_p2_words, o_p2_weights, o_p2_shorts, o_p2_longs, o_p2_night, o_p2_guards, o_p2_less, o_p2_more, .int u2_p1_value, .int u4_p1_value, .int u6_p1_value, o_p2_tableTold, o_p2_slipTold, .int 1])), (a_p1_bytes, .inl (g.1 0, 320, .inl p1_bytes))] H := hP
          have hD : va_D A [(a_t, .inr (6, [.int u6_t_kind, .int u6_t_where])), (a_p1, .inr (9, [.ref a_p1_bytes, .int p1_size, .int u6_p1_at, .int u6_p1_token, .int u6_p1_from, .int u6_p1_value])), (a_p2, .inr (0, [o_p2_letters, o_p2_words, o_p2_weights, o_p2_shorts, o_p2_longs, o_p2_night, o_p2_guards, o_p2_less, o_p2_more, .int u2_p1_value, .int u4_p1_value, .int u6_p1_value, o_p2_tableTold, o_p2_slipTold, .int 1])), (a_p1_bytes, .inl (g.1 0, 320, .inl p1_bytes))] := hD
          refine lv_aload_n hx hb dX6_takeTimeLine_85 rfl (lv_at hl 0 rfl) ?_
          refine lv_aload_n hx hb dX6_takeTimeLine_86 rfl (lv_at hl 1 rfl) ?_
          refine k_i (wr := [(a_p2, .inr (0, [o_p2_letters, o_p2_words, o_p2_weights, o_p2_shorts, o_p2_longs, o_p2_night, o_p2_guards, o_p2_less, o_p2_more, .int u2_p1_value, .int u4_p1_value, .int u6_p1_value, o_p2_tableTold, o_p2_slipTold, .int 1]))]) hA hP hD hS [0, 1, 3] [2] rfl rfl (by decide) (by decide) (va_runV (As := [.ref a_p1]) (rest := []) ⟨hx, hb, hml, hown, hts⟩ (c_X6_takeSign l D g a_t a_p1 a_p1_bytes u6_t_kind u6_t_where p1_size u6_p1_at u6_p1_token u6_p1_from u6_p1_value p1_bytes _ h H.size) (cwV 1 hts (gdV (inR_15 (List.mem_of_getElem? (i := 7) rfl)) (inR_15 (List.mem_of_getElem? (i := 8) rfl)) (inR_15 (List.mem_of_getElem? (i := 9) rfl)) (inR_1 (List.mem_of_getElem? (i := 19) rfl)) (inR_15 (List.mem_of_getElem? (i := 10) rfl))) rfl rfl rfl hdX6_takeSign ⟨Nat.le_of_ble_eq_true rfl, Nat.le_of_ble_eq_true rfl⟩) (k_preV (q0 := 0) hG hA hP hD hS [0, 1, 3] rfl (by decide) rfl rfl) rfl rfl hl.1 rfl (lv_room (Nat.le_of_ble_eq_true rfl)) dX6_takeTimeLine_87 ⟨Nat.zero_le _, Nat.zero_le _⟩) (fun r8 W' H locs h hP hD hS => ?_)
          obtain ⟨u8_t_kind, u8_t_where, u8_p1_at, u8_p1_token, u8_p1_from, u8_p1_value, rfl, h⟩ := h
          have hP : va_P D vwCl [(a_t, .inr (6, [.int u8_t_kind, .int u8_t_where])), (a_p1, .inr (9, [.ref a_p1_bytes, .int p1_size, .int u8_p1_at, .int u8_p1_token, .int u8_p1_from, .int u8_p1_value])), (a_p2, .inr (0, [o_p2_letters, o_p2_words, o_p2_weights, o_p2_shorts, o_p2_longs, o_p2_night, o_p2_guards, o_p2_less, o_p2_more, .int u2_p1_value, .int u4_p1_value, .int u6_p1_value, o_p2_tableTold, o_p2_slipTold, .int 1])), (a_p1_bytes, .inl (g.1 0, 320, .inl p1_bytes))] H := hP.sub [1, 2, 0, 3] rfl
          have hD : va_D A [(a_t, .inr (6, [.int u8_t_kind, .int u8_t_where])), (a_p1, .inr (9, [.ref a_p1_bytes, .int p1_size, .int u8_p1_at, .int u8_p1_token, .int u8_p1_from, .int u8_p1_value])), (a_p2, .inr (0, [o_p2_letters, o_p2_words, o_p2_weights, o_p2_shorts, o_p2_longs, o_p2_night, o_p2_guards, o_p2_less, o_p2_more, .int u2_p1_value, .int u4_p1_value, .int u6_p1_value, o_p2_tableTold, o_p2_slipTold, .int 1])), (a_p1_bytes, .inl (g.1 0, 320, .inl p1_bytes))] := hD.sub [1, 2, 0, 3] (by decide) rfl
          obtain ⟨hzb, h⟩ := h
          exact hret r8 _ _ _ _ _ hzb ⟨u8_t_kind, u8_t_where, u8_p1_at, u8_p1_token, u8_p1_from, u8_p1_value, u2_p1_value, u4_p1_value, u6_p1_value, 1, rfl, h⟩ hP hD hS dX6_takeTimeLine_90
        · have h := h.2 c7
          refine lv_iconst (v := 0) hx hb dX6_takeTimeLine_75 (by decide) ?_
          exact hret 0 _ _ _ _ _ (Or.inl rfl) ⟨u6_t_kind, u6_t_where, u6_p1_at, u6_p1_token, u6_p1_from, u6_p1_value, u2_p1_value, u4_p1_value, p2_gap, 1, rfl, h⟩ hP hD hS dX6_takeTimeLine_76
      · have h := h.2 c5
        refine lv_iconst (v := 0) hx hb dX6_takeTimeLine_54 (by decide) ?_
        exact hret 0 _ _ _ _ _ (Or.inl rfl) ⟨u4_t_kind, u4_t_where, u4_p1_at, u4_p1_token, u4_p1_from, u4_p1_value, u2_p1_value, p2_pause, p2_gap, 1, rfl, h⟩ hP hD hS dX6_takeTimeLine_55
    · have h := h.2 c3
      refine lv_iconst (v := 0) hx hb dX6_takeTimeLine_33 (by decide) ?_
      exact hret 0 _ _ _ _ _ (Or.inl rfl) ⟨u2_t_kind, u2_t_where, u2_p1_at, u2_p1_token, u2_p1_from, u2_p1_value, p2_knock, p2_pause, p2_gap, 1, rfl, h⟩ hP hD hS dX6_takeTimeLine_34
  · have h := h.2 c1
    refine lv_aload_n hx hb dX6_takeTimeLine_7 rfl (lv_at hl 0 rfl) ?_
    refine lv_iconst (v := 4) hx hb dX6_takeTimeLine_8 (by decide) ?_
    refine lv_aload_n hx hb dX6_takeTimeLine_9 rfl (lv_at hl 1 rfl) ?_
    refine va_get (ci := 9) (v := .int p1_from) (C := RX9) (T := TX9) (N := 6) hx hb hts icX9 hown hG.k hP 1 rfl rfl 4 (by decide) lk5 (fun _ h9 => h9) rfl dX6_takeTimeLine_10 ?_
    refine k_i (wr := [(a_p1, .inr (9, [.ref a_p1_bytes, .int p1_size, .int p1_at, .int p1_token, .int p1_from, .int p1_value])), (a_p2, .inr (0, [o_p2_letters, o_p2_words, o_p2_weights, o_p2_shorts, o_p2_longs, o_p2_night, o_p2_guards, o_p2_less, o_p2_more, .int p2_knock, .int p2_pause, .int p2_gap, o_p2_tableTold, o_p2_slipTold, .int p2_timeTold])), (a_p1_bytes, .inl (g.1 0, 320, .inl p1_bytes))]) hA hP hD hS [0] [1, 2, 3] rfl rfl (by decide) (by decide) (va_runV (As := [.int 4, .int p1_from]) (rest := []) ⟨hx, hb, hml, hown, hts⟩ (c_X6_fail l D g a_t t_kind t_where 4 p1_from _ h H.size) (cwV 2 hts (gdV (inR_11 (List.mem_of_getElem? (i := 19) rfl)) (inR_11 (List.mem_of_getElem? (i := 20) rfl)) (inR_11 (List.mem_of_getElem? (i := 21) rfl)) (inR_1 (List.mem_of_getElem? (i := 19) rfl)) (inR_11 (List.mem_of_getElem? (i := 22) rfl))) rfl rfl rfl hdX6_fail ⟨Nat.le_of_ble_eq_true rfl, Nat.le_of_ble_eq_true rfl⟩) (k_preV (q0 := 0) hG hA hP hD hS [0] rfl (by decide) rfl rfl) rfl rfl hl.1 rfl (lv_room (Nat.le_of_ble_eq_true rfl)) dX6_takeTimeLine_13 ⟨Nat.zero_le _, Nat.zero_le _⟩) (fun r9 W' H locs h hP hD hS => ?_)
    obtain ⟨u9_t_kind, u9_t_where, rfl, h⟩ := h
    have hP : va_P D vwCl [(a_t, .inr (6, [.int u9_t_kind, .int u9_t_where])), (a_p1, .inr (9, [.ref a_p1_bytes, .int p1_size, .int p1_at, .int p1_token, .int p1_from, .int p1_value])), (a_p2, .inr (0, [o_p2_letters, o_p2_words, o_p2_weights, o_p2_shorts, o_p2_longs, o_p2_night, o_p2_guards, o_p2_less, o_p2_more, .int p2_knock, .int p2_pause, .int p2_gap, o_p2_tableTold, o_p2_slipTold, .int p2_timeTold])), (a_p1_bytes, .inl (g.1 0, 320, .inl p1_bytes))] H := hP.sub [3, 0, 1, 2] rfl
    have hD : va_D A [(a_t, .inr (6, [.int u9_t_kind, .int u9_t_where])), (a_p1, .inr (9, [.ref a_p1_bytes, .int p1_size, .int p1_at, .int p1_token, .int p1_from, .int p1_value])), (a_p2, .inr (0, [o_p2_letters, o_p2_words, o_p2_weights, o_p2_shorts, o_p2_longs, o_p2_night, o_p2_guards, o_p2_less, o_p2_more, .int p2_knock, .int p2_pause, .int p2_gap, o_p2_tableTold, o_p2_slipTold, .int p2_timeTold])), (a_p1_bytes, .inl (g.1 0, 320, .inl p1_bytes))] := hD.sub [3, 0, 1, 2] (by decide) rfl
    obtain ⟨hzb, h⟩ := h
    exact hret r9 _ _ _ _ _ hzb ⟨u9_t_kind, u9_t_where, p1_at, p1_token, p1_from, p1_value, p2_knock, p2_pause, p2_gap, p2_timeTold, rfl, h⟩ hP hD hS dX6_takeTimeLine_16
theorem hdX6_takeGuardLine : yX6_takeGuardLine.cls = RX6 ∧ yX6_takeGuardLine.cls ≠ "java/lang/invoke/MethodHandle" ∧ yX6_takeGuardLine.cls ≠ "java/lang/invoke/VarHandle" ∧ (parseMethodDescriptor yX6_takeGuardLine.desc).map (fun d => d.parameters.length) = some 2 := by decide +kernel
abbrev rmX6_takeGuardLine : Room := { frames := 4, cells := 0, slots := 0, locals := 400 }
set_option maxHeartbeats 4000000 in
set_option maxRecDepth 100000 in
theorem c_X6_takeGuardLine (l : Launch) (D : va_G) (g : gE) (a_t : Nat) (a_p1 : Nat) (a_p2 : Nat) (a_p1_bytes : Nat) (a_p2_night : Nat) (a_p2_night_watched : Nat) (o_p2_letters : Value) (o_p2_words : Value) (o_p2_weights : Value) (o_p2_shorts : Value) (o_p2_longs : Value) (o_p2_less : Value) (o_p2_more : Value) (o_p2_knock : Value) (o_p2_pause : Value) (o_p2_gap : Value) (o_p2_tableTold : Value) (o_p2_slipTold : Value) (o_p2_timeTold : Value) (t_kind : Int32) (t_where : Int32) (p1_size : Int32) (p1_at : Int32) (p1_token : Int32) (p1_from : Int32) (p1_value : Int32) (p2_guards : Int32) (p1_bytes : Nat → Int32) (p2_night_watched : Nat → Int32) (post : Int32 → Int32 → Int32 → Int32 → Int32 → Int32 → Int32 → Int32 → (Nat → Int32) → Prop) (h : wp_X6_takeGuardLine t_kind t_where p1_size p1_at p1_token p1_from p1_value p2_guards p1_bytes p2_night_watched post) : Ci l D g yX6_takeGuardLine (.code yX6_takeGuardLine cX6_takeGuardLine 4 (some .boolean) :: wsL_law) rmX6_takeGuardLine [.ref a_t, .ref a_p1, .ref a_p2] [(a_t, .inr (6, [.int t_kind, .int t_where])), (a_p1, .inr (9, [.ref a_p1_bytes, .int p1_size, .int p1_at, .int p1_token, .int p1_from, .int p1_value])), (a_p2, .inr (0, [o_p2_letters, o_p2_words, o_p2_weights, o_p2_shorts, o_p2_longs, .ref a_p2_night, .int p2_guards, o_p2_less, o_p2_more, o_p2_knock, o_p2_pause, o_p2_gap, o_p2_tableTold, o_p2_slipTold, o_p2_timeTold])), (a_p1_bytes, .inl (g.1 0, 320, .inl p1_bytes)), (a_p2_night, .inr (5, [.ref a_p2_night_watched])), (a_p2_night_watched, .inl (g.1 0, 600, .inl p2_night_watched))] (fun r W' => ∃ (nw_t_kind : Int32) (nw_t_where : Int32) (nw_p1_at : Int32) (nw_p1_token : Int32) (nw_p1_from : Int32) (nw_p1_value : Int32) (nw_p2_guards : Int32) (nw_p2_night_watched : Nat → Int32), W' = [(a_t, .inr (6, [.int nw_t_kind, .int nw_t_where])), (a_p1, .inr (9, [.ref a_p1_bytes, .int p1_size, .int nw_p1_at, .int nw_p1_token, .int nw_p1_from, .int nw_p1_value])), (a_p2, .inr (0, [o_p2_letters, o_p2_words, o_p2_weights, o_p2_shorts, o_p2_longs, .ref a_p2_night, .int nw_p2_guards, o_p2_less, o_p2_more, o_p2_knock, o_p2_pause, o_p2_gap, o_p2_tableTold, o_p2_slipTold, o_p2_timeTold])), (a_p1_bytes, .inl (g.1 0, 320, .inl p1_bytes)), (a_p2_night, .inr (5, [.ref a_p2_night_watched])), (a_p2_night_watched, .inl (g.1 0, 600, .inl nw_p2_night_watched))] ∧ post r nw_t_kind nw_t_where nw_p1_at nw_p1_token nw_p1_from nw_p1_value nw_p2_guards nw_p2_night_watched) := by
  refine Cz.of (cc := cX6_takeGuardLine) (maxL := 4) (by decide) rfl (Nat.le_of_ble_eq_true rfl) ?_
  intro p e s m args below meth c A Q hx hb hml hts hown hA H locs hP hD hS hG ls hl hret
  have hown : s.vm.findClass RX6 = some m.cls := hown
  have hl : lv_has ls 4 [(0, .ref a_t), (1, .ref a_p1), (2, .ref a_p2)] := hl
  have lk0 := hts (.fieldLink RX6 150 "KnockWall$Code" "guards" "I") (List.mem_cons_of_mem _ (inR_17 (List.mem_of_getElem? (i := 8) rfl)))
  have lk1 := hts (.fieldLink RX6 120 "KnockWall$Tape" "value" "I") (List.mem_cons_of_mem _ (inR_15 (List.mem_of_getElem? (i := 18) rfl)))
  have lk2 := hts (.fieldLink RX6 153 "KnockWall$Code" "night" "LKnockWall$Night;") (List.mem_cons_of_mem _ (inR_17 (List.mem_of_getElem? (i := 9) rfl)))
  have lk3 := hts (.fieldLink RX6 84 "KnockWall$Tape" "from" "I") (List.mem_cons_of_mem _ (inR_11 (List.mem_of_getElem? (i := 14) rfl)))
  unfold wp_X6_takeGuardLine at h
  try dsimp only at h
  refine lv_aload_n hx hb dX6_takeGuardLine_0 rfl (lv_at hl 2 rfl) ?_
  refine va_get (ci := 0) (v := .int p2_guards) (C := RX0) (T := TX0) (N := 15) hx hb hts icX0 hown hG.k hP 2 rfl rfl 6 (by decide) lk0 (fun _ h9 => h9) rfl dX6_takeGuardLine_1 ?_
  refine lv_bipush (v := 6) hx hb dX6_takeGuardLine_4 (by decide) ?_
  refine lv_icmp_lt (tgt := 19) hx hb dX6_takeGuardLine_6 (by decide) (fun c1 => ?_) (fun c1 => ?_)
  · have h := h.1 c1
    refine lv_aload_n hx hb dX6_takeGuardLine_19 rfl (lv_at hl 2 rfl) ?_
    refine lv_dup hx hb dX6_takeGuardLine_20 rfl ?_
    refine va_get (ci := 0) (v := .int p2_guards) (C := RX0) (T := TX0) (N := 15) hx hb hts icX0 hown hG.k hP 2 rfl rfl 6 (by decide) lk0 (fun _ h9 => h9) rfl dX6_takeGuardLine_21 ?_
    refine lv_iconst (v := 1) hx hb dX6_takeGuardLine_24 (by decide) ?_
    refine lv_iadd hx hb dX6_takeGuardLine_25 ?_
    refine va_put (ci := 0) (v := .int (p2_guards + 1)) (C := RX0) (T := TX0) (N := 15) hx hb hts icX0 tyX0 tyX0_ok nmX0 hown hG.k hP hD hS 2 rfl rfl 6 (by decide) lk0 (fun _ h9 => h9) rfl (tyX0_ok 6 (by decide)) rfl rfl (Nat.le_of_ble_eq_true rfl) dX6_takeGuardLine_26 (fun H locs hP hD hS => ?_)
    have hP : va_P D vwCl [(a_t, .inr (6, [.int t_kind, .int t_where])), (a_p1, .inr (9, [.ref a_p1_bytes, .int p1_size, .int p1_at, .int p1_token, .int p1_from, .int p1_value])), (a_p2, .inr (0, [o_p2_letters, o_p2_words, o_p2_weights, o_p2_shorts, o_p2_longs, .ref a_p2_night, .int (p2_guards + 1), o_p2_less, o_p2_more, o_p2_knock, o_p2_pause, o_p2_gap, o_p2_tableTold, o_p2_slipTold, o_p2_timeTold])), (a_p1_bytes, .inl (g.1 0, 320, .inl p1_bytes)), (a_p2_night, .inr (5, [.ref a_p2_night_watched])), (a_p2_night_watched, .inl (g.1 0, 600, .inl p2_night_watched))] H := hP
    have hD : va_D A [(a_t, .inr (6, [.int t_kind, .int t_where])), (a_p1, .inr (9, [.ref a_p1_bytes, .int p1_size, .int p1_at, .int p1_token, .int p1_from, .int p1_value])), (a_p2, .inr (0, [o_p2_letters, o_p2_words, o_p2_weights, o_p2_shorts, o_p2_longs, .ref a_p2_night, .int (p2_guards + 1), o_p2_less, o_p2_more, o_p2_knock, o_p2_pause, o_p2_gap, o_p2_tableTold, o_p2_slipTold, o_p2_timeTold])), (a_p1_bytes, .inl (g.1 0, 320, .inl p1_bytes)), (a_p2_night, .inr (5, [.ref a_p2_night_watched])), (a_p2_night_watched, .inl (g.1 0, 600, .inl p2_night_watched))] := hD
    refine lv_aload_n hx hb dX6_takeGuardLine_29 rfl (lv_at hl 0 rfl) ?_
    refine lv_aload_n hx hb dX6_takeGuardLine_30 rfl (lv_at hl 1 rfl) ?_
    refine lv_iconst (v := 0) hx hb dX6_takeGuardLine_31 (by decide) ?_
    refine lv_sipush (v := 599) hx hb dX6_takeGuardLine_32 (by decide) ?_
    refine k_i (wr := [(a_p2, .inr (0, [o_p2_letters, o_p2_words, o_p2_weights, o_p2_shorts, o_p2_longs, .ref a_p2_night, .int (p2_guards + 1), o_p2_less, o_p2_more, o_p2_knock, o_p2_pause, o_p2_gap, o_p2_tableTold, o_p2_slipTold, o_p2_timeTold])), (a_p2_night, .inr (5, [.ref a_p2_night_watched])), (a_p2_night_watched, .inl (g.1 0, 600, .inl p2_night_watched))]) hA hP hD hS [0, 1, 3] [2, 4, 5] rfl rfl (by decide) (by decide) (va_runV (As := [.ref a_p1, .int 0, .int 599]) (rest := []) ⟨hx, hb, hml, hown, hts⟩ (c_X6_takeNumber l D g a_t a_p1 a_p1_bytes t_kind t_where p1_size p1_at p1_token p1_from p1_value p1_bytes 0 599 _ h H.size) (cwV 3 hts (gdV (inR_16 (List.mem_of_getElem? (i := 3) rfl)) (inR_16 (List.mem_of_getElem? (i := 4) rfl)) (inR_16 (List.mem_of_getElem? (i := 5) rfl)) (inR_1 (List.mem_of_getElem? (i := 19) rfl)) (inR_16 (List.mem_of_getElem? (i := 6) rfl))) rfl rfl rfl hdX6_takeNumber ⟨Nat.le_of_ble_eq_true rfl, Nat.le_of_ble_eq_true rfl⟩) (k_preV (q0 := 0) hG hA hP hD hS [0, 1, 3] rfl (by decide) rfl rfl) rfl rfl hl.1 rfl (lv_room (Nat.le_of_ble_eq_true rfl)) dX6_takeGuardLine_35 ⟨Nat.zero_le _, Nat.zero_le _⟩) (fun r2 W' H locs h hP hD hS => ?_)
    obtain ⟨u2_t_kind, u2_t_where, u2_p1_at, u2_p1_token, u2_p1_from, u2_p1_value, rfl, h⟩ := h
    have hP : va_P D vwCl [(a_t, .inr (6, [.int u2_t_kind, .int u2_t_where])), (a_p1, .inr (9, [.ref a_p1_bytes, .int p1_size, .int u2_p1_at, .int u2_p1_token, .int u2_p1_from, .int u2_p1_value])), (a_p2, .inr (0, [o_p2_letters, o_p2_words, o_p2_weights, o_p2_shorts, o_p2_longs, .ref a_p2_night, .int (p2_guards + 1), o_p2_less, o_p2_more, o_p2_knock, o_p2_pause, o_p2_gap, o_p2_tableTold, o_p2_slipTold, o_p2_timeTold])), (a_p1_bytes, .inl (g.1 0, 320, .inl p1_bytes)), (a_p2_night, .inr (5, [.ref a_p2_night_watched])), (a_p2_night_watched, .inl (g.1 0, 600, .inl p2_night_watched))] H := hP.sub [3, 4, 0, 5, 1, 2] rfl
    have hD : va_D A [(a_t, .inr (6, [.int u2_t_kind, .int u2_t_where])), (a_p1, .inr (9, [.ref a_p1_bytes, .int p1_size, .int u2_p1_at, .int u2_p1_token, .int u2_p1_from, .int u2_p1_value])), (a_p2, .inr (0, [o_p2_letters, o_p2_words, o_p2_weights, o_p2_shorts, o_p2_longs, .ref a_p2_night, .int (p2_guards + 1), o_p2_less, o_p2_more, o_p2_knock, o_p2_pause, o_p2_gap, o_p2_tableTold, o_p2_slipTold, o_p2_timeTold])), (a_p1_bytes, .inl (g.1 0, 320, .inl p1_bytes)), (a_p2_night, .inr (5, [.ref a_p2_night_watched])), (a_p2_night_watched, .inl (g.1 0, 600, .inl p2_night_watched))] := hD.sub [3, 4, 0, 5, 1, 2] (by decide) rfl
    refine lv_if_ne (tgt := 43) hx hb dX6_takeGuardLine_38 (by decide) (fun c3 => ?_) (fun c3 => ?_)
    · have h := h.1 c3
      refine lv_aload_n hx hb dX6_takeGuardLine_43 rfl (lv_at hl 1 rfl) ?_
      refine va_get (ci := 9) (v := .int u2_p1_value) (C := RX9) (T := TX9) (N := 6) hx hb hts icX9 hown hG.k hP 1 rfl rfl 5 (by decide) lk1 (fun _ h9 => h9) rfl dX6_takeGuardLine_44 ?_
      refine lv_istore_n (lv' := [(3, .int u2_p1_value), (0, .ref a_t), (1, .ref a_p1), (2, .ref a_p2)]) hx hb dX6_takeGuardLine_47 rfl hl (by decide) rfl (fun ls hl => ?_)
      refine lv_aload_n hx hb dX6_takeGuardLine_48 rfl (lv_at hl 1 rfl) ?_
      refine lv_aload_n hx hb dX6_takeGuardLine_49 rfl (lv_at hl 2 rfl) ?_
      refine lv_iconst (v := 1) hx hb dX6_takeGuardLine_50 (by decide) ?_
      refine lv_bipush (v := 60) hx hb dX6_takeGuardLine_51 (by decide) ?_
      refine k_i (wr := [(a_p2, .inr (0, [o_p2_letters, o_p2_words, o_p2_weights, o_p2_shorts, o_p2_longs, .ref a_p2_night, .int (p2_guards + 1), o_p2_less, o_p2_more, o_p2_knock, o_p2_pause, o_p2_gap, o_p2_tableTold, o_p2_slipTold, o_p2_timeTold])), (a_p2_night, .inr (5, [.ref a_p2_night_watched])), (a_p2_night_watched, .inl (g.1 0, 600, .inl p2_night_watched))]) hA hP hD hS [0, 1, 3] [2, 4, 5] rfl rfl (by decide) (by decide) (va_runV (As := [.ref a_p1, .int 1, .int 60]) (rest := []) ⟨hx, hb, hml, hown, hts⟩ (c_X6_takeNumber l D g a_t a_p1 a_p1_bytes u2_t_kind u2_t_where p1_size u2_p1_at u2_p1_token u2_p1_from u2_p1_value p1_bytes 1 60 _ h H.size) (cwV 3 hts (gdV (inR_16 (List.mem_of_getElem? (i := 3) rfl)) (inR_16 (List.mem_of_getElem? (i := 4) rfl)) (inR_16 (List.mem_of_getElem? (i := 5) rfl)) (inR_1 (List.mem_of_getElem? (i := 19) rfl)) (inR_16 (List.mem_of_getElem? (i := 6) rfl))) rfl rfl rfl hdX6_takeNumber ⟨Nat.le_of_ble_eq_true rfl, Nat.le_of_ble_eq_true rfl⟩) (k_preV (q0 := 0) hG hA hP hD hS [0, 1, 3] rfl (by decide) rfl rfl) rfl rfl hl.1 rfl (lv_room (Nat.le_of_ble_eq_true rfl)) dX6_takeGuardLine_53 ⟨Nat.zero_le _, Nat.zero_le _⟩) (fun r4 W' H locs h hP hD hS => ?_)
      obtain ⟨u4_t_kind, u4_t_where, u4_p1_at, u4_p1_token, u4_p1_from, u4_p1_value, rfl, h⟩ := h
      have hP : va_P D vwCl [(a_t, .inr (6, [.int u4_t_kind, .int u4_t_where])), (a_p1, .inr (9, [.ref a_p1_bytes, .int p1_size, .int u4_p1_at, .int u4_p1_token, .int u4_p1_from, .int u4_p1_value])), (a_p2, .inr (0, [o_p2_letters, o_p2_words, o_p2_weights, o_p2_shorts, o_p2_longs, .ref a_p2_night, .int (p2_guards + 1), o_p2_less, o_p2_more, o_p2_knock, o_p2_pause, o_p2_gap, o_p2_tableTold, o_p2_slipTold, o_p2_timeTold])), (a_p1_bytes, .inl (g.1 0, 320, .inl p1_bytes)), (a_p2_night, .inr (5, [.ref a_p2_night_watched])), (a_p2_night_watched, .inl (g.1 0, 600, .inl p2_night_watched))] H := hP.sub [3, 4, 0, 5, 1, 2] rfl
      have hD : va_D A [(a_t, .inr (6, [.int u4_t_kind, .int u4_t_where])), (a_p1, .inr (9, [.ref a_p1_bytes, .int p1_size, .int u4_p1_at, .int u4_p1_token, .int u4_p1_from, .int u4_p1_value])), (a_p2, .inr (0, [o_p2_letters, o_p2_words, o_p2_weights, o_p2_shorts, o_p2_longs, .ref a_p2_night, .int (p2_guards + 1), o_p2_less, o_p2_more, o_p2_knock, o_p2_pause, o_p2_gap, o_p2_tableTold, o_p2_slipTold, o_p2_timeTold])), (a_p1_bytes, .inl (g.1 0, 320, .inl p1_bytes)), (a_p2_night, .inr (5, [.ref a_p2_night_watched])), (a_p2_night_watched, .inl (g.1 0, 600, .inl p2_night_watched))] := hD.sub [3, 4, 0, 5, 1, 2] (by decide) rfl
      refine lv_if_ne (tgt := 61) hx hb dX6_takeGuardLine_56 (by decide) (fun c5 => ?_) (fun c5 => ?_)
      · have h := h.1 c5
        refine lv_aload_n hx hb dX6_takeGuardLine_61 rfl (lv_at hl 3 rfl) ?_
        refine va_get (ci := 0) (v := .ref a_p2_night) (C := RX0) (T := TX0) (N := 15) hx hb hts icX0 hown hG.k hP 2 rfl rfl 5 (by decide) lk2 (fun _ h9 => h9) rfl dX6_takeGuardLine_62 ?_
        refine lv_iload_n hx hb dX6_takeGuardLine_65 rfl (lv_at hl 0 rfl) ?_
        refine lv_aload_n hx hb dX6_takeGuardLine_66 rfl (lv_at hl 2 rfl) ?_
        refine va_get (ci := 9) (v := .int u4_p1_value) (C := RX9) (T := TX9) (N := 6) hx hb hts icX9 hown hG.k hP 1 rfl rfl 5 (by decide) lk1 (fun _ h9 => h9) rfl dX6_takeGuardLine_67 ?_
        refine k_v (wr := [(a_t, .inr (6, [.int u4_t_kind, .int u4_t_where])), (a_p1, .inr (9, [.ref a_p1_bytes, .int p1_size, .int u4_p1_at, .int u4_p1_token, .int u4_p1_from, .int u4_p1_value])), (a_p2, .inr (0, [o_p2_letters, o_p2_words, o_p2_weights, o_p2_shorts, o_p2_longs, .ref a_p2_night, .int (p2_guards + 1), o_p2_less, o_p2_more, o_p2_knock, o_p2_pause, o_p2_gap, o_p2_tableTold, o_p2_slipTold, o_p2_timeTold])), (a_p1_bytes, .inl (g.1 0, 320, .inl p1_bytes))]) hA hP hD hS [4, 5] [0, 1, 2, 3] rfl rfl (by decide) (by decide) (va_runV (As := [.int u2_p1_value, .int u4_p1_value]) (rest := []) ⟨hx, hb, hml, hown, hts⟩ (c_X5_watch l D g a_p2_night a_p2_night_watched p2_night_watched u2_p1_value u4_p1_value _ h H.size) (cwV 2 hts (gdV (inR_17 (List.mem_of_getElem? (i := 10) rfl)) (inR_17 (List.mem_of_getElem? (i := 11) rfl)) (inR_17 (List.mem_of_getElem? (i := 12) rfl)) (inR_5 (List.mem_of_getElem? (i := 9) rfl)) (inR_17 (List.mem_of_getElem? (i := 13) rfl))) rfl rfl rfl hdX5_watch ⟨Nat.le_of_ble_eq_true rfl, Nat.le_of_ble_eq_true rfl⟩) (k_preV (q0 := 4) hG hA hP hD hS [4, 5] rfl (by decide) rfl rfl) rfl rfl hl.1 rfl (lv_room (Nat.le_of_ble_eq_true rfl)) dX6_takeGuardLine_70 ⟨Nat.zero_le _, Nat.zero_le _⟩) (fun W' H locs h hP hD hS => ?_)
        obtain ⟨u6_t_watched, rfl, h⟩ := h
        have hP : va_P D vwCl [(a_t, .inr (6, [.int u4_t_kind, .int u4_t_where])), (a_p1, .inr (9, [.ref a_p1_bytes, .int p1_size, .int u4_p1_at, .int u4_p1_token, .int u4_p1_from, .int u4_p1_value])), (a_p2, .inr (0, [o_p2_letters, o_p2_words, o_p2_weights, o_p2_shorts, o_p2_longs, .ref a_p2_night, .int (p2_guards + 1), o_p2_less, o_p2_more, o_p2_knock, o_p2_pause, o_p2_gap, o_p2_tableTold, o_p2_slipTold, o_p2_timeTold])), (a_p1_bytes, .inl (g.1 0, 320, .inl p1_bytes)), (a_p2_night, .inr (5, [.ref a_p2_night_watched])), (a_p2_night_watched, .inl (g.1 0, 600, .inl u6_t_watched))] H := hP.sub [0, 1, 2, 3, 4, 5] rfl
        have hD : va_D A [(a_t, .inr (6, [.int u4_t_kind, .int u4_t_where])), (a_p1, .inr (9, [.ref a_p1_bytes, .int p1_size, .int u4_p1_at, .int u4_p1_token, .int u4_p1_from, .int u4_p1_value])), (a_p2, .inr (0, [o_p2_letters, o_p2_words, o_p2_weights, o_p2_shorts, o_p2_longs, .ref a_p2_night, .int (p2_guards + 1), o_p2_less, o_p2_more, o_p2_knock, o_p2_pause, o_p2_gap, o_p2_tableTold, o_p2_slipTold, o_p2_timeTold])), (a_p1_bytes, .inl (g.1 0, 320, .inl p1_bytes)), (a_p2_night, .inr (5, [.ref a_p2_night_watched])), (a_p2_night_watched, .inl (g.1 0, 600, .inl u6_t_watched))] := hD.sub [0, 1, 2, 3, 4, 5] (by decide) rfl
        refine lv_aload_n hx hb dX6_takeGuardLine_73 rfl (lv_at hl 1 rfl) ?_
        refine lv_aload_n hx hb dX6_takeGuardLine_74 rfl (lv_at hl 2 rfl) ?_
        refine k_i (wr := [(a_p2, .inr (0, [o_p2_letters, o_p2_words, o_p2_weights, o_p2_shorts, o_p2_longs, .ref a_p2_night, .int (p2_guards + 1), o_p2_less, o_p2_more, o_p2_knock, o_p2_pause, o_p2_gap, o_p2_tableTold, o_p2_slipTold, o_p2_timeTold])), (a_p2_night, .inr (5, [.ref a_p2_night_watched])), (a_p2_night_watched, .inl (g.1 0, 600, .inl u6_t_watched))]) hA hP hD hS [0, 1, 3] [2, 4, 5] rfl rfl (by decide) (by decide) (va_runV (As := [.ref a_p1]) (rest := []) ⟨hx, hb, hml, hown, hts⟩ (c_X6_takeSign l D g a_t a_p1 a_p1_bytes u4_t_kind u4_t_where p1_size u4_p1_at u4_p1_token u4_p1_from u4_p1_value p1_bytes _ h H.size) (cwV 1 hts (gdV (inR_15 (List.mem_of_getElem? (i := 7) rfl)) (inR_15 (List.mem_of_getElem? (i := 8) rfl)) (inR_15 (List.mem_of_getElem? (i := 9) rfl)) (inR_1 (List.mem_of_getElem? (i := 19) rfl)) (inR_15 (List.mem_of_getElem? (i := 10) rfl))) rfl rfl rfl hdX6_takeSign ⟨Nat.le_of_ble_eq_true rfl, Nat.le_of_ble_eq_true rfl⟩) (k_preV (q0 := 0) hG hA hP hD hS [0, 1, 3] rfl (by decide) rfl rfl) rfl rfl hl.1 rfl (lv_room (Nat.le_of_ble_eq_true rfl)) dX6_takeGuardLine_75 ⟨Nat.zero_le _, Nat.zero_le _⟩) (fun r7 W' H locs h hP hD hS => ?_)
        obtain ⟨u7_t_kind, u7_t_where, u7_p1_at, u7_p1_token, u7_p1_from, u7_p1_value, rfl, h⟩ := h
        have hP : va_P D vwCl [(a_t, .inr (6, [.int u7_t_kind, .int u7_t_where])), (a_p1, .inr (9, [.ref a_p1_bytes, .int p1_size, .int u7_p1_at, .int u7_p1_token, .int u7_p1_from, .int u7_p1_value])), (a_p2, .inr (0, [o_p2_letters, o_p2_words, o_p2_weights, o_p2_shorts, o_p2_longs, .ref a_p2_night, .int (p2_guards + 1), o_p2_less, o_p2_more, o_p2_knock, o_p2_pause, o_p2_gap, o_p2_tableTold, o_p2_slipTold, o_p2_timeTold])), (a_p1_bytes, .inl (g.1 0, 320, .inl p1_bytes)), (a_p2_night, .inr (5, [.ref a_p2_night_watched])), (a_p2_night_watched, .inl (g.1 0, 600, .inl u6_t_watched))] H := hP.sub [3, 4, 0, 5, 1, 2] rfl
        have hD : va_D A [(a_t, .inr (6, [.int u7_t_kind, .int u7_t_where])), (a_p1, .inr (9, [.ref a_p1_bytes, .int p1_size, .int u7_p1_at, .int u7_p1_token, .int u7_p1_from, .int u7_p1_value])), (a_p2, .inr (0, [o_p2_letters, o_p2_words, o_p2_weights, o_p2_shorts, o_p2_longs, .ref a_p2_night, .int (p2_guards + 1), o_p2_less, o_p2_more, o_p2_knock, o_p2_pause, o_p2_gap, o_p2_tableTold, o_p2_slipTold, o_p2_timeTold])), (a_p1_bytes, .inl (g.1 0, 320, .inl p1_bytes)), (a_p2_night, .inr (5, [.ref a_p2_night_watched])), (a_p2_night_watched, .inl (g.1 0, 600, .inl u6_t_watched))] := hD.sub [3, 4, 0, 5, 1, 2] (by decide) rfl
        obtain ⟨hzb, h⟩ := h
        exact hret r7 _ _ _ _ _ hzb ⟨u7_t_kind, u7_t_where, u7_p1_at, u7_p1_token, u7_p1_from, u7_p1_value, p2_guards + 1, u6_t_watched, rfl, h⟩ hP hD hS dX6_takeGuardLine_78
      · have h := h.2 c5
        refine lv_iconst (v := 0) hx hb dX6_takeGuardLine_59 (by decide) ?_
        exact hret 0 _ _ _ _ _ (Or.inl rfl) ⟨u4_t_kind, u4_t_where, u4_p1_at, u4_p1_token, u4_p1_from, u4_p1_value, p2_guards + 1, p2_night_watched, rfl, h⟩ hP hD hS dX6_takeGuardLine_60
    · have h := h.2 c3
      refine lv_iconst (v := 0) hx hb dX6_takeGuardLine_41 (by decide) ?_
      exact hret 0 _ _ _ _ _ (Or.inl rfl) ⟨u2_t_kind, u2_t_where, u2_p1_at, u2_p1_token, u2_p1_from, u2_p1_value, p2_guards + 1, p2_night_watched, rfl, h⟩ hP hD hS dX6_takeGuardLine_42
  · have h := h.2 c1
    refine lv_aload_n hx hb dX6_takeGuardLine_9 rfl (lv_at hl 0 rfl) ?_
    refine lv_iconst (v := 5) hx hb dX6_takeGuardLine_10 (by decide) ?_
    refine lv_aload_n hx hb dX6_takeGuardLine_11 rfl (lv_at hl 1 rfl) ?_
    refine va_get (ci := 9) (v := .int p1_from) (C := RX9) (T := TX9) (N := 6) hx hb hts icX9 hown hG.k hP 1 rfl rfl 4 (by decide) lk3 (fun _ h9 => h9) rfl dX6_takeGuardLine_12 ?_
    refine k_i (wr := [(a_p1, .inr (9, [.ref a_p1_bytes, .int p1_size, .int p1_at, .int p1_token, .int p1_from, .int p1_value])), (a_p2, .inr (0, [o_p2_letters, o_p2_words, o_p2_weights, o_p2_shorts, o_p2_longs, .ref a_p2_night, .int p2_guards, o_p2_less, o_p2_more, o_p2_knock, o_p2_pause, o_p2_gap, o_p2_tableTold, o_p2_slipTold, o_p2_timeTold])), (a_p1_bytes, .inl (g.1 0, 320, .inl p1_bytes)), (a_p2_night, .inr (5, [.ref a_p2_night_watched])), (a_p2_night_watched, .inl (g.1 0, 600, .inl p2_night_watched))]) hA hP hD hS [0] [1, 2, 3, 4, 5] rfl rfl (by decide) (by decide) (va_runV (As := [.int 5, .int p1_from]) (rest := []) ⟨hx, hb, hml, hown, hts⟩ (c_X6_fail l D g a_t t_kind t_where 5 p1_from _ h H.size) (cwV 2 hts (gdV (inR_11 (List.mem_of_getElem? (i := 19) rfl)) (inR_11 (List.mem_of_getElem? (i := 20) rfl)) (inR_11 (List.mem_of_getElem? (i := 21) rfl)) (inR_1 (List.mem_of_getElem? (i := 19) rfl)) (inR_11 (List.mem_of_getElem? (i := 22) rfl))) rfl rfl rfl hdX6_fail ⟨Nat.le_of_ble_eq_true rfl, Nat.le_of_ble_eq_true rfl⟩) (k_preV (q0 := 0) hG hA hP hD hS [0] rfl (by decide) rfl rfl) rfl rfl hl.1 rfl (lv_room (Nat.le_of_ble_eq_true rfl)) dX6_takeGuardLine_15 ⟨Nat.zero_le _, Nat.zero_le _⟩) (fun r8 W' H locs h hP hD hS => ?_)
    obtain ⟨u8_t_kind, u8_t_where, rfl, h⟩ := h
    have hP : va_P D vwCl [(a_t, .inr (6, [.int u8_t_kind, .int u8_t_where])), (a_p1, .inr (9, [.ref a_p1_bytes, .int p1_size, .int p1_at, .int p1_token, .int p1_from, .int p1_value])), (a_p2, .inr (0, [o_p2_letters, o_p2_words, o_p2_weights, o_p2_shorts, o_p2_longs, .ref a_p2_night, .int p2_guards, o_p2_less, o_p2_more, o_p2_knock, o_p2_pause, o_p2_gap, o_p2_tableTold, o_p2_slipTold, o_p2_timeTold])), (a_p1_bytes, .inl (g.1 0, 320, .inl p1_bytes)), (a_p2_night, .inr (5, [.ref a_p2_night_watched])), (a_p2_night_watched, .inl (g.1 0, 600, .inl p2_night_watched))] H := hP.sub [5, 0, 1, 2, 3, 4] rfl
    have hD : va_D A [(a_t, .inr (6, [.int u8_t_kind, .int u8_t_where])), (a_p1, .inr (9, [.ref a_p1_bytes, .int p1_size, .int p1_at, .int p1_token, .int p1_from, .int p1_value])), (a_p2, .inr (0, [o_p2_letters, o_p2_words, o_p2_weights, o_p2_shorts, o_p2_longs, .ref a_p2_night, .int p2_guards, o_p2_less, o_p2_more, o_p2_knock, o_p2_pause, o_p2_gap, o_p2_tableTold, o_p2_slipTold, o_p2_timeTold])), (a_p1_bytes, .inl (g.1 0, 320, .inl p1_bytes)), (a_p2_night, .inr (5, [.ref a_p2_night_watched])), (a_p2_night_watched, .inl (g.1 0, 600, .inl p2_night_watched))] := hD.sub [5, 0, 1, 2, 3, 4] (by decide) rfl
    obtain ⟨hzb, h⟩ := h
    exact hret r8 _ _ _ _ _ hzb ⟨u8_t_kind, u8_t_where, p1_at, p1_token, p1_from, p1_value, p2_guards, p2_night_watched, rfl, h⟩ hP hD hS dX6_takeGuardLine_18
