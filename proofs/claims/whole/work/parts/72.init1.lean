theorem hdX9_init : yX9_init.cls = RX9 ∧ yX9_init.cls ≠ "java/lang/invoke/MethodHandle" ∧ yX9_init.cls ≠ "java/lang/invoke/VarHandle" ∧ (parseMethodDescriptor yX9_init.desc).map (fun d => d.parameters.length) = some 0 := by decide +kernel
abbrev rmX9_init : Room := { frames := 2, cells := 1, slots := 320, locals := 200 }
set_option maxHeartbeats 8000000 in
set_option maxRecDepth 100000 in
theorem c_X9_init (l : Launch) (D : va_G) (g : gE) (a_t : Nat) : CN l D g yX9_init (.code yX9_init cX9_init 1 none :: wsL_law) rmX9_init [.ref a_t] [(a_t, .inr (9, [.null, .int 0, .int 0, .int 0, .int 0, .int 0]))] 1 320 (fun W' => ∃ (q1 : Nat), W' = [(a_t, .inr (9, [.ref q1, .int 0, .int 0, .int 0, .int 0, .int 0])), (q1, .inl (g.1 0, 320, .inl (fun _ => 0)))]) := by
  refine CN.of (cc := cX9_init) (maxL := 1) (by decide) rfl rfl (Nat.le_of_ble_eq_true rfl) ?_
  intro p e s m args below meth c A Q hx hb hml hts hown hin hA H locs hP hD hS hG hI ls hl hret
  have hown : s.vm.findClass RX9 = some m.cls := hown
  have hl : lv_has ls 1 [(0, .ref a_t)] := hl
  have lk0 := hts (.methodLink RX9 3 objectInit) (List.mem_cons_of_mem _ (inR_3 (List.mem_of_getElem? (i := 8) rfl)))
  have lk1 := hts (.instanceMethod objectInit) (List.mem_cons_of_mem _ (inR_1 (List.mem_of_getElem? (i := 11) rfl)))
  have lk2 := hts (.code objectInit ⟨#[0xb1]⟩ 1 none) (List.mem_cons_of_mem _ (inR_1 (List.mem_of_getElem? (i := 12) rfl)))
  have lk3 := hts (.arrayClass .byte) (List.mem_cons_of_mem _ (inR_3 (List.mem_of_getElem? (i := 9) rfl)))
  have lk4 := hts (.fieldLink RX9 9 "KnockWall$Tape" "bytes" "[B") (List.mem_cons_of_mem _ (inR_3 (List.mem_of_getElem? (i := 10) rfl)))
  refine lv_aload_n hx hb dX9_init_0 rfl (lv_at hl 0 rfl) ?_
  refine W.objInit hx hb hown lk0 lk1 lk2 rfl (by rw [hml]; exact hl.1) rfl dX9_init_1 (Nat.le_of_ble_eq_true rfl) (Nat.le_of_ble_eq_true rfl) ?_
  refine W.eq (g2 := F0 m 4 ls []) rfl ?_
  refine lv_aload_n hx hb dX9_init_4 rfl (lv_at hl 0 rfl) ?_
  refine lv_sipush (v := 320) hx hb dX9_init_5 (by decide) ?_
  refine k_nB hx hb lk3 hG hP hD hS hA 320 (by decide) (by decide) (Nat.le_of_ble_eq_true rfl) (Nat.le_of_ble_eq_true rfl) (Nat.le_of_ble_eq_true rfl) dX9_init_8 (fun q1 H hP hD hS => ?_)
  have hP : va_P D vwCl [(a_t, .inr (9, [.null, .int 0, .int 0, .int 0, .int 0, .int 0])), (q1, .inl (g.1 0, 320, .inl (fun _ => 0)))] H := hP
  have hD : va_D A [(a_t, .inr (9, [.null, .int 0, .int 0, .int 0, .int 0, .int 0])), (q1, .inl (g.1 0, 320, .inl (fun _ => 0)))] := hD
  refine W.widen (k := 1) (n := 320) (by omega) (by omega) ?_
  refine va_putF (ci := 9) (v := .ref q1) (C := RX9) (T := TX9) (N := 6) hx hb hts icX9 tyX9 tyX9_ok nmX9 hown hG.k hP hD hS 0 rfl rfl 0 (by decide) lk4 (fun _ h9 => h9) rfl hin rfl (tyX9_ok 0 (by decide)) rfl rfl (Nat.le_of_ble_eq_true rfl) dX9_init_10 (fun H locs hP hD hS => ?_)
  have hP : va_P D vwCl [(a_t, .inr (9, [.ref q1, .int 0, .int 0, .int 0, .int 0, .int 0])), (q1, .inl (g.1 0, 320, .inl (fun _ => 0)))] H := hP
  have hD : va_D A [(a_t, .inr (9, [.ref q1, .int 0, .int 0, .int 0, .int 0, .int 0])), (q1, .inl (g.1 0, 320, .inl (fun _ => 0)))] := hD
  exact hret _ _ _ _ _ ⟨q1, rfl⟩ hP hD hS dX9_init_13
theorem hdX6_init : yX6_init.cls = RX6 ∧ yX6_init.cls ≠ "java/lang/invoke/MethodHandle" ∧ yX6_init.cls ≠ "java/lang/invoke/VarHandle" ∧ (parseMethodDescriptor yX6_init.desc).map (fun d => d.parameters.length) = some 0 := by decide +kernel
abbrev rmX6_init : Room := { frames := 2, cells := 0, slots := 0, locals := 200 }
set_option maxHeartbeats 8000000 in
set_option maxRecDepth 100000 in
theorem c_X6_init (l : Launch) (D : va_G) (g : gE) (a_t : Nat) : CN l D g yX6_init (.code yX6_init cX6_init 1 none :: wsL_law) rmX6_init [.ref a_t] [(a_t, .inr (6, [.int 0, .int 0]))] 0 0 (fun W' => W' = [(a_t, .inr (6, [.int 0, .int 0]))]) := by
  refine CN.of (cc := cX6_init) (maxL := 1) (by decide) rfl rfl (Nat.le_of_ble_eq_true rfl) ?_
  intro p e s m args below meth c A Q hx hb hml hts hown hin hA H locs hP hD hS hG hI ls hl hret
  have hown : s.vm.findClass RX6 = some m.cls := hown
  have hl : lv_has ls 1 [(0, .ref a_t)] := hl
  have lk0 := hts (.methodLink RX6 3 objectInit) (List.mem_cons_of_mem _ (inR_3 (List.mem_of_getElem? (i := 13) rfl)))
  have lk1 := hts (.instanceMethod objectInit) (List.mem_cons_of_mem _ (inR_1 (List.mem_of_getElem? (i := 11) rfl)))
  have lk2 := hts (.code objectInit ⟨#[0xb1]⟩ 1 none) (List.mem_cons_of_mem _ (inR_1 (List.mem_of_getElem? (i := 12) rfl)))
  refine lv_aload_n hx hb dX6_init_0 rfl (lv_at hl 0 rfl) ?_
  refine W.objInit hx hb hown lk0 lk1 lk2 rfl (by rw [hml]; exact hl.1) rfl dX6_init_1 (Nat.le_of_ble_eq_true rfl) (Nat.le_of_ble_eq_true rfl) ?_
  refine W.eq (g2 := F0 m 4 ls []) rfl ?_
  exact hret _ _ _ _ _ rfl hP hD hS dX6_init_4
theorem hdX2_init : yX2_init.cls = RX2 ∧ yX2_init.cls ≠ "java/lang/invoke/MethodHandle" ∧ yX2_init.cls ≠ "java/lang/invoke/VarHandle" ∧ (parseMethodDescriptor yX2_init.desc).map (fun d => d.parameters.length) = some 0 := by decide +kernel
abbrev rmX2_init : Room := { frames := 2, cells := 4, slots := 85, locals := 200 }
set_option maxHeartbeats 8000000 in
set_option maxRecDepth 100000 in
theorem c_X2_init (l : Launch) (D : va_G) (g : gE) (a_t : Nat) : CN l D g yX2_init (.code yX2_init cX2_init 1 none :: wsL_law) rmX2_init [.ref a_t] [(a_t, .inr (2, [.null, .null, .null, .int 0, .null, .int 0]))] 4 85 (fun W' => ∃ (q1 : Nat) (q2 : Nat) (q3 : Nat) (q4 : Nat), W' = [(a_t, .inr (2, [.ref q1, .ref q2, .ref q3, .int 0, .ref q4, .int 0])), (q1, .inl (g.1 0, 25, .inl (fun _ => 0))), (q2, .inl (g.1 0, 26, .inl (fun _ => 0))), (q3, .inl (g.1 1, 24, .inl (fun _ => 0))), (q4, .inl (g.1 1, 10, .inl (fun _ => 0)))]) := by
  refine CN.of (cc := cX2_init) (maxL := 1) (by decide) rfl rfl (Nat.le_of_ble_eq_true rfl) ?_
  intro p e s m args below meth c A Q hx hb hml hts hown hin hA H locs hP hD hS hG hI ls hl hret
  have hown : s.vm.findClass RX2 = some m.cls := hown
  have hl : lv_has ls 1 [(0, .ref a_t)] := hl
  have lk0 := hts (.methodLink RX2 3 objectInit) (List.mem_cons_of_mem _ (inR_3 (List.mem_of_getElem? (i := 16) rfl)))
  have lk1 := hts (.instanceMethod objectInit) (List.mem_cons_of_mem _ (inR_1 (List.mem_of_getElem? (i := 11) rfl)))
  have lk2 := hts (.code objectInit ⟨#[0xb1]⟩ 1 none) (List.mem_cons_of_mem _ (inR_1 (List.mem_of_getElem? (i := 12) rfl)))
  have lk3 := hts (.arrayClass .byte) (List.mem_cons_of_mem _ (inR_3 (List.mem_of_getElem? (i := 9) rfl)))
  have lk4 := hts (.fieldLink RX2 9 "KnockWall$Image" "letters" "[B") (List.mem_cons_of_mem _ (inR_3 (List.mem_of_getElem? (i := 17) rfl)))
  have lk5 := hts (.fieldLink RX2 15 "KnockWall$Image" "places" "[B") (List.mem_cons_of_mem _ (inR_3 (List.mem_of_getElem? (i := 18) rfl)))
  have lk6 := hts (.arrayClass .int) (List.mem_cons_of_mem _ (inR_2 (List.mem_of_getElem? (i := 20) rfl)))
  have lk7 := hts (.fieldLink RX2 18 "KnockWall$Image" "heardCounts" "[I") (List.mem_cons_of_mem _ (inR_3 (List.mem_of_getElem? (i := 19) rfl)))
  have lk8 := hts (.fieldLink RX2 22 "KnockWall$Image" "knowers" "[I") (List.mem_cons_of_mem _ (inR_3 (List.mem_of_getElem? (i := 20) rfl)))
  refine lv_aload_n hx hb dX2_init_0 rfl (lv_at hl 0 rfl) ?_
  refine W.objInit hx hb hown lk0 lk1 lk2 rfl (by rw [hml]; exact hl.1) rfl dX2_init_1 (Nat.le_of_ble_eq_true rfl) (Nat.le_of_ble_eq_true rfl) ?_
  refine W.eq (g2 := F0 m 4 ls []) rfl ?_
  refine lv_aload_n hx hb dX2_init_4 rfl (lv_at hl 0 rfl) ?_
  refine lv_bipush (v := 25) hx hb dX2_init_5 (by decide) ?_
  refine k_nB hx hb lk3 hG hP hD hS hA 25 (by decide) (by decide) (Nat.le_of_ble_eq_true rfl) (Nat.le_of_ble_eq_true rfl) (Nat.le_of_ble_eq_true rfl) dX2_init_7 (fun q1 H hP hD hS => ?_)
  have hP : va_P D vwCl [(a_t, .inr (2, [.null, .null, .null, .int 0, .null, .int 0])), (q1, .inl (g.1 0, 25, .inl (fun _ => 0)))] H := hP
  have hD : va_D A [(a_t, .inr (2, [.null, .null, .null, .int 0, .null, .int 0])), (q1, .inl (g.1 0, 25, .inl (fun _ => 0)))] := hD
  refine W.widen (k := 1) (n := 25) (by omega) (by omega) ?_
  refine va_putF (ci := 2) (v := .ref q1) (C := RX2) (T := TX2) (N := 6) hx hb hts icX2 tyX2 tyX2_ok nmX2 hown hG.k hP hD hS 0 rfl rfl 0 (by decide) lk4 (fun _ h9 => h9) rfl hin rfl (tyX2_ok 0 (by decide)) rfl rfl (Nat.le_of_ble_eq_true rfl) dX2_init_9 (fun H locs hP hD hS => ?_)
  have hP : va_P D vwCl [(a_t, .inr (2, [.ref q1, .null, .null, .int 0, .null, .int 0])), (q1, .inl (g.1 0, 25, .inl (fun _ => 0)))] H := hP
  have hD : va_D A [(a_t, .inr (2, [.ref q1, .null, .null, .int 0, .null, .int 0])), (q1, .inl (g.1 0, 25, .inl (fun _ => 0)))] := hD
  refine lv_aload_n hx hb dX2_init_12 rfl (lv_at hl 0 rfl) ?_
  refine lv_bipush (v := 26) hx hb dX2_init_13 (by decide) ?_
  refine k_nB hx hb lk3 hG hP hD hS hA 26 (by decide) (by decide) (Nat.le_of_ble_eq_true rfl) (Nat.le_of_ble_eq_true rfl) (Nat.le_of_ble_eq_true rfl) dX2_init_15 (fun q2 H hP hD hS => ?_)
  have hP : va_P D vwCl [(a_t, .inr (2, [.ref q1, .null, .null, .int 0, .null, .int 0])), (q1, .inl (g.1 0, 25, .inl (fun _ => 0))), (q2, .inl (g.1 0, 26, .inl (fun _ => 0)))] H := hP
  have hD : va_D A [(a_t, .inr (2, [.ref q1, .null, .null, .int 0, .null, .int 0])), (q1, .inl (g.1 0, 25, .inl (fun _ => 0))), (q2, .inl (g.1 0, 26, .inl (fun _ => 0)))] := hD
  refine W.widen (k := 2) (n := 51) (by omega) (by omega) ?_
  refine va_putF (ci := 2) (v := .ref q2) (C := RX2) (T := TX2) (N := 6) hx hb hts icX2 tyX2 tyX2_ok nmX2 hown hG.k hP hD hS 0 rfl rfl 1 (by decide) lk5 (fun _ h9 => h9) rfl hin rfl (tyX2_ok 1 (by decide)) rfl rfl (Nat.le_of_ble_eq_true rfl) dX2_init_17 (fun H locs hP hD hS => ?_)
  have hP : va_P D vwCl [(a_t, .inr (2, [.ref q1, .ref q2, .null, .int 0, .null, .int 0])), (q1, .inl (g.1 0, 25, .inl (fun _ => 0))), (q2, .inl (g.1 0, 26, .inl (fun _ => 0)))] H := hP
  have hD : va_D A [(a_t, .inr (2, [.ref q1, .ref q2, .null, .int 0, .null, .int 0])), (q1, .inl (g.1 0, 25, .inl (fun _ => 0))), (q2, .inl (g.1 0, 26, .inl (fun _ => 0)))] := hD
  refine lv_aload_n hx hb dX2_init_20 rfl (lv_at hl 0 rfl) ?_
  refine lv_bipush (v := 24) hx hb dX2_init_21 (by decide) ?_
  refine k_nI hx hb lk6 hG hP hD hS hA 24 (by decide) (by decide) (Nat.le_of_ble_eq_true rfl) (Nat.le_of_ble_eq_true rfl) (Nat.le_of_ble_eq_true rfl) dX2_init_23 (fun q3 H hP hD hS => ?_)
  have hP : va_P D vwCl [(a_t, .inr (2, [.ref q1, .ref q2, .null, .int 0, .null, .int 0])), (q1, .inl (g.1 0, 25, .inl (fun _ => 0))), (q2, .inl (g.1 0, 26, .inl (fun _ => 0))), (q3, .inl (g.1 1, 24, .inl (fun _ => 0)))] H := hP
  have hD : va_D A [(a_t, .inr (2, [.ref q1, .ref q2, .null, .int 0, .null, .int 0])), (q1, .inl (g.1 0, 25, .inl (fun _ => 0))), (q2, .inl (g.1 0, 26, .inl (fun _ => 0))), (q3, .inl (g.1 1, 24, .inl (fun _ => 0)))] := hD
  refine W.widen (k := 3) (n := 75) (by omega) (by omega) ?_
  refine va_putF (ci := 2) (v := .ref q3) (C := RX2) (T := TX2) (N := 6) hx hb hts icX2 tyX2 tyX2_ok nmX2 hown hG.k hP hD hS 0 rfl rfl 2 (by decide) lk7 (fun _ h9 => h9) rfl hin rfl (tyX2_ok 2 (by decide)) rfl rfl (Nat.le_of_ble_eq_true rfl) dX2_init_25 (fun H locs hP hD hS => ?_)
  have hP : va_P D vwCl [(a_t, .inr (2, [.ref q1, .ref q2, .ref q3, .int 0, .null, .int 0])), (q1, .inl (g.1 0, 25, .inl (fun _ => 0))), (q2, .inl (g.1 0, 26, .inl (fun _ => 0))), (q3, .inl (g.1 1, 24, .inl (fun _ => 0)))] H := hP
  have hD : va_D A [(a_t, .inr (2, [.ref q1, .ref q2, .ref q3, .int 0, .null, .int 0])), (q1, .inl (g.1 0, 25, .inl (fun _ => 0))), (q2, .inl (g.1 0, 26, .inl (fun _ => 0))), (q3, .inl (g.1 1, 24, .inl (fun _ => 0)))] := hD
  refine lv_aload_n hx hb dX2_init_28 rfl (lv_at hl 0 rfl) ?_
  refine lv_bipush (v := 10) hx hb dX2_init_29 (by decide) ?_
  refine k_nI hx hb lk6 hG hP hD hS hA 10 (by decide) (by decide) (Nat.le_of_ble_eq_true rfl) (Nat.le_of_ble_eq_true rfl) (Nat.le_of_ble_eq_true rfl) dX2_init_31 (fun q4 H hP hD hS => ?_)
  have hP : va_P D vwCl [(a_t, .inr (2, [.ref q1, .ref q2, .ref q3, .int 0, .null, .int 0])), (q1, .inl (g.1 0, 25, .inl (fun _ => 0))), (q2, .inl (g.1 0, 26, .inl (fun _ => 0))), (q3, .inl (g.1 1, 24, .inl (fun _ => 0))), (q4, .inl (g.1 1, 10, .inl (fun _ => 0)))] H := hP
  have hD : va_D A [(a_t, .inr (2, [.ref q1, .ref q2, .ref q3, .int 0, .null, .int 0])), (q1, .inl (g.1 0, 25, .inl (fun _ => 0))), (q2, .inl (g.1 0, 26, .inl (fun _ => 0))), (q3, .inl (g.1 1, 24, .inl (fun _ => 0))), (q4, .inl (g.1 1, 10, .inl (fun _ => 0)))] := hD
  refine W.widen (k := 4) (n := 85) (by omega) (by omega) ?_
  refine va_putF (ci := 2) (v := .ref q4) (C := RX2) (T := TX2) (N := 6) hx hb hts icX2 tyX2 tyX2_ok nmX2 hown hG.k hP hD hS 0 rfl rfl 4 (by decide) lk8 (fun _ h9 => h9) rfl hin rfl (tyX2_ok 4 (by decide)) rfl rfl (Nat.le_of_ble_eq_true rfl) dX2_init_33 (fun H locs hP hD hS => ?_)
  have hP : va_P D vwCl [(a_t, .inr (2, [.ref q1, .ref q2, .ref q3, .int 0, .ref q4, .int 0])), (q1, .inl (g.1 0, 25, .inl (fun _ => 0))), (q2, .inl (g.1 0, 26, .inl (fun _ => 0))), (q3, .inl (g.1 1, 24, .inl (fun _ => 0))), (q4, .inl (g.1 1, 10, .inl (fun _ => 0)))] H := hP
  have hD : va_D A [(a_t, .inr (2, [.ref q1, .ref q2, .ref q3, .int 0, .ref q4, .int 0])), (q1, .inl (g.1 0, 25, .inl (fun _ => 0))), (q2, .inl (g.1 0, 26, .inl (fun _ => 0))), (q3, .inl (g.1 1, 24, .inl (fun _ => 0))), (q4, .inl (g.1 1, 10, .inl (fun _ => 0)))] := hD
  exact hret _ _ _ _ _ ⟨q1, q2, q3, q4, rfl⟩ hP hD hS dX2_init_36
theorem hdX7_init : yX7_init.cls = RX7 ∧ yX7_init.cls ≠ "java/lang/invoke/MethodHandle" ∧ yX7_init.cls ≠ "java/lang/invoke/VarHandle" ∧ (parseMethodDescriptor yX7_init.desc).map (fun d => d.parameters.length) = some 0 := by decide +kernel
abbrev rmX7_init : Room := { frames := 2, cells := 0, slots := 0, locals := 200 }
set_option maxHeartbeats 8000000 in
set_option maxRecDepth 100000 in
theorem c_X7_init (l : Launch) (D : va_G) (g : gE) (a_t : Nat) : CN l D g yX7_init (.code yX7_init cX7_init 1 none :: wsL_law) rmX7_init [.ref a_t] [(a_t, .inr (7, [.int 0, .int 0, .int 0, .int 0, .int 0, .int 0, .int 0]))] 0 0 (fun W' => W' = [(a_t, .inr (7, [.int 0, .int 0, .int 0, .int 0, .int 0, .int 0, .int 0]))]) := by
  refine CN.of (cc := cX7_init) (maxL := 1) (by decide) rfl rfl (Nat.le_of_ble_eq_true rfl) ?_
  intro p e s m args below meth c A Q hx hb hml hts hown hin hA H locs hP hD hS hG hI ls hl hret
  have hown : s.vm.findClass RX7 = some m.cls := hown
  have hl : lv_has ls 1 [(0, .ref a_t)] := hl
  have lk0 := hts (.methodLink RX7 1 objectInit) (List.mem_cons_of_mem _ (inR_3 (List.mem_of_getElem? (i := 23) rfl)))
  have lk1 := hts (.instanceMethod objectInit) (List.mem_cons_of_mem _ (inR_1 (List.mem_of_getElem? (i := 11) rfl)))
  have lk2 := hts (.code objectInit ⟨#[0xb1]⟩ 1 none) (List.mem_cons_of_mem _ (inR_1 (List.mem_of_getElem? (i := 12) rfl)))
  refine lv_aload_n hx hb dX7_init_0 rfl (lv_at hl 0 rfl) ?_
  refine W.objInit hx hb hown lk0 lk1 lk2 rfl (by rw [hml]; exact hl.1) rfl dX7_init_1 (Nat.le_of_ble_eq_true rfl) (Nat.le_of_ble_eq_true rfl) ?_
  refine W.eq (g2 := F0 m 4 ls []) rfl ?_
  exact hret _ _ _ _ _ rfl hP hD hS dX7_init_4
theorem hdX10_init : yX10_init.cls = RX10 ∧ yX10_init.cls ≠ "java/lang/invoke/MethodHandle" ∧ yX10_init.cls ≠ "java/lang/invoke/VarHandle" ∧ (parseMethodDescriptor yX10_init.desc).map (fun d => d.parameters.length) = some 0 := by decide +kernel
abbrev rmX10_init : Room := { frames := 2, cells := 3, slots := 76, locals := 200 }
set_option maxHeartbeats 8000000 in
set_option maxRecDepth 100000 in
theorem c_X10_init (l : Launch) (D : va_G) (g : gE) (a_t : Nat) : CN l D g yX10_init (.code yX10_init cX10_init 1 none :: wsL_law) rmX10_init [.ref a_t] [(a_t, .inr (10, [.null, .null, .null]))] 3 76 (fun W' => ∃ (q1 : Nat) (q2 : Nat) (q3 : Nat), W' = [(a_t, .inr (10, [.ref q1, .ref q2, .ref q3])), (q1, .inl (g.1 1, 26, .inl (fun _ => 0))), (q2, .inl (g.1 0, 25, .inl (fun _ => 0))), (q3, .inl (g.1 0, 25, .inl (fun _ => 0)))]) := by
  refine CN.of (cc := cX10_init) (maxL := 1) (by decide) rfl rfl (Nat.le_of_ble_eq_true rfl) ?_
  intro p e s m args below meth c A Q hx hb hml hts hown hin hA H locs hP hD hS hG hI ls hl hret
  have hown : s.vm.findClass RX10 = some m.cls := hown
  have hl : lv_has ls 1 [(0, .ref a_t)] := hl
  have lk0 := hts (.methodLink RX10 3 objectInit) (List.mem_cons_of_mem _ (inR_4 (List.mem_of_getElem? (i := 2) rfl)))
  have lk1 := hts (.instanceMethod objectInit) (List.mem_cons_of_mem _ (inR_1 (List.mem_of_getElem? (i := 11) rfl)))
  have lk2 := hts (.code objectInit ⟨#[0xb1]⟩ 1 none) (List.mem_cons_of_mem _ (inR_1 (List.mem_of_getElem? (i := 12) rfl)))
  have lk3 := hts (.arrayClass .int) (List.mem_cons_of_mem _ (inR_2 (List.mem_of_getElem? (i := 20) rfl)))
  have lk4 := hts (.fieldLink RX10 9 "KnockWall$Tongue" "often" "[I") (List.mem_cons_of_mem _ (inR_4 (List.mem_of_getElem? (i := 3) rfl)))
  have lk5 := hts (.arrayClass .byte) (List.mem_cons_of_mem _ (inR_3 (List.mem_of_getElem? (i := 9) rfl)))
  have lk6 := hts (.fieldLink RX10 15 "KnockWall$Tongue" "sorted" "[B") (List.mem_cons_of_mem _ (inR_4 (List.mem_of_getElem? (i := 4) rfl)))
  have lk7 := hts (.fieldLink RX10 19 "KnockWall$Tongue" "ideal" "[B") (List.mem_cons_of_mem _ (inR_4 (List.mem_of_getElem? (i := 5) rfl)))
  refine lv_aload_n hx hb dX10_init_0 rfl (lv_at hl 0 rfl) ?_
  refine W.objInit hx hb hown lk0 lk1 lk2 rfl (by rw [hml]; exact hl.1) rfl dX10_init_1 (Nat.le_of_ble_eq_true rfl) (Nat.le_of_ble_eq_true rfl) ?_
  refine W.eq (g2 := F0 m 4 ls []) rfl ?_
  refine lv_aload_n hx hb dX10_init_4 rfl (lv_at hl 0 rfl) ?_
  refine lv_bipush (v := 26) hx hb dX10_init_5 (by decide) ?_
  refine k_nI hx hb lk3 hG hP hD hS hA 26 (by decide) (by decide) (Nat.le_of_ble_eq_true rfl) (Nat.le_of_ble_eq_true rfl) (Nat.le_of_ble_eq_true rfl) dX10_init_7 (fun q1 H hP hD hS => ?_)
  have hP : va_P D vwCl [(a_t, .inr (10, [.null, .null, .null])), (q1, .inl (g.1 1, 26, .inl (fun _ => 0)))] H := hP
  have hD : va_D A [(a_t, .inr (10, [.null, .null, .null])), (q1, .inl (g.1 1, 26, .inl (fun _ => 0)))] := hD
  refine W.widen (k := 1) (n := 26) (by omega) (by omega) ?_
  refine va_putF (ci := 10) (v := .ref q1) (C := RX10) (T := TX10) (N := 3) hx hb hts icX10 tyX10 tyX10_ok nmX10 hown hG.k hP hD hS 0 rfl rfl 0 (by decide) lk4 (fun _ h9 => h9) rfl hin rfl (tyX10_ok 0 (by decide)) rfl rfl (Nat.le_of_ble_eq_true rfl) dX10_init_9 (fun H locs hP hD hS => ?_)
  have hP : va_P D vwCl [(a_t, .inr (10, [.ref q1, .null, .null])), (q1, .inl (g.1 1, 26, .inl (fun _ => 0)))] H := hP
  have hD : va_D A [(a_t, .inr (10, [.ref q1, .null, .null])), (q1, .inl (g.1 1, 26, .inl (fun _ => 0)))] := hD
  refine lv_aload_n hx hb dX10_init_12 rfl (lv_at hl 0 rfl) ?_
  refine lv_bipush (v := 25) hx hb dX10_init_13 (by decide) ?_
  refine k_nB hx hb lk5 hG hP hD hS hA 25 (by decide) (by decide) (Nat.le_of_ble_eq_true rfl) (Nat.le_of_ble_eq_true rfl) (Nat.le_of_ble_eq_true rfl) dX10_init_15 (fun q2 H hP hD hS => ?_)
  have hP : va_P D vwCl [(a_t, .inr (10, [.ref q1, .null, .null])), (q1, .inl (g.1 1, 26, .inl (fun _ => 0))), (q2, .inl (g.1 0, 25, .inl (fun _ => 0)))] H := hP
  have hD : va_D A [(a_t, .inr (10, [.ref q1, .null, .null])), (q1, .inl (g.1 1, 26, .inl (fun _ => 0))), (q2, .inl (g.1 0, 25, .inl (fun _ => 0)))] := hD
  refine W.widen (k := 2) (n := 51) (by omega) (by omega) ?_
  refine va_putF (ci := 10) (v := .ref q2) (C := RX10) (T := TX10) (N := 3) hx hb hts icX10 tyX10 tyX10_ok nmX10 hown hG.k hP hD hS 0 rfl rfl 1 (by decide) lk6 (fun _ h9 => h9) rfl hin rfl (tyX10_ok 1 (by decide)) rfl rfl (Nat.le_of_ble_eq_true rfl) dX10_init_17 (fun H locs hP hD hS => ?_)
  have hP : va_P D vwCl [(a_t, .inr (10, [.ref q1, .ref q2, .null])), (q1, .inl (g.1 1, 26, .inl (fun _ => 0))), (q2, .inl (g.1 0, 25, .inl (fun _ => 0)))] H := hP
  have hD : va_D A [(a_t, .inr (10, [.ref q1, .ref q2, .null])), (q1, .inl (g.1 1, 26, .inl (fun _ => 0))), (q2, .inl (g.1 0, 25, .inl (fun _ => 0)))] := hD
  refine lv_aload_n hx hb dX10_init_20 rfl (lv_at hl 0 rfl) ?_
  refine lv_bipush (v := 25) hx hb dX10_init_21 (by decide) ?_
  refine k_nB hx hb lk5 hG hP hD hS hA 25 (by decide) (by decide) (Nat.le_of_ble_eq_true rfl) (Nat.le_of_ble_eq_true rfl) (Nat.le_of_ble_eq_true rfl) dX10_init_23 (fun q3 H hP hD hS => ?_)
  have hP : va_P D vwCl [(a_t, .inr (10, [.ref q1, .ref q2, .null])), (q1, .inl (g.1 1, 26, .inl (fun _ => 0))), (q2, .inl (g.1 0, 25, .inl (fun _ => 0))), (q3, .inl (g.1 0, 25, .inl (fun _ => 0)))] H := hP
  have hD : va_D A [(a_t, .inr (10, [.ref q1, .ref q2, .null])), (q1, .inl (g.1 1, 26, .inl (fun _ => 0))), (q2, .inl (g.1 0, 25, .inl (fun _ => 0))), (q3, .inl (g.1 0, 25, .inl (fun _ => 0)))] := hD
  refine W.widen (k := 3) (n := 76) (by omega) (by omega) ?_
  refine va_putF (ci := 10) (v := .ref q3) (C := RX10) (T := TX10) (N := 3) hx hb hts icX10 tyX10 tyX10_ok nmX10 hown hG.k hP hD hS 0 rfl rfl 2 (by decide) lk7 (fun _ h9 => h9) rfl hin rfl (tyX10_ok 2 (by decide)) rfl rfl (Nat.le_of_ble_eq_true rfl) dX10_init_25 (fun H locs hP hD hS => ?_)
  have hP : va_P D vwCl [(a_t, .inr (10, [.ref q1, .ref q2, .ref q3])), (q1, .inl (g.1 1, 26, .inl (fun _ => 0))), (q2, .inl (g.1 0, 25, .inl (fun _ => 0))), (q3, .inl (g.1 0, 25, .inl (fun _ => 0)))] H := hP
  have hD : va_D A [(a_t, .inr (10, [.ref q1, .ref q2, .ref q3])), (q1, .inl (g.1 1, 26, .inl (fun _ => 0))), (q2, .inl (g.1 0, 25, .inl (fun _ => 0))), (q3, .inl (g.1 0, 25, .inl (fun _ => 0)))] := hD
  exact hret _ _ _ _ _ ⟨q1, q2, q3, rfl⟩ hP hD hS dX10_init_28
theorem hdX3_init : yX3_init.cls = RX3 ∧ yX3_init.cls ≠ "java/lang/invoke/MethodHandle" ∧ yX3_init.cls ≠ "java/lang/invoke/VarHandle" ∧ (parseMethodDescriptor yX3_init.desc).map (fun d => d.parameters.length) = some 0 := by decide +kernel
abbrev rmX3_init : Room := { frames := 2, cells := 2, slots := 10, locals := 200 }
set_option maxHeartbeats 8000000 in
set_option maxRecDepth 100000 in
theorem c_X3_init (l : Launch) (D : va_G) (g : gE) (a_t : Nat) : CN l D g yX3_init (.code yX3_init cX3_init 1 none :: wsL_law) rmX3_init [.ref a_t] [(a_t, .inr (3, [.null, .null]))] 2 10 (fun W' => ∃ (q1 : Nat) (q2 : Nat), W' = [(a_t, .inr (3, [.ref q1, .ref q2])), (q1, .inl (g.1 2, 5, .inr (.inl (fun _ => 0)))), (q2, .inl (g.1 2, 5, .inr (.inl (fun _ => 0))))]) := by
  refine CN.of (cc := cX3_init) (maxL := 1) (by decide) rfl rfl (Nat.le_of_ble_eq_true rfl) ?_
  intro p e s m args below meth c A Q hx hb hml hts hown hin hA H locs hP hD hS hG hI ls hl hret
  have hown : s.vm.findClass RX3 = some m.cls := hown
  have hl : lv_has ls 1 [(0, .ref a_t)] := hl
  have lk0 := hts (.methodLink RX3 3 objectInit) (List.mem_cons_of_mem _ (inR_4 (List.mem_of_getElem? (i := 17) rfl)))
  have lk1 := hts (.instanceMethod objectInit) (List.mem_cons_of_mem _ (inR_1 (List.mem_of_getElem? (i := 11) rfl)))
  have lk2 := hts (.code objectInit ⟨#[0xb1]⟩ 1 none) (List.mem_cons_of_mem _ (inR_1 (List.mem_of_getElem? (i := 12) rfl)))
  have lk3 := hts (.arrayClass .long) (List.mem_cons_of_mem _ (inR_4 (List.mem_of_getElem? (i := 9) rfl)))
  have lk4 := hts (.fieldLink RX3 9 "KnockWall$Mouths" "ways" "[J") (List.mem_cons_of_mem _ (inR_4 (List.mem_of_getElem? (i := 18) rfl)))
  have lk5 := hts (.fieldLink RX3 15 "KnockWall$Mouths" "next" "[J") (List.mem_cons_of_mem _ (inR_4 (List.mem_of_getElem? (i := 19) rfl)))
  refine lv_aload_n hx hb dX3_init_0 rfl (lv_at hl 0 rfl) ?_
  refine W.objInit hx hb hown lk0 lk1 lk2 rfl (by rw [hml]; exact hl.1) rfl dX3_init_1 (Nat.le_of_ble_eq_true rfl) (Nat.le_of_ble_eq_true rfl) ?_
  refine W.eq (g2 := F0 m 4 ls []) rfl ?_
  refine lv_aload_n hx hb dX3_init_4 rfl (lv_at hl 0 rfl) ?_
  refine lv_iconst (v := 5) hx hb dX3_init_5 (by decide) ?_
  refine k_nJ hx hb lk3 hG hP hD hS hA 5 (by decide) (by decide) (Nat.le_of_ble_eq_true rfl) (Nat.le_of_ble_eq_true rfl) (Nat.le_of_ble_eq_true rfl) dX3_init_6 (fun q1 H hP hD hS => ?_)
  have hP : va_P D vwCl [(a_t, .inr (3, [.null, .null])), (q1, .inl (g.1 2, 5, .inr (.inl (fun _ => 0))))] H := hP
  have hD : va_D A [(a_t, .inr (3, [.null, .null])), (q1, .inl (g.1 2, 5, .inr (.inl (fun _ => 0))))] := hD
  refine W.widen (k := 1) (n := 5) (by omega) (by omega) ?_
  refine va_putF (ci := 3) (v := .ref q1) (C := RX3) (T := TX3) (N := 2) hx hb hts icX3 tyX3 tyX3_ok nmX3 hown hG.k hP hD hS 0 rfl rfl 0 (by decide) lk4 (fun _ h9 => h9) rfl hin rfl (tyX3_ok 0 (by decide)) rfl rfl (Nat.le_of_ble_eq_true rfl) dX3_init_8 (fun H locs hP hD hS => ?_)
  have hP : va_P D vwCl [(a_t, .inr (3, [.ref q1, .null])), (q1, .inl (g.1 2, 5, .inr (.inl (fun _ => 0))))] H := hP
  have hD : va_D A [(a_t, .inr (3, [.ref q1, .null])), (q1, .inl (g.1 2, 5, .inr (.inl (fun _ => 0))))] := hD
  refine lv_aload_n hx hb dX3_init_11 rfl (lv_at hl 0 rfl) ?_
  refine lv_iconst (v := 5) hx hb dX3_init_12 (by decide) ?_
  refine k_nJ hx hb lk3 hG hP hD hS hA 5 (by decide) (by decide) (Nat.le_of_ble_eq_true rfl) (Nat.le_of_ble_eq_true rfl) (Nat.le_of_ble_eq_true rfl) dX3_init_13 (fun q2 H hP hD hS => ?_)
  have hP : va_P D vwCl [(a_t, .inr (3, [.ref q1, .null])), (q1, .inl (g.1 2, 5, .inr (.inl (fun _ => 0)))), (q2, .inl (g.1 2, 5, .inr (.inl (fun _ => 0))))] H := hP
  have hD : va_D A [(a_t, .inr (3, [.ref q1, .null])), (q1, .inl (g.1 2, 5, .inr (.inl (fun _ => 0)))), (q2, .inl (g.1 2, 5, .inr (.inl (fun _ => 0))))] := hD
  refine W.widen (k := 2) (n := 10) (by omega) (by omega) ?_
  refine va_putF (ci := 3) (v := .ref q2) (C := RX3) (T := TX3) (N := 2) hx hb hts icX3 tyX3 tyX3_ok nmX3 hown hG.k hP hD hS 0 rfl rfl 1 (by decide) lk5 (fun _ h9 => h9) rfl hin rfl (tyX3_ok 1 (by decide)) rfl rfl (Nat.le_of_ble_eq_true rfl) dX3_init_15 (fun H locs hP hD hS => ?_)
  have hP : va_P D vwCl [(a_t, .inr (3, [.ref q1, .ref q2])), (q1, .inl (g.1 2, 5, .inr (.inl (fun _ => 0)))), (q2, .inl (g.1 2, 5, .inr (.inl (fun _ => 0))))] H := hP
  have hD : va_D A [(a_t, .inr (3, [.ref q1, .ref q2])), (q1, .inl (g.1 2, 5, .inr (.inl (fun _ => 0)))), (q2, .inl (g.1 2, 5, .inr (.inl (fun _ => 0))))] := hD
  exact hret _ _ _ _ _ ⟨q1, q2, rfl⟩ hP hD hS dX3_init_18
theorem hdX5_init : yX5_init.cls = RX5 ∧ yX5_init.cls ≠ "java/lang/invoke/MethodHandle" ∧ yX5_init.cls ≠ "java/lang/invoke/VarHandle" ∧ (parseMethodDescriptor yX5_init.desc).map (fun d => d.parameters.length) = some 0 := by decide +kernel
abbrev rmX5_init : Room := { frames := 2, cells := 1, slots := 600, locals := 200 }
set_option maxHeartbeats 8000000 in
set_option maxRecDepth 100000 in
theorem c_X5_init (l : Launch) (D : va_G) (g : gE) (a_t : Nat) : CN l D g yX5_init (.code yX5_init cX5_init 1 none :: wsL_law) rmX5_init [.ref a_t] [(a_t, .inr (5, [.null]))] 1 600 (fun W' => ∃ (q1 : Nat), W' = [(a_t, .inr (5, [.ref q1])), (q1, .inl (g.1 0, 600, .inl (fun _ => 0)))]) := by
  refine CN.of (cc := cX5_init) (maxL := 1) (by decide) rfl rfl (Nat.le_of_ble_eq_true rfl) ?_
  intro p e s m args below meth c A Q hx hb hml hts hown hin hA H locs hP hD hS hG hI ls hl hret
  have hown : s.vm.findClass RX5 = some m.cls := hown
  have hl : lv_has ls 1 [(0, .ref a_t)] := hl
  have lk0 := hts (.methodLink RX5 3 objectInit) (List.mem_cons_of_mem _ (inR_5 (List.mem_of_getElem? (i := 22) rfl)))
  have lk1 := hts (.instanceMethod objectInit) (List.mem_cons_of_mem _ (inR_1 (List.mem_of_getElem? (i := 11) rfl)))
  have lk2 := hts (.code objectInit ⟨#[0xb1]⟩ 1 none) (List.mem_cons_of_mem _ (inR_1 (List.mem_of_getElem? (i := 12) rfl)))
  have lk3 := hts (.arrayClass .byte) (List.mem_cons_of_mem _ (inR_3 (List.mem_of_getElem? (i := 9) rfl)))
  have lk4 := hts (.fieldLink RX5 9 "KnockWall$Night" "watched" "[B") (List.mem_cons_of_mem _ (inR_5 (List.mem_of_getElem? (i := 23) rfl)))
  refine lv_aload_n hx hb dX5_init_0 rfl (lv_at hl 0 rfl) ?_
  refine W.objInit hx hb hown lk0 lk1 lk2 rfl (by rw [hml]; exact hl.1) rfl dX5_init_1 (Nat.le_of_ble_eq_true rfl) (Nat.le_of_ble_eq_true rfl) ?_
  refine W.eq (g2 := F0 m 4 ls []) rfl ?_
  refine lv_aload_n hx hb dX5_init_4 rfl (lv_at hl 0 rfl) ?_
  refine lv_sipush (v := 600) hx hb dX5_init_5 (by decide) ?_
  refine k_nB hx hb lk3 hG hP hD hS hA 600 (by decide) (by decide) (Nat.le_of_ble_eq_true rfl) (Nat.le_of_ble_eq_true rfl) (Nat.le_of_ble_eq_true rfl) dX5_init_8 (fun q1 H hP hD hS => ?_)
  have hP : va_P D vwCl [(a_t, .inr (5, [.null])), (q1, .inl (g.1 0, 600, .inl (fun _ => 0)))] H := hP
  have hD : va_D A [(a_t, .inr (5, [.null])), (q1, .inl (g.1 0, 600, .inl (fun _ => 0)))] := hD
  refine W.widen (k := 1) (n := 600) (by omega) (by omega) ?_
  refine va_putF (ci := 5) (v := .ref q1) (C := RX5) (T := TX5) (N := 1) hx hb hts icX5 tyX5 tyX5_ok nmX5 hown hG.k hP hD hS 0 rfl rfl 0 (by decide) lk4 (fun _ h9 => h9) rfl hin rfl (tyX5_ok 0 (by decide)) rfl rfl (Nat.le_of_ble_eq_true rfl) dX5_init_10 (fun H locs hP hD hS => ?_)
  have hP : va_P D vwCl [(a_t, .inr (5, [.ref q1])), (q1, .inl (g.1 0, 600, .inl (fun _ => 0)))] H := hP
  have hD : va_D A [(a_t, .inr (5, [.ref q1])), (q1, .inl (g.1 0, 600, .inl (fun _ => 0)))] := hD
  exact hret _ _ _ _ _ ⟨q1, rfl⟩ hP hD hS dX5_init_13
theorem hdX8_init : yX8_init.cls = RX8 ∧ yX8_init.cls ≠ "java/lang/invoke/MethodHandle" ∧ yX8_init.cls ≠ "java/lang/invoke/VarHandle" ∧ (parseMethodDescriptor yX8_init.desc).map (fun d => d.parameters.length) = some 0 := by decide +kernel
abbrev rmX8_init : Room := { frames := 2, cells := 1, slots := 40, locals := 200 }
set_option maxHeartbeats 8000000 in
set_option maxRecDepth 100000 in
theorem c_X8_init (l : Launch) (D : va_G) (g : gE) (a_t : Nat) : CN l D g yX8_init (.code yX8_init cX8_init 1 none :: wsL_law) rmX8_init [.ref a_t] [(a_t, .inr (8, [.null, .int 0, .int 0]))] 1 40 (fun W' => ∃ (q1 : Nat), W' = [(a_t, .inr (8, [.ref q1, .int (-1), .int 0])), (q1, .inl (g.1 1, 40, .inl (fun _ => 0)))]) := by
  refine CN.of (cc := cX8_init) (maxL := 1) (by decide) rfl rfl (Nat.le_of_ble_eq_true rfl) ?_
  intro p e s m args below meth c A Q hx hb hml hts hown hin hA H locs hP hD hS hG hI ls hl hret
  have hown : s.vm.findClass RX8 = some m.cls := hown
  have hl : lv_has ls 1 [(0, .ref a_t)] := hl
  have lk0 := hts (.methodLink RX8 3 objectInit) (List.mem_cons_of_mem _ (inR_6 (List.mem_of_getElem? (i := 2) rfl)))
  have lk1 := hts (.instanceMethod objectInit) (List.mem_cons_of_mem _ (inR_1 (List.mem_of_getElem? (i := 11) rfl)))
  have lk2 := hts (.code objectInit ⟨#[0xb1]⟩ 1 none) (List.mem_cons_of_mem _ (inR_1 (List.mem_of_getElem? (i := 12) rfl)))
  have lk3 := hts (.arrayClass .int) (List.mem_cons_of_mem _ (inR_2 (List.mem_of_getElem? (i := 20) rfl)))
  have lk4 := hts (.fieldLink RX8 9 "KnockWall$Sheet" "cells" "[I") (List.mem_cons_of_mem _ (inR_6 (List.mem_of_getElem? (i := 3) rfl)))
  have lk5 := hts (.fieldLink RX8 15 "KnockWall$Sheet" "lane" "I") (List.mem_cons_of_mem _ (inR_6 (List.mem_of_getElem? (i := 4) rfl)))
  refine lv_aload_n hx hb dX8_init_0 rfl (lv_at hl 0 rfl) ?_
  refine W.objInit hx hb hown lk0 lk1 lk2 rfl (by rw [hml]; exact hl.1) rfl dX8_init_1 (Nat.le_of_ble_eq_true rfl) (Nat.le_of_ble_eq_true rfl) ?_
  refine W.eq (g2 := F0 m 4 ls []) rfl ?_
  refine lv_aload_n hx hb dX8_init_4 rfl (lv_at hl 0 rfl) ?_
  refine lv_bipush (v := 40) hx hb dX8_init_5 (by decide) ?_
  refine k_nI hx hb lk3 hG hP hD hS hA 40 (by decide) (by decide) (Nat.le_of_ble_eq_true rfl) (Nat.le_of_ble_eq_true rfl) (Nat.le_of_ble_eq_true rfl) dX8_init_7 (fun q1 H hP hD hS => ?_)
  have hP : va_P D vwCl [(a_t, .inr (8, [.null, .int 0, .int 0])), (q1, .inl (g.1 1, 40, .inl (fun _ => 0)))] H := hP
  have hD : va_D A [(a_t, .inr (8, [.null, .int 0, .int 0])), (q1, .inl (g.1 1, 40, .inl (fun _ => 0)))] := hD
  refine W.widen (k := 1) (n := 40) (by omega) (by omega) ?_
  refine va_putF (ci := 8) (v := .ref q1) (C := RX8) (T := TX8) (N := 3) hx hb hts icX8 tyX8 tyX8_ok nmX8 hown hG.k hP hD hS 0 rfl rfl 0 (by decide) lk4 (fun _ h9 => h9) rfl hin rfl (tyX8_ok 0 (by decide)) rfl rfl (Nat.le_of_ble_eq_true rfl) dX8_init_9 (fun H locs hP hD hS => ?_)
  have hP : va_P D vwCl [(a_t, .inr (8, [.ref q1, .int 0, .int 0])), (q1, .inl (g.1 1, 40, .inl (fun _ => 0)))] H := hP
  have hD : va_D A [(a_t, .inr (8, [.ref q1, .int 0, .int 0])), (q1, .inl (g.1 1, 40, .inl (fun _ => 0)))] := hD
  refine lv_aload_n hx hb dX8_init_12 rfl (lv_at hl 0 rfl) ?_
  refine lv_iconst (v := (-1)) hx hb dX8_init_13 (by decide) ?_
  refine va_put (ci := 8) (v := .int (-1)) (C := RX8) (T := TX8) (N := 3) hx hb hts icX8 tyX8 tyX8_ok nmX8 hown hG.k hP hD hS 0 rfl rfl 1 (by decide) lk5 (fun _ h9 => h9) rfl (tyX8_ok 1 (by decide)) rfl rfl (Nat.le_of_ble_eq_true rfl) dX8_init_14 (fun H locs hP hD hS => ?_)
  have hP : va_P D vwCl [(a_t, .inr (8, [.ref q1, .int (-1), .int 0])), (q1, .inl (g.1 1, 40, .inl (fun _ => 0)))] H := hP
  have hD : va_D A [(a_t, .inr (8, [.ref q1, .int (-1), .int 0])), (q1, .inl (g.1 1, 40, .inl (fun _ => 0)))] := hD
  exact hret _ _ _ _ _ ⟨q1, rfl⟩ hP hD hS dX8_init_17
theorem hdX4_init : yX4_init.cls = RX4 ∧ yX4_init.cls ≠ "java/lang/invoke/MethodHandle" ∧ yX4_init.cls ≠ "java/lang/invoke/VarHandle" ∧ (parseMethodDescriptor yX4_init.desc).map (fun d => d.parameters.length) = some 2 := by decide +kernel
abbrev rmX4_init_10_8 : Room := { frames := 2, cells := 3, slots := 100, locals := 200 }
set_option maxHeartbeats 8000000 in
set_option maxRecDepth 100000 in
theorem c_X4_init_10_8 (l : Launch) (D : va_G) (g : gE) (a_t : Nat) : CN l D g yX4_init (.code yX4_init cX4_init 3 none :: wsL_law) rmX4_init_10_8 [.ref a_t, .int 10, .int 8] [(a_t, .inr (4, [.int 0, .int 0, .null, .null, .null, .int 0]))] 3 100 (fun W' => ∃ (q1 : Nat) (q2 : Nat) (q3 : Nat), W' = [(a_t, .inr (4, [.int 10, .int 8, .ref q1, .ref q2, .ref q3, .int 0])), (q1, .inl (g.1 0, 80, .inl (fun _ => 0))), (q2, .inl (g.1 1, 10, .inl (fun _ => 0))), (q3, .inl (g.1 1, 10, .inl (fun _ => 0)))]) := by
  refine CN.of (cc := cX4_init) (maxL := 3) (by decide) rfl rfl (Nat.le_of_ble_eq_true rfl) ?_
  intro p e s m args below meth c A Q hx hb hml hts hown hin hA H locs hP hD hS hG hI ls hl hret
  have hown : s.vm.findClass RX4 = some m.cls := hown
  have hl : lv_has ls 3 [(0, .ref a_t), (1, .int 10), (2, .int 8)] := hl
  have lk0 := hts (.methodLink RX4 1 objectInit) (List.mem_cons_of_mem _ (inR_5 (List.mem_of_getElem? (i := 14) rfl)))
  have lk1 := hts (.instanceMethod objectInit) (List.mem_cons_of_mem _ (inR_1 (List.mem_of_getElem? (i := 11) rfl)))
  have lk2 := hts (.code objectInit ⟨#[0xb1]⟩ 1 none) (List.mem_cons_of_mem _ (inR_1 (List.mem_of_getElem? (i := 12) rfl)))
  have lk3 := hts (.fieldLink RX4 7 "KnockWall$Names" "most" "I") (List.mem_cons_of_mem _ (inR_5 (List.mem_of_getElem? (i := 15) rfl)))
  have lk4 := hts (.fieldLink RX4 13 "KnockWall$Names" "width" "I") (List.mem_cons_of_mem _ (inR_5 (List.mem_of_getElem? (i := 16) rfl)))
  have lk5 := hts (.arrayClass .byte) (List.mem_cons_of_mem _ (inR_3 (List.mem_of_getElem? (i := 9) rfl)))
  have lk6 := hts (.fieldLink RX4 16 "KnockWall$Names" "letters" "[B") (List.mem_cons_of_mem _ (inR_5 (List.mem_of_getElem? (i := 17) rfl)))
  have lk7 := hts (.arrayClass .int) (List.mem_cons_of_mem _ (inR_2 (List.mem_of_getElem? (i := 20) rfl)))
  have lk8 := hts (.fieldLink RX4 20 "KnockWall$Names" "lengths" "[I") (List.mem_cons_of_mem _ (inR_5 (List.mem_of_getElem? (i := 18) rfl)))
  have lk9 := hts (.fieldLink RX4 24 "KnockWall$Names" "masks" "[I") (List.mem_cons_of_mem _ (inR_5 (List.mem_of_getElem? (i := 19) rfl)))
  refine lv_aload_n hx hb dX4_init_0 rfl (lv_at hl 0 rfl) ?_
  refine W.objInit hx hb hown lk0 lk1 lk2 rfl (by rw [hml]; exact hl.1) rfl dX4_init_1 (Nat.le_of_ble_eq_true rfl) (Nat.le_of_ble_eq_true rfl) ?_
  refine W.eq (g2 := F0 m 4 ls []) rfl ?_
  refine lv_aload_n hx hb dX4_init_4 rfl (lv_at hl 0 rfl) ?_
  refine lv_iload_n hx hb dX4_init_5 rfl (lv_at hl 1 rfl) ?_
  refine va_putF (ci := 4) (v := .int 10) (C := RX4) (T := TX4) (N := 6) hx hb hts icX4 tyX4 tyX4_ok nmX4 hown hG.k hP hD hS 0 rfl rfl 0 (by decide) lk3 (fun _ h9 => h9) rfl hin rfl (tyX4_ok 0 (by decide)) rfl rfl (Nat.le_of_ble_eq_true rfl) dX4_init_6 (fun H locs hP hD hS => ?_)
  have hP : va_P D vwCl [(a_t, .inr (4, [.int 10, .int 0, .null, .null, .null, .int 0]))] H := hP
  have hD : va_D A [(a_t, .inr (4, [.int 10, .int 0, .null, .null, .null, .int 0]))] := hD
  refine lv_aload_n hx hb dX4_init_9 rfl (lv_at hl 0 rfl) ?_
  refine lv_iload_n hx hb dX4_init_10 rfl (lv_at hl 2 rfl) ?_
  refine va_putF (ci := 4) (v := .int 8) (C := RX4) (T := TX4) (N := 6) hx hb hts icX4 tyX4 tyX4_ok nmX4 hown hG.k hP hD hS 0 rfl rfl 1 (by decide) lk4 (fun _ h9 => h9) rfl hin rfl (tyX4_ok 1 (by decide)) rfl rfl (Nat.le_of_ble_eq_true rfl) dX4_init_11 (fun H locs hP hD hS => ?_)
  have hP : va_P D vwCl [(a_t, .inr (4, [.int 10, .int 8, .null, .null, .null, .int 0]))] H := hP
  have hD : va_D A [(a_t, .inr (4, [.int 10, .int 8, .null, .null, .null, .int 0]))] := hD
  refine lv_aload_n hx hb dX4_init_14 rfl (lv_at hl 0 rfl) ?_
  refine lv_iload_n hx hb dX4_init_15 rfl (lv_at hl 1 rfl) ?_
  refine lv_iload_n hx hb dX4_init_16 rfl (lv_at hl 2 rfl) ?_
  refine lv_imul hx hb dX4_init_17 ?_
  rw [show (10 : Int32) * 8 = 80 by decide]
  refine k_nB hx hb lk5 hG hP hD hS hA 80 (by decide) (by decide) (Nat.le_of_ble_eq_true rfl) (Nat.le_of_ble_eq_true rfl) (Nat.le_of_ble_eq_true rfl) dX4_init_18 (fun q1 H hP hD hS => ?_)
  have hP : va_P D vwCl [(a_t, .inr (4, [.int 10, .int 8, .null, .null, .null, .int 0])), (q1, .inl (g.1 0, 80, .inl (fun _ => 0)))] H := hP
  have hD : va_D A [(a_t, .inr (4, [.int 10, .int 8, .null, .null, .null, .int 0])), (q1, .inl (g.1 0, 80, .inl (fun _ => 0)))] := hD
  refine W.widen (k := 1) (n := 80) (by omega) (by omega) ?_
  refine va_putF (ci := 4) (v := .ref q1) (C := RX4) (T := TX4) (N := 6) hx hb hts icX4 tyX4 tyX4_ok nmX4 hown hG.k hP hD hS 0 rfl rfl 2 (by decide) lk6 (fun _ h9 => h9) rfl hin rfl (tyX4_ok 2 (by decide)) rfl rfl (Nat.le_of_ble_eq_true rfl) dX4_init_20 (fun H locs hP hD hS => ?_)
  have hP : va_P D vwCl [(a_t, .inr (4, [.int 10, .int 8, .ref q1, .null, .null, .int 0])), (q1, .inl (g.1 0, 80, .inl (fun _ => 0)))] H := hP
  have hD : va_D A [(a_t, .inr (4, [.int 10, .int 8, .ref q1, .null, .null, .int 0])), (q1, .inl (g.1 0, 80, .inl (fun _ => 0)))] := hD
  refine lv_aload_n hx hb dX4_init_23 rfl (lv_at hl 0 rfl) ?_
  refine lv_iload_n hx hb dX4_init_24 rfl (lv_at hl 1 rfl) ?_
  refine k_nI hx hb lk7 hG hP hD hS hA 10 (by decide) (by decide) (Nat.le_of_ble_eq_true rfl) (Nat.le_of_ble_eq_true rfl) (Nat.le_of_ble_eq_true rfl) dX4_init_25 (fun q2 H hP hD hS => ?_)
  have hP : va_P D vwCl [(a_t, .inr (4, [.int 10, .int 8, .ref q1, .null, .null, .int 0])), (q1, .inl (g.1 0, 80, .inl (fun _ => 0))), (q2, .inl (g.1 1, 10, .inl (fun _ => 0)))] H := hP
  have hD : va_D A [(a_t, .inr (4, [.int 10, .int 8, .ref q1, .null, .null, .int 0])), (q1, .inl (g.1 0, 80, .inl (fun _ => 0))), (q2, .inl (g.1 1, 10, .inl (fun _ => 0)))] := hD
  refine W.widen (k := 2) (n := 90) (by omega) (by omega) ?_
  refine va_putF (ci := 4) (v := .ref q2) (C := RX4) (T := TX4) (N := 6) hx hb hts icX4 tyX4 tyX4_ok nmX4 hown hG.k hP hD hS 0 rfl rfl 3 (by decide) lk8 (fun _ h9 => h9) rfl hin rfl (tyX4_ok 3 (by decide)) rfl rfl (Nat.le_of_ble_eq_true rfl) dX4_init_27 (fun H locs hP hD hS => ?_)
  have hP : va_P D vwCl [(a_t, .inr (4, [.int 10, .int 8, .ref q1, .ref q2, .null, .int 0])), (q1, .inl (g.1 0, 80, .inl (fun _ => 0))), (q2, .inl (g.1 1, 10, .inl (fun _ => 0)))] H := hP
  have hD : va_D A [(a_t, .inr (4, [.int 10, .int 8, .ref q1, .ref q2, .null, .int 0])), (q1, .inl (g.1 0, 80, .inl (fun _ => 0))), (q2, .inl (g.1 1, 10, .inl (fun _ => 0)))] := hD
  refine lv_aload_n hx hb dX4_init_30 rfl (lv_at hl 0 rfl) ?_
  refine lv_iload_n hx hb dX4_init_31 rfl (lv_at hl 1 rfl) ?_
  refine k_nI hx hb lk7 hG hP hD hS hA 10 (by decide) (by decide) (Nat.le_of_ble_eq_true rfl) (Nat.le_of_ble_eq_true rfl) (Nat.le_of_ble_eq_true rfl) dX4_init_32 (fun q3 H hP hD hS => ?_)
  have hP : va_P D vwCl [(a_t, .inr (4, [.int 10, .int 8, .ref q1, .ref q2, .null, .int 0])), (q1, .inl (g.1 0, 80, .inl (fun _ => 0))), (q2, .inl (g.1 1, 10, .inl (fun _ => 0))), (q3, .inl (g.1 1, 10, .inl (fun _ => 0)))] H := hP
  have hD : va_D A [(a_t, .inr (4, [.int 10, .int 8, .ref q1, .ref q2, .null, .int 0])), (q1, .inl (g.1 0, 80, .inl (fun _ => 0))), (q2, .inl (g.1 1, 10, .inl (fun _ => 0))), (q3, .inl (g.1 1, 10, .inl (fun _ => 0)))] := hD
  refine W.widen (k := 3) (n := 100) (by omega) (by omega) ?_
  refine va_putF (ci := 4) (v := .ref q3) (C := RX4) (T := TX4) (N := 6) hx hb hts icX4 tyX4 tyX4_ok nmX4 hown hG.k hP hD hS 0 rfl rfl 4 (by decide) lk9 (fun _ h9 => h9) rfl hin rfl (tyX4_ok 4 (by decide)) rfl rfl (Nat.le_of_ble_eq_true rfl) dX4_init_34 (fun H locs hP hD hS => ?_)
  have hP : va_P D vwCl [(a_t, .inr (4, [.int 10, .int 8, .ref q1, .ref q2, .ref q3, .int 0])), (q1, .inl (g.1 0, 80, .inl (fun _ => 0))), (q2, .inl (g.1 1, 10, .inl (fun _ => 0))), (q3, .inl (g.1 1, 10, .inl (fun _ => 0)))] H := hP
  have hD : va_D A [(a_t, .inr (4, [.int 10, .int 8, .ref q1, .ref q2, .ref q3, .int 0])), (q1, .inl (g.1 0, 80, .inl (fun _ => 0))), (q2, .inl (g.1 1, 10, .inl (fun _ => 0))), (q3, .inl (g.1 1, 10, .inl (fun _ => 0)))] := hD
  exact hret _ _ _ _ _ ⟨q1, q2, q3, rfl⟩ hP hD hS dX4_init_37
abbrev rmX4_init_6_3 : Room := { frames := 2, cells := 3, slots := 30, locals := 200 }
set_option maxHeartbeats 8000000 in
set_option maxRecDepth 100000 in
theorem c_X4_init_6_3 (l : Launch) (D : va_G) (g : gE) (a_t : Nat) : CN l D g yX4_init (.code yX4_init cX4_init 3 none :: wsL_law) rmX4_init_6_3 [.ref a_t, .int 6, .int 3] [(a_t, .inr (4, [.int 0, .int 0, .null, .null, .null, .int 0]))] 3 30 (fun W' => ∃ (q1 : Nat) (q2 : Nat) (q3 : Nat), W' = [(a_t, .inr (4, [.int 6, .int 3, .ref q1, .ref q2, .ref q3, .int 0])), (q1, .inl (g.1 0, 18, .inl (fun _ => 0))), (q2, .inl (g.1 1, 6, .inl (fun _ => 0))), (q3, .inl (g.1 1, 6, .inl (fun _ => 0)))]) := by
  refine CN.of (cc := cX4_init) (maxL := 3) (by decide) rfl rfl (Nat.le_of_ble_eq_true rfl) ?_
  intro p e s m args below meth c A Q hx hb hml hts hown hin hA H locs hP hD hS hG hI ls hl hret
  have hown : s.vm.findClass RX4 = some m.cls := hown
  have hl : lv_has ls 3 [(0, .ref a_t), (1, .int 6), (2, .int 3)] := hl
  have lk0 := hts (.methodLink RX4 1 objectInit) (List.mem_cons_of_mem _ (inR_5 (List.mem_of_getElem? (i := 14) rfl)))
  have lk1 := hts (.instanceMethod objectInit) (List.mem_cons_of_mem _ (inR_1 (List.mem_of_getElem? (i := 11) rfl)))
  have lk2 := hts (.code objectInit ⟨#[0xb1]⟩ 1 none) (List.mem_cons_of_mem _ (inR_1 (List.mem_of_getElem? (i := 12) rfl)))
  have lk3 := hts (.fieldLink RX4 7 "KnockWall$Names" "most" "I") (List.mem_cons_of_mem _ (inR_5 (List.mem_of_getElem? (i := 15) rfl)))
  have lk4 := hts (.fieldLink RX4 13 "KnockWall$Names" "width" "I") (List.mem_cons_of_mem _ (inR_5 (List.mem_of_getElem? (i := 16) rfl)))
  have lk5 := hts (.arrayClass .byte) (List.mem_cons_of_mem _ (inR_3 (List.mem_of_getElem? (i := 9) rfl)))
  have lk6 := hts (.fieldLink RX4 16 "KnockWall$Names" "letters" "[B") (List.mem_cons_of_mem _ (inR_5 (List.mem_of_getElem? (i := 17) rfl)))
  have lk7 := hts (.arrayClass .int) (List.mem_cons_of_mem _ (inR_2 (List.mem_of_getElem? (i := 20) rfl)))
  have lk8 := hts (.fieldLink RX4 20 "KnockWall$Names" "lengths" "[I") (List.mem_cons_of_mem _ (inR_5 (List.mem_of_getElem? (i := 18) rfl)))
  have lk9 := hts (.fieldLink RX4 24 "KnockWall$Names" "masks" "[I") (List.mem_cons_of_mem _ (inR_5 (List.mem_of_getElem? (i := 19) rfl)))
  refine lv_aload_n hx hb dX4_init_0 rfl (lv_at hl 0 rfl) ?_
  refine W.objInit hx hb hown lk0 lk1 lk2 rfl (by rw [hml]; exact hl.1) rfl dX4_init_1 (Nat.le_of_ble_eq_true rfl) (Nat.le_of_ble_eq_true rfl) ?_
  refine W.eq (g2 := F0 m 4 ls []) rfl ?_
  refine lv_aload_n hx hb dX4_init_4 rfl (lv_at hl 0 rfl) ?_
  refine lv_iload_n hx hb dX4_init_5 rfl (lv_at hl 1 rfl) ?_
  refine va_putF (ci := 4) (v := .int 6) (C := RX4) (T := TX4) (N := 6) hx hb hts icX4 tyX4 tyX4_ok nmX4 hown hG.k hP hD hS 0 rfl rfl 0 (by decide) lk3 (fun _ h9 => h9) rfl hin rfl (tyX4_ok 0 (by decide)) rfl rfl (Nat.le_of_ble_eq_true rfl) dX4_init_6 (fun H locs hP hD hS => ?_)
  have hP : va_P D vwCl [(a_t, .inr (4, [.int 6, .int 0, .null, .null, .null, .int 0]))] H := hP
  have hD : va_D A [(a_t, .inr (4, [.int 6, .int 0, .null, .null, .null, .int 0]))] := hD
  refine lv_aload_n hx hb dX4_init_9 rfl (lv_at hl 0 rfl) ?_
  refine lv_iload_n hx hb dX4_init_10 rfl (lv_at hl 2 rfl) ?_
  refine va_putF (ci := 4) (v := .int 3) (C := RX4) (T := TX4) (N := 6) hx hb hts icX4 tyX4 tyX4_ok nmX4 hown hG.k hP hD hS 0 rfl rfl 1 (by decide) lk4 (fun _ h9 => h9) rfl hin rfl (tyX4_ok 1 (by decide)) rfl rfl (Nat.le_of_ble_eq_true rfl) dX4_init_11 (fun H locs hP hD hS => ?_)
  have hP : va_P D vwCl [(a_t, .inr (4, [.int 6, .int 3, .null, .null, .null, .int 0]))] H := hP
  have hD : va_D A [(a_t, .inr (4, [.int 6, .int 3, .null, .null, .null, .int 0]))] := hD
  refine lv_aload_n hx hb dX4_init_14 rfl (lv_at hl 0 rfl) ?_
  refine lv_iload_n hx hb dX4_init_15 rfl (lv_at hl 1 rfl) ?_
  refine lv_iload_n hx hb dX4_init_16 rfl (lv_at hl 2 rfl) ?_
  refine lv_imul hx hb dX4_init_17 ?_
  rw [show (6 : Int32) * 3 = 18 by decide]
  refine k_nB hx hb lk5 hG hP hD hS hA 18 (by decide) (by decide) (Nat.le_of_ble_eq_true rfl) (Nat.le_of_ble_eq_true rfl) (Nat.le_of_ble_eq_true rfl) dX4_init_18 (fun q1 H hP hD hS => ?_)
  have hP : va_P D vwCl [(a_t, .inr (4, [.int 6, .int 3, .null, .null, .null, .int 0])), (q1, .inl (g.1 0, 18, .inl (fun _ => 0)))] H := hP
  have hD : va_D A [(a_t, .inr (4, [.int 6, .int 3, .null, .null, .null, .int 0])), (q1, .inl (g.1 0, 18, .inl (fun _ => 0)))] := hD
  refine W.widen (k := 1) (n := 18) (by omega) (by omega) ?_
  refine va_putF (ci := 4) (v := .ref q1) (C := RX4) (T := TX4) (N := 6) hx hb hts icX4 tyX4 tyX4_ok nmX4 hown hG.k hP hD hS 0 rfl rfl 2 (by decide) lk6 (fun _ h9 => h9) rfl hin rfl (tyX4_ok 2 (by decide)) rfl rfl (Nat.le_of_ble_eq_true rfl) dX4_init_20 (fun H locs hP hD hS => ?_)
  have hP : va_P D vwCl [(a_t, .inr (4, [.int 6, .int 3, .ref q1, .null, .null, .int 0])), (q1, .inl (g.1 0, 18, .inl (fun _ => 0)))] H := hP
  have hD : va_D A [(a_t, .inr (4, [.int 6, .int 3, .ref q1, .null, .null, .int 0])), (q1, .inl (g.1 0, 18, .inl (fun _ => 0)))] := hD
  refine lv_aload_n hx hb dX4_init_23 rfl (lv_at hl 0 rfl) ?_
  refine lv_iload_n hx hb dX4_init_24 rfl (lv_at hl 1 rfl) ?_
  refine k_nI hx hb lk7 hG hP hD hS hA 6 (by decide) (by decide) (Nat.le_of_ble_eq_true rfl) (Nat.le_of_ble_eq_true rfl) (Nat.le_of_ble_eq_true rfl) dX4_init_25 (fun q2 H hP hD hS => ?_)
  have hP : va_P D vwCl [(a_t, .inr (4, [.int 6, .int 3, .ref q1, .null, .null, .int 0])), (q1, .inl (g.1 0, 18, .inl (fun _ => 0))), (q2, .inl (g.1 1, 6, .inl (fun _ => 0)))] H := hP
  have hD : va_D A [(a_t, .inr (4, [.int 6, .int 3, .ref q1, .null, .null, .int 0])), (q1, .inl (g.1 0, 18, .inl (fun _ => 0))), (q2, .inl (g.1 1, 6, .inl (fun _ => 0)))] := hD
  refine W.widen (k := 2) (n := 24) (by omega) (by omega) ?_
  refine va_putF (ci := 4) (v := .ref q2) (C := RX4) (T := TX4) (N := 6) hx hb hts icX4 tyX4 tyX4_ok nmX4 hown hG.k hP hD hS 0 rfl rfl 3 (by decide) lk8 (fun _ h9 => h9) rfl hin rfl (tyX4_ok 3 (by decide)) rfl rfl (Nat.le_of_ble_eq_true rfl) dX4_init_27 (fun H locs hP hD hS => ?_)
  have hP : va_P D vwCl [(a_t, .inr (4, [.int 6, .int 3, .ref q1, .ref q2, .null, .int 0])), (q1, .inl (g.1 0, 18, .inl (fun _ => 0))), (q2, .inl (g.1 1, 6, .inl (fun _ => 0)))] H := hP
  have hD : va_D A [(a_t, .inr (4, [.int 6, .int 3, .ref q1, .ref q2, .null, .int 0])), (q1, .inl (g.1 0, 18, .inl (fun _ => 0))), (q2, .inl (g.1 1, 6, .inl (fun _ => 0)))] := hD
  refine lv_aload_n hx hb dX4_init_30 rfl (lv_at hl 0 rfl) ?_
  refine lv_iload_n hx hb dX4_init_31 rfl (lv_at hl 1 rfl) ?_
  refine k_nI hx hb lk7 hG hP hD hS hA 6 (by decide) (by decide) (Nat.le_of_ble_eq_true rfl) (Nat.le_of_ble_eq_true rfl) (Nat.le_of_ble_eq_true rfl) dX4_init_32 (fun q3 H hP hD hS => ?_)
  have hP : va_P D vwCl [(a_t, .inr (4, [.int 6, .int 3, .ref q1, .ref q2, .null, .int 0])), (q1, .inl (g.1 0, 18, .inl (fun _ => 0))), (q2, .inl (g.1 1, 6, .inl (fun _ => 0))), (q3, .inl (g.1 1, 6, .inl (fun _ => 0)))] H := hP
  have hD : va_D A [(a_t, .inr (4, [.int 6, .int 3, .ref q1, .ref q2, .null, .int 0])), (q1, .inl (g.1 0, 18, .inl (fun _ => 0))), (q2, .inl (g.1 1, 6, .inl (fun _ => 0))), (q3, .inl (g.1 1, 6, .inl (fun _ => 0)))] := hD
  refine W.widen (k := 3) (n := 30) (by omega) (by omega) ?_
  refine va_putF (ci := 4) (v := .ref q3) (C := RX4) (T := TX4) (N := 6) hx hb hts icX4 tyX4 tyX4_ok nmX4 hown hG.k hP hD hS 0 rfl rfl 4 (by decide) lk9 (fun _ h9 => h9) rfl hin rfl (tyX4_ok 4 (by decide)) rfl rfl (Nat.le_of_ble_eq_true rfl) dX4_init_34 (fun H locs hP hD hS => ?_)
  have hP : va_P D vwCl [(a_t, .inr (4, [.int 6, .int 3, .ref q1, .ref q2, .ref q3, .int 0])), (q1, .inl (g.1 0, 18, .inl (fun _ => 0))), (q2, .inl (g.1 1, 6, .inl (fun _ => 0))), (q3, .inl (g.1 1, 6, .inl (fun _ => 0)))] H := hP
  have hD : va_D A [(a_t, .inr (4, [.int 6, .int 3, .ref q1, .ref q2, .ref q3, .int 0])), (q1, .inl (g.1 0, 18, .inl (fun _ => 0))), (q2, .inl (g.1 1, 6, .inl (fun _ => 0))), (q3, .inl (g.1 1, 6, .inl (fun _ => 0)))] := hD
  exact hret _ _ _ _ _ ⟨q1, q2, q3, rfl⟩ hP hD hS dX4_init_37
abbrev rmX4_init_6_8 : Room := { frames := 2, cells := 3, slots := 60, locals := 200 }
set_option maxHeartbeats 8000000 in
set_option maxRecDepth 100000 in
theorem c_X4_init_6_8 (l : Launch) (D : va_G) (g : gE) (a_t : Nat) : CN l D g yX4_init (.code yX4_init cX4_init 3 none :: wsL_law) rmX4_init_6_8 [.ref a_t, .int 6, .int 8] [(a_t, .inr (4, [.int 0, .int 0, .null, .null, .null, .int 0]))] 3 60 (fun W' => ∃ (q1 : Nat) (q2 : Nat) (q3 : Nat), W' = [(a_t, .inr (4, [.int 6, .int 8, .ref q1, .ref q2, .ref q3, .int 0])), (q1, .inl (g.1 0, 48, .inl (fun _ => 0))), (q2, .inl (g.1 1, 6, .inl (fun _ => 0))), (q3, .inl (g.1 1, 6, .inl (fun _ => 0)))]) := by
  refine CN.of (cc := cX4_init) (maxL := 3) (by decide) rfl rfl (Nat.le_of_ble_eq_true rfl) ?_
  intro p e s m args below meth c A Q hx hb hml hts hown hin hA H locs hP hD hS hG hI ls hl hret
  have hown : s.vm.findClass RX4 = some m.cls := hown
  have hl : lv_has ls 3 [(0, .ref a_t), (1, .int 6), (2, .int 8)] := hl
  have lk0 := hts (.methodLink RX4 1 objectInit) (List.mem_cons_of_mem _ (inR_5 (List.mem_of_getElem? (i := 14) rfl)))
  have lk1 := hts (.instanceMethod objectInit) (List.mem_cons_of_mem _ (inR_1 (List.mem_of_getElem? (i := 11) rfl)))
  have lk2 := hts (.code objectInit ⟨#[0xb1]⟩ 1 none) (List.mem_cons_of_mem _ (inR_1 (List.mem_of_getElem? (i := 12) rfl)))
  have lk3 := hts (.fieldLink RX4 7 "KnockWall$Names" "most" "I") (List.mem_cons_of_mem _ (inR_5 (List.mem_of_getElem? (i := 15) rfl)))
  have lk4 := hts (.fieldLink RX4 13 "KnockWall$Names" "width" "I") (List.mem_cons_of_mem _ (inR_5 (List.mem_of_getElem? (i := 16) rfl)))
  have lk5 := hts (.arrayClass .byte) (List.mem_cons_of_mem _ (inR_3 (List.mem_of_getElem? (i := 9) rfl)))
  have lk6 := hts (.fieldLink RX4 16 "KnockWall$Names" "letters" "[B") (List.mem_cons_of_mem _ (inR_5 (List.mem_of_getElem? (i := 17) rfl)))
  have lk7 := hts (.arrayClass .int) (List.mem_cons_of_mem _ (inR_2 (List.mem_of_getElem? (i := 20) rfl)))
  have lk8 := hts (.fieldLink RX4 20 "KnockWall$Names" "lengths" "[I") (List.mem_cons_of_mem _ (inR_5 (List.mem_of_getElem? (i := 18) rfl)))
  have lk9 := hts (.fieldLink RX4 24 "KnockWall$Names" "masks" "[I") (List.mem_cons_of_mem _ (inR_5 (List.mem_of_getElem? (i := 19) rfl)))
  refine lv_aload_n hx hb dX4_init_0 rfl (lv_at hl 0 rfl) ?_
  refine W.objInit hx hb hown lk0 lk1 lk2 rfl (by rw [hml]; exact hl.1) rfl dX4_init_1 (Nat.le_of_ble_eq_true rfl) (Nat.le_of_ble_eq_true rfl) ?_
  refine W.eq (g2 := F0 m 4 ls []) rfl ?_
  refine lv_aload_n hx hb dX4_init_4 rfl (lv_at hl 0 rfl) ?_
  refine lv_iload_n hx hb dX4_init_5 rfl (lv_at hl 1 rfl) ?_
  refine va_putF (ci := 4) (v := .int 6) (C := RX4) (T := TX4) (N := 6) hx hb hts icX4 tyX4 tyX4_ok nmX4 hown hG.k hP hD hS 0 rfl rfl 0 (by decide) lk3 (fun _ h9 => h9) rfl hin rfl (tyX4_ok 0 (by decide)) rfl rfl (Nat.le_of_ble_eq_true rfl) dX4_init_6 (fun H locs hP hD hS => ?_)
  have hP : va_P D vwCl [(a_t, .inr (4, [.int 6, .int 0, .null, .null, .null, .int 0]))] H := hP
  have hD : va_D A [(a_t, .inr (4, [.int 6, .int 0, .null, .null, .null, .int 0]))] := hD
  refine lv_aload_n hx hb dX4_init_9 rfl (lv_at hl 0 rfl) ?_
  refine lv_iload_n hx hb dX4_init_10 rfl (lv_at hl 2 rfl) ?_
  refine va_putF (ci := 4) (v := .int 8) (C := RX4) (T := TX4) (N := 6) hx hb hts icX4 tyX4 tyX4_ok nmX4 hown hG.k hP hD hS 0 rfl rfl 1 (by decide) lk4 (fun _ h9 => h9) rfl hin rfl (tyX4_ok 1 (by decide)) rfl rfl (Nat.le_of_ble_eq_true rfl) dX4_init_11 (fun H locs hP hD hS => ?_)
  have hP : va_P D vwCl [(a_t, .inr (4, [.int 6, .int 8, .null, .null, .null, .int 0]))] H := hP
  have hD : va_D A [(a_t, .inr (4, [.int 6, .int 8, .null, .null, .null, .int 0]))] := hD
  refine lv_aload_n hx hb dX4_init_14 rfl (lv_at hl 0 rfl) ?_
  refine lv_iload_n hx hb dX4_init_15 rfl (lv_at hl 1 rfl) ?_
  refine lv_iload_n hx hb dX4_init_16 rfl (lv_at hl 2 rfl) ?_
  refine lv_imul hx hb dX4_init_17 ?_
  rw [show (6 : Int32) * 8 = 48 by decide]
  refine k_nB hx hb lk5 hG hP hD hS hA 48 (by decide) (by decide) (Nat.le_of_ble_eq_true rfl) (Nat.le_of_ble_eq_true rfl) (Nat.le_of_ble_eq_true rfl) dX4_init_18 (fun q1 H hP hD hS => ?_)
  have hP : va_P D vwCl [(a_t, .inr (4, [.int 6, .int 8, .null, .null, .null, .int 0])), (q1, .inl (g.1 0, 48, .inl (fun _ => 0)))] H := hP
  have hD : va_D A [(a_t, .inr (4, [.int 6, .int 8, .null, .null, .null, .int 0])), (q1, .inl (g.1 0, 48, .inl (fun _ => 0)))] := hD
  refine W.widen (k := 1) (n := 48) (by omega) (by omega) ?_
  refine va_putF (ci := 4) (v := .ref q1) (C := RX4) (T := TX4) (N := 6) hx hb hts icX4 tyX4 tyX4_ok nmX4 hown hG.k hP hD hS 0 rfl rfl 2 (by decide) lk6 (fun _ h9 => h9) rfl hin rfl (tyX4_ok 2 (by decide)) rfl rfl (Nat.le_of_ble_eq_true rfl) dX4_init_20 (fun H locs hP hD hS => ?_)
  have hP : va_P D vwCl [(a_t, .inr (4, [.int 6, .int 8, .ref q1, .null, .null, .int 0])), (q1, .inl (g.1 0, 48, .inl (fun _ => 0)))] H := hP
  have hD : va_D A [(a_t, .inr (4, [.int 6, .int 8, .ref q1, .null, .null, .int 0])), (q1, .inl (g.1 0, 48, .inl (fun _ => 0)))] := hD
  refine lv_aload_n hx hb dX4_init_23 rfl (lv_at hl 0 rfl) ?_
  refine lv_iload_n hx hb dX4_init_24 rfl (lv_at hl 1 rfl) ?_
  refine k_nI hx hb lk7 hG hP hD hS hA 6 (by decide) (by decide) (Nat.le_of_ble_eq_true rfl) (Nat.le_of_ble_eq_true rfl) (Nat.le_of_ble_eq_true rfl) dX4_init_25 (fun q2 H hP hD hS => ?_)
  have hP : va_P D vwCl [(a_t, .inr (4, [.int 6, .int 8, .ref q1, .null, .null, .int 0])), (q1, .inl (g.1 0, 48, .inl (fun _ => 0))), (q2, .inl (g.1 1, 6, .inl (fun _ => 0)))] H := hP
  have hD : va_D A [(a_t, .inr (4, [.int 6, .int 8, .ref q1, .null, .null, .int 0])), (q1, .inl (g.1 0, 48, .inl (fun _ => 0))), (q2, .inl (g.1 1, 6, .inl (fun _ => 0)))] := hD
  refine W.widen (k := 2) (n := 54) (by omega) (by omega) ?_
  refine va_putF (ci := 4) (v := .ref q2) (C := RX4) (T := TX4) (N := 6) hx hb hts icX4 tyX4 tyX4_ok nmX4 hown hG.k hP hD hS 0 rfl rfl 3 (by decide) lk8 (fun _ h9 => h9) rfl hin rfl (tyX4_ok 3 (by decide)) rfl rfl (Nat.le_of_ble_eq_true rfl) dX4_init_27 (fun H locs hP hD hS => ?_)
  have hP : va_P D vwCl [(a_t, .inr (4, [.int 6, .int 8, .ref q1, .ref q2, .null, .int 0])), (q1, .inl (g.1 0, 48, .inl (fun _ => 0))), (q2, .inl (g.1 1, 6, .inl (fun _ => 0)))] H := hP
  have hD : va_D A [(a_t, .inr (4, [.int 6, .int 8, .ref q1, .ref q2, .null, .int 0])), (q1, .inl (g.1 0, 48, .inl (fun _ => 0))), (q2, .inl (g.1 1, 6, .inl (fun _ => 0)))] := hD
  refine lv_aload_n hx hb dX4_init_30 rfl (lv_at hl 0 rfl) ?_
  refine lv_iload_n hx hb dX4_init_31 rfl (lv_at hl 1 rfl) ?_
  refine k_nI hx hb lk7 hG hP hD hS hA 6 (by decide) (by decide) (Nat.le_of_ble_eq_true rfl) (Nat.le_of_ble_eq_true rfl) (Nat.le_of_ble_eq_true rfl) dX4_init_32 (fun q3 H hP hD hS => ?_)
  have hP : va_P D vwCl [(a_t, .inr (4, [.int 6, .int 8, .ref q1, .ref q2, .null, .int 0])), (q1, .inl (g.1 0, 48, .inl (fun _ => 0))), (q2, .inl (g.1 1, 6, .inl (fun _ => 0))), (q3, .inl (g.1 1, 6, .inl (fun _ => 0)))] H := hP
  have hD : va_D A [(a_t, .inr (4, [.int 6, .int 8, .ref q1, .ref q2, .null, .int 0])), (q1, .inl (g.1 0, 48, .inl (fun _ => 0))), (q2, .inl (g.1 1, 6, .inl (fun _ => 0))), (q3, .inl (g.1 1, 6, .inl (fun _ => 0)))] := hD
  refine W.widen (k := 3) (n := 60) (by omega) (by omega) ?_
  refine va_putF (ci := 4) (v := .ref q3) (C := RX4) (T := TX4) (N := 6) hx hb hts icX4 tyX4 tyX4_ok nmX4 hown hG.k hP hD hS 0 rfl rfl 4 (by decide) lk9 (fun _ h9 => h9) rfl hin rfl (tyX4_ok 4 (by decide)) rfl rfl (Nat.le_of_ble_eq_true rfl) dX4_init_34 (fun H locs hP hD hS => ?_)
  have hP : va_P D vwCl [(a_t, .inr (4, [.int 6, .int 8, .ref q1, .ref q2, .ref q3, .int 0])), (q1, .inl (g.1 0, 48, .inl (fun _ => 0))), (q2, .inl (g.1 1, 6, .inl (fun _ => 0))), (q3, .inl (g.1 1, 6, .inl (fun _ => 0)))] H := hP
  have hD : va_D A [(a_t, .inr (4, [.int 6, .int 8, .ref q1, .ref q2, .ref q3, .int 0])), (q1, .inl (g.1 0, 48, .inl (fun _ => 0))), (q2, .inl (g.1 1, 6, .inl (fun _ => 0))), (q3, .inl (g.1 1, 6, .inl (fun _ => 0)))] := hD
  exact hret _ _ _ _ _ ⟨q1, q2, q3, rfl⟩ hP hD hS dX4_init_37
theorem hdX0_init : yX0_init.cls = RX0 ∧ yX0_init.cls ≠ "java/lang/invoke/MethodHandle" ∧ yX0_init.cls ≠ "java/lang/invoke/VarHandle" ∧ (parseMethodDescriptor yX0_init.desc).map (fun d => d.parameters.length) = some 0 := by decide +kernel
abbrev rmX0_init : Room := { frames := 3, cells := 16, slots := 844, locals := 300 }
set_option maxHeartbeats 8000000 in
set_option maxRecDepth 100000 in
theorem c_X0_init (l : Launch) (D : va_G) (g : gE) (a_t : Nat) : CN l D g yX0_init (.code yX0_init cX0_init 1 none :: wsL_law) rmX0_init [.ref a_t] [(a_t, .inr (0, [.null, .null, .null, .null, .null, .null, .int 0, .int 0, .int 0, .int 0, .int 0, .int 0, .int 0, .int 0, .int 0]))] 16 844 (fun W' => ∃ (q1 : Nat) (q2 : Nat) (q3 : Nat) (q4 : Nat) (q5 : Nat) (q6 : Nat) (q7 : Nat) (q8 : Nat) (q9 : Nat) (q10 : Nat) (q11 : Nat) (q12 : Nat) (q13 : Nat) (q14 : Nat) (q15 : Nat) (q16 : Nat), W' = [(a_t, .inr (0, [.ref q1, .ref q2, .ref q6, .ref q7, .ref q11, .ref q15, .int 0, .int 0, .int 0, .int 0, .int 0, .int 0, .int 0, .int 0, .int 0])), (q1, .inl (g.1 0, 25, .inl (fun _ => 0))), (q2, .inr (4, [.int 10, .int 8, .ref q3, .ref q4, .ref q5, .int 0])), (q3, .inl (g.1 0, 80, .inl (fun _ => 0))), (q4, .inl (g.1 1, 10, .inl (fun _ => 0))), (q5, .inl (g.1 1, 10, .inl (fun _ => 0))), (q6, .inl (g.1 1, 10, .inl (fun _ => 0))), (q7, .inr (4, [.int 6, .int 3, .ref q8, .ref q9, .ref q10, .int 0])), (q8, .inl (g.1 0, 18, .inl (fun _ => 0))), (q9, .inl (g.1 1, 6, .inl (fun _ => 0))), (q10, .inl (g.1 1, 6, .inl (fun _ => 0))), (q11, .inr (4, [.int 6, .int 8, .ref q12, .ref q13, .ref q14, .int 0])), (q12, .inl (g.1 0, 48, .inl (fun _ => 0))), (q13, .inl (g.1 1, 6, .inl (fun _ => 0))), (q14, .inl (g.1 1, 6, .inl (fun _ => 0))), (q15, .inr (5, [.ref q16])), (q16, .inl (g.1 0, 600, .inl (fun _ => 0)))]) := by
  refine CN.of (cc := cX0_init) (maxL := 1) (by decide) rfl rfl (Nat.le_of_ble_eq_true rfl) ?_
  intro p e s m args below meth c A Q hx hb hml hts hown hin hA H locs hP hD hS hG hI ls hl hret
  have hown : s.vm.findClass RX0 = some m.cls := hown
  have hl : lv_has ls 1 [(0, .ref a_t)] := hl
  have lk0 := hts (.methodLink RX0 3 objectInit) (List.mem_cons_of_mem _ (inR_4 (List.mem_of_getElem? (i := 22) rfl)))
  have lk1 := hts (.instanceMethod objectInit) (List.mem_cons_of_mem _ (inR_1 (List.mem_of_getElem? (i := 11) rfl)))
  have lk2 := hts (.code objectInit ⟨#[0xb1]⟩ 1 none) (List.mem_cons_of_mem _ (inR_1 (List.mem_of_getElem? (i := 12) rfl)))
  have lk3 := hts (.arrayClass .byte) (List.mem_cons_of_mem _ (inR_3 (List.mem_of_getElem? (i := 9) rfl)))
  have lk4 := hts (.fieldLink RX0 9 "KnockWall$Code" "letters" "[B") (List.mem_cons_of_mem _ (inR_4 (List.mem_of_getElem? (i := 23) rfl)))
  have lk5 := hts (.classLink RX0 15 RX4) (List.mem_cons_of_mem _ (inR_5 (List.mem_of_getElem? (i := 0) rfl)))
  have lk6 := hts (.instantiable RX4 6) (List.mem_cons_of_mem _ (inR_5 (List.mem_of_getElem? (i := 1) rfl)))
  have lk7 := hts (.initialized RX4) (List.mem_cons_of_mem _ (inR_5 (List.mem_of_getElem? (i := 2) rfl)))
  have lk8 := hts (.methodLink RX0 17 yX4_init) (List.mem_cons_of_mem _ (inR_5 (List.mem_of_getElem? (i := 11) rfl)))
  have lk9 := hts (.instanceMethod yX4_init) (List.mem_cons_of_mem _ (inR_5 (List.mem_of_getElem? (i := 12) rfl)))
  have lk10 := hts (.fieldLink RX0 20 "KnockWall$Code" "words" "LKnockWall$Names;") (List.mem_cons_of_mem _ (inR_5 (List.mem_of_getElem? (i := 3) rfl)))
  have lk11 := hts (.arrayClass .int) (List.mem_cons_of_mem _ (inR_2 (List.mem_of_getElem? (i := 20) rfl)))
  have lk12 := hts (.fieldLink RX0 24 "KnockWall$Code" "weights" "[I") (List.mem_cons_of_mem _ (inR_5 (List.mem_of_getElem? (i := 4) rfl)))
  have lk13 := hts (.fieldLink RX0 28 "KnockWall$Code" "shorts" "LKnockWall$Names;") (List.mem_cons_of_mem _ (inR_5 (List.mem_of_getElem? (i := 5) rfl)))
  have lk14 := hts (.fieldLink RX0 31 "KnockWall$Code" "longs" "LKnockWall$Names;") (List.mem_cons_of_mem _ (inR_5 (List.mem_of_getElem? (i := 6) rfl)))
  have lk15 := hts (.classLink RX0 34 RX5) (List.mem_cons_of_mem _ (inR_5 (List.mem_of_getElem? (i := 7) rfl)))
  have lk16 := hts (.instantiable RX5 1) (List.mem_cons_of_mem _ (inR_5 (List.mem_of_getElem? (i := 8) rfl)))
  have lk17 := hts (.initialized RX5) (List.mem_cons_of_mem _ (inR_5 (List.mem_of_getElem? (i := 9) rfl)))
  have lk18 := hts (.instanceMethod yX5_init) (List.mem_cons_of_mem _ (inR_5 (List.mem_of_getElem? (i := 20) rfl)))
  have lk19 := hts (.fieldLink RX0 37 "KnockWall$Code" "night" "LKnockWall$Night;") (List.mem_cons_of_mem _ (inR_5 (List.mem_of_getElem? (i := 10) rfl)))
  refine lv_aload_n hx hb dX0_init_0 rfl (lv_at hl 0 rfl) ?_
  refine W.objInit hx hb hown lk0 lk1 lk2 rfl (by rw [hml]; exact hl.1) rfl dX0_init_1 (Nat.le_of_ble_eq_true rfl) (Nat.le_of_ble_eq_true rfl) ?_
  refine W.eq (g2 := F0 m 4 ls []) rfl ?_
  refine lv_aload_n hx hb dX0_init_4 rfl (lv_at hl 0 rfl) ?_
  refine lv_bipush (v := 25) hx hb dX0_init_5 (by decide) ?_
  refine k_nB hx hb lk3 hG hP hD hS hA 25 (by decide) (by decide) (Nat.le_of_ble_eq_true rfl) (Nat.le_of_ble_eq_true rfl) (Nat.le_of_ble_eq_true rfl) dX0_init_7 (fun q1 H hP hD hS => ?_)
  have hP : va_P D vwCl [(a_t, .inr (0, [.null, .null, .null, .null, .null, .null, .int 0, .int 0, .int 0, .int 0, .int 0, .int 0, .int 0, .int 0, .int 0])), (q1, .inl (g.1 0, 25, .inl (fun _ => 0)))] H := hP
  have hD : va_D A [(a_t, .inr (0, [.null, .null, .null, .null, .null, .null, .int 0, .int 0, .int 0, .int 0, .int 0, .int 0, .int 0, .int 0, .int 0])), (q1, .inl (g.1 0, 25, .inl (fun _ => 0)))] := hD
  refine W.widen (k := 1) (n := 25) (by omega) (by omega) ?_
  refine va_putF (ci := 0) (v := .ref q1) (C := RX0) (T := TX0) (N := 15) hx hb hts icX0 tyX0 tyX0_ok nmX0 hown hG.k hP hD hS 0 rfl rfl 0 (by decide) lk4 (fun _ h9 => h9) rfl hin rfl (tyX0_ok 0 (by decide)) rfl rfl (Nat.le_of_ble_eq_true rfl) dX0_init_9 (fun H locs hP hD hS => ?_)
  have hP : va_P D vwCl [(a_t, .inr (0, [.ref q1, .null, .null, .null, .null, .null, .int 0, .int 0, .int 0, .int 0, .int 0, .int 0, .int 0, .int 0, .int 0])), (q1, .inl (g.1 0, 25, .inl (fun _ => 0)))] H := hP
  have hD : va_D A [(a_t, .inr (0, [.ref q1, .null, .null, .null, .null, .null, .int 0, .int 0, .int 0, .int 0, .int 0, .int 0, .int 0, .int 0, .int 0])), (q1, .inl (g.1 0, 25, .inl (fun _ => 0)))] := hD
  refine lv_aload_n hx hb dX0_init_12 rfl (lv_at hl 0 rfl) ?_
  refine va_new (ci := 4) (fs := [.int 0, .int 0, .null, .null, .null, .int 0]) (C := RX4) (T := TX4) (N := 6) hx hb hts icX4 tyX4 tyX4_ok hown lk5 lk6 lk7 hG.k hP hD hS hA rfl (fun j hj => by rcases (show j = 0 ∨ j = 1 ∨ j = 2 ∨ j = 3 ∨ j = 4 ∨ j = 5 by omega) with rfl | rfl | rfl | rfl | rfl | rfl <;> rfl) (Nat.le_of_ble_eq_true rfl) (Nat.le_of_ble_eq_true rfl) dX0_init_13 (fun q2 H hP hD hS => ?_)
  have hP : va_P D vwCl [(a_t, .inr (0, [.ref q1, .null, .null, .null, .null, .null, .int 0, .int 0, .int 0, .int 0, .int 0, .int 0, .int 0, .int 0, .int 0])), (q1, .inl (g.1 0, 25, .inl (fun _ => 0))), (q2, .inr (4, [.int 0, .int 0, .null, .null, .null, .int 0]))] H := hP
  have hD : va_D A [(a_t, .inr (0, [.ref q1, .null, .null, .null, .null, .null, .int 0, .int 0, .int 0, .int 0, .int 0, .int 0, .int 0, .int 0, .int 0])), (q1, .inl (g.1 0, 25, .inl (fun _ => 0))), (q2, .inr (4, [.int 0, .int 0, .null, .null, .null, .int 0]))] := hD
  refine W.widen (k := 2) (n := 31) (by omega) (by omega) ?_
  refine lv_dup hx hb dX0_init_16 rfl ?_
  refine lv_bipush (v := 10) hx hb dX0_init_17 (by decide) ?_
  refine lv_bipush (v := 8) hx hb dX0_init_19 (by decide) ?_
  refine k_n (wr := [(a_t, .inr (0, [.ref q1, .null, .null, .null, .null, .null, .int 0, .int 0, .int 0, .int 0, .int 0, .int 0, .int 0, .int 0, .int 0])), (q1, .inl (g.1 0, 25, .inl (fun _ => 0)))]) hA hP hD hS [2] [0, 1] rfl rfl (by decide) (by decide) (va_runI (As := [.int 10, .int 8]) (rest := [.ref q2, .ref a_t]) ⟨hx, hb, hml, hown, hts⟩ (c_X4_init_10_8 l D g q2 H.size) (cwI 2 hts (gdN (inR_5 (List.mem_of_getElem? (i := 13) rfl))) rfl rfl rfl lk7 lk8 lk9 rfl hdX4_init.2 ⟨(Nat.le_of_ble_eq_true rfl), (Nat.le_of_ble_eq_true rfl)⟩) (n_preS hG hI hA hP hD hS [2] rfl (by decide)) rfl rfl hl.1 rfl (lv_room (Nat.le_of_ble_eq_true rfl)) dX0_init_21 ⟨(Nat.le_of_ble_eq_true rfl), (Nat.le_of_ble_eq_true rfl)⟩) (fun W' H locs h9 hP hD hS => ?_)
  obtain ⟨q3, q4, q5, rfl⟩ := h9
  have hP : va_P D vwCl [(a_t, .inr (0, [.ref q1, .null, .null, .null, .null, .null, .int 0, .int 0, .int 0, .int 0, .int 0, .int 0, .int 0, .int 0, .int 0])), (q1, .inl (g.1 0, 25, .inl (fun _ => 0))), (q2, .inr (4, [.int 10, .int 8, .ref q3, .ref q4, .ref q5, .int 0])), (q3, .inl (g.1 0, 80, .inl (fun _ => 0))), (q4, .inl (g.1 1, 10, .inl (fun _ => 0))), (q5, .inl (g.1 1, 10, .inl (fun _ => 0)))] H := hP
  have hD : va_D A [(a_t, .inr (0, [.ref q1, .null, .null, .null, .null, .null, .int 0, .int 0, .int 0, .int 0, .int 0, .int 0, .int 0, .int 0, .int 0])), (q1, .inl (g.1 0, 25, .inl (fun _ => 0))), (q2, .inr (4, [.int 10, .int 8, .ref q3, .ref q4, .ref q5, .int 0])), (q3, .inl (g.1 0, 80, .inl (fun _ => 0))), (q4, .inl (g.1 1, 10, .inl (fun _ => 0))), (q5, .inl (g.1 1, 10, .inl (fun _ => 0)))] := hD
  refine W.widen (k := 5) (n := 131) (by omega) (by omega) ?_
  refine va_putF (ci := 0) (v := .ref q2) (C := RX0) (T := TX0) (N := 15) hx hb hts icX0 tyX0 tyX0_ok nmX0 hown hG.k hP hD hS 0 rfl rfl 1 (by decide) lk10 (fun _ h9 => h9) rfl hin rfl (tyX0_ok 1 (by decide)) rfl rfl (Nat.le_of_ble_eq_true rfl) dX0_init_24 (fun H locs hP hD hS => ?_)
  have hP : va_P D vwCl [(a_t, .inr (0, [.ref q1, .ref q2, .null, .null, .null, .null, .int 0, .int 0, .int 0, .int 0, .int 0, .int 0, .int 0, .int 0, .int 0])), (q1, .inl (g.1 0, 25, .inl (fun _ => 0))), (q2, .inr (4, [.int 10, .int 8, .ref q3, .ref q4, .ref q5, .int 0])), (q3, .inl (g.1 0, 80, .inl (fun _ => 0))), (q4, .inl (g.1 1, 10, .inl (fun _ => 0))), (q5, .inl (g.1 1, 10, .inl (fun _ => 0)))] H := hP
  have hD : va_D A [(a_t, .inr (0, [.ref q1, .ref q2, .null, .null, .null, .null, .int 0, .int 0, .int 0, .int 0, .int 0, .int 0, .int 0, .int 0, .int 0])), (q1, .inl (g.1 0, 25, .inl (fun _ => 0))), (q2, .inr (4, [.int 10, .int 8, .ref q3, .ref q4, .ref q5, .int 0])), (q3, .inl (g.1 0, 80, .inl (fun _ => 0))), (q4, .inl (g.1 1, 10, .inl (fun _ => 0))), (q5, .inl (g.1 1, 10, .inl (fun _ => 0)))] := hD
  refine lv_aload_n hx hb dX0_init_27 rfl (lv_at hl 0 rfl) ?_
  refine lv_bipush (v := 10) hx hb dX0_init_28 (by decide) ?_
  refine k_nI hx hb lk11 hG hP hD hS hA 10 (by decide) (by decide) (Nat.le_of_ble_eq_true rfl) (Nat.le_of_ble_eq_true rfl) (Nat.le_of_ble_eq_true rfl) dX0_init_30 (fun q6 H hP hD hS => ?_)
  have hP : va_P D vwCl [(a_t, .inr (0, [.ref q1, .ref q2, .null, .null, .null, .null, .int 0, .int 0, .int 0, .int 0, .int 0, .int 0, .int 0, .int 0, .int 0])), (q1, .inl (g.1 0, 25, .inl (fun _ => 0))), (q2, .inr (4, [.int 10, .int 8, .ref q3, .ref q4, .ref q5, .int 0])), (q3, .inl (g.1 0, 80, .inl (fun _ => 0))), (q4, .inl (g.1 1, 10, .inl (fun _ => 0))), (q5, .inl (g.1 1, 10, .inl (fun _ => 0))), (q6, .inl (g.1 1, 10, .inl (fun _ => 0)))] H := hP
  have hD : va_D A [(a_t, .inr (0, [.ref q1, .ref q2, .null, .null, .null, .null, .int 0, .int 0, .int 0, .int 0, .int 0, .int 0, .int 0, .int 0, .int 0])), (q1, .inl (g.1 0, 25, .inl (fun _ => 0))), (q2, .inr (4, [.int 10, .int 8, .ref q3, .ref q4, .ref q5, .int 0])), (q3, .inl (g.1 0, 80, .inl (fun _ => 0))), (q4, .inl (g.1 1, 10, .inl (fun _ => 0))), (q5, .inl (g.1 1, 10, .inl (fun _ => 0))), (q6, .inl (g.1 1, 10, .inl (fun _ => 0)))] := hD
  refine W.widen (k := 6) (n := 141) (by omega) (by omega) ?_
  refine va_putF (ci := 0) (v := .ref q6) (C := RX0) (T := TX0) (N := 15) hx hb hts icX0 tyX0 tyX0_ok nmX0 hown hG.k hP hD hS 0 rfl rfl 2 (by decide) lk12 (fun _ h9 => h9) rfl hin rfl (tyX0_ok 2 (by decide)) rfl rfl (Nat.le_of_ble_eq_true rfl) dX0_init_32 (fun H locs hP hD hS => ?_)
  have hP : va_P D vwCl [(a_t, .inr (0, [.ref q1, .ref q2, .ref q6, .null, .null, .null, .int 0, .int 0, .int 0, .int 0, .int 0, .int 0, .int 0, .int 0, .int 0])), (q1, .inl (g.1 0, 25, .inl (fun _ => 0))), (q2, .inr (4, [.int 10, .int 8, .ref q3, .ref q4, .ref q5, .int 0])), (q3, .inl (g.1 0, 80, .inl (fun _ => 0))), (q4, .inl (g.1 1, 10, .inl (fun _ => 0))), (q5, .inl (g.1 1, 10, .inl (fun _ => 0))), (q6, .inl (g.1 1, 10, .inl (fun _ => 0)))] H := hP
  have hD : va_D A [(a_t, .inr (0, [.ref q1, .ref q2, .ref q6, .null, .null, .null, .int 0, .int 0, .int 0, .int 0, .int 0, .int 0, .int 0, .int 0, .int 0])), (q1, .inl (g.1 0, 25, .inl (fun _ => 0))), (q2, .inr (4, [.int 10, .int 8, .ref q3, .ref q4, .ref q5, .int 0])), (q3, .inl (g.1 0, 80, .inl (fun _ => 0))), (q4, .inl (g.1 1, 10, .inl (fun _ => 0))), (q5, .inl (g.1 1, 10, .inl (fun _ => 0))), (q6, .inl (g.1 1, 10, .inl (fun _ => 0)))] := hD
  refine lv_aload_n hx hb dX0_init_35 rfl (lv_at hl 0 rfl) ?_
  refine va_new (ci := 4) (fs := [.int 0, .int 0, .null, .null, .null, .int 0]) (C := RX4) (T := TX4) (N := 6) hx hb hts icX4 tyX4 tyX4_ok hown lk5 lk6 lk7 hG.k hP hD hS hA rfl (fun j hj => by rcases (show j = 0 ∨ j = 1 ∨ j = 2 ∨ j = 3 ∨ j = 4 ∨ j = 5 by omega) with rfl | rfl | rfl | rfl | rfl | rfl <;> rfl) (Nat.le_of_ble_eq_true rfl) (Nat.le_of_ble_eq_true rfl) dX0_init_36 (fun q7 H hP hD hS => ?_)
  have hP : va_P D vwCl [(a_t, .inr (0, [.ref q1, .ref q2, .ref q6, .null, .null, .null, .int 0, .int 0, .int 0, .int 0, .int 0, .int 0, .int 0, .int 0, .int 0])), (q1, .inl (g.1 0, 25, .inl (fun _ => 0))), (q2, .inr (4, [.int 10, .int 8, .ref q3, .ref q4, .ref q5, .int 0])), (q3, .inl (g.1 0, 80, .inl (fun _ => 0))), (q4, .inl (g.1 1, 10, .inl (fun _ => 0))), (q5, .inl (g.1 1, 10, .inl (fun _ => 0))), (q6, .inl (g.1 1, 10, .inl (fun _ => 0))), (q7, .inr (4, [.int 0, .int 0, .null, .null, .null, .int 0]))] H := hP
  have hD : va_D A [(a_t, .inr (0, [.ref q1, .ref q2, .ref q6, .null, .null, .null, .int 0, .int 0, .int 0, .int 0, .int 0, .int 0, .int 0, .int 0, .int 0])), (q1, .inl (g.1 0, 25, .inl (fun _ => 0))), (q2, .inr (4, [.int 10, .int 8, .ref q3, .ref q4, .ref q5, .int 0])), (q3, .inl (g.1 0, 80, .inl (fun _ => 0))), (q4, .inl (g.1 1, 10, .inl (fun _ => 0))), (q5, .inl (g.1 1, 10, .inl (fun _ => 0))), (q6, .inl (g.1 1, 10, .inl (fun _ => 0))), (q7, .inr (4, [.int 0, .int 0, .null, .null, .null, .int 0]))] := hD
  refine W.widen (k := 7) (n := 147) (by omega) (by omega) ?_
  refine lv_dup hx hb dX0_init_39 rfl ?_
  refine lv_bipush (v := 6) hx hb dX0_init_40 (by decide) ?_
  refine lv_iconst (v := 3) hx hb dX0_init_42 (by decide) ?_
  refine k_n (wr := [(a_t, .inr (0, [.ref q1, .ref q2, .ref q6, .null, .null, .null, .int 0, .int 0, .int 0, .int 0, .int 0, .int 0, .int 0, .int 0, .int 0])), (q1, .inl (g.1 0, 25, .inl (fun _ => 0))), (q2, .inr (4, [.int 10, .int 8, .ref q3, .ref q4, .ref q5, .int 0])), (q3, .inl (g.1 0, 80, .inl (fun _ => 0))), (q4, .inl (g.1 1, 10, .inl (fun _ => 0))), (q5, .inl (g.1 1, 10, .inl (fun _ => 0))), (q6, .inl (g.1 1, 10, .inl (fun _ => 0)))]) hA hP hD hS [7] [0, 1, 2, 3, 4, 5, 6] rfl rfl (by decide) (by decide) (va_runI (As := [.int 6, .int 3]) (rest := [.ref q7, .ref a_t]) ⟨hx, hb, hml, hown, hts⟩ (c_X4_init_6_3 l D g q7 H.size) (cwI 2 hts (gdN (inR_5 (List.mem_of_getElem? (i := 13) rfl))) rfl rfl rfl lk7 lk8 lk9 rfl hdX4_init.2 ⟨(Nat.le_of_ble_eq_true rfl), (Nat.le_of_ble_eq_true rfl)⟩) (n_preS hG hI hA hP hD hS [7] rfl (by decide)) rfl rfl hl.1 rfl (lv_room (Nat.le_of_ble_eq_true rfl)) dX0_init_43 ⟨(Nat.le_of_ble_eq_true rfl), (Nat.le_of_ble_eq_true rfl)⟩) (fun W' H locs h9 hP hD hS => ?_)
  obtain ⟨q8, q9, q10, rfl⟩ := h9
  have hP : va_P D vwCl [(a_t, .inr (0, [.ref q1, .ref q2, .ref q6, .null, .null, .null, .int 0, .int 0, .int 0, .int 0, .int 0, .int 0, .int 0, .int 0, .int 0])), (q1, .inl (g.1 0, 25, .inl (fun _ => 0))), (q2, .inr (4, [.int 10, .int 8, .ref q3, .ref q4, .ref q5, .int 0])), (q3, .inl (g.1 0, 80, .inl (fun _ => 0))), (q4, .inl (g.1 1, 10, .inl (fun _ => 0))), (q5, .inl (g.1 1, 10, .inl (fun _ => 0))), (q6, .inl (g.1 1, 10, .inl (fun _ => 0))), (q7, .inr (4, [.int 6, .int 3, .ref q8, .ref q9, .ref q10, .int 0])), (q8, .inl (g.1 0, 18, .inl (fun _ => 0))), (q9, .inl (g.1 1, 6, .inl (fun _ => 0))), (q10, .inl (g.1 1, 6, .inl (fun _ => 0)))] H := hP
  have hD : va_D A [(a_t, .inr (0, [.ref q1, .ref q2, .ref q6, .null, .null, .null, .int 0, .int 0, .int 0, .int 0, .int 0, .int 0, .int 0, .int 0, .int 0])), (q1, .inl (g.1 0, 25, .inl (fun _ => 0))), (q2, .inr (4, [.int 10, .int 8, .ref q3, .ref q4, .ref q5, .int 0])), (q3, .inl (g.1 0, 80, .inl (fun _ => 0))), (q4, .inl (g.1 1, 10, .inl (fun _ => 0))), (q5, .inl (g.1 1, 10, .inl (fun _ => 0))), (q6, .inl (g.1 1, 10, .inl (fun _ => 0))), (q7, .inr (4, [.int 6, .int 3, .ref q8, .ref q9, .ref q10, .int 0])), (q8, .inl (g.1 0, 18, .inl (fun _ => 0))), (q9, .inl (g.1 1, 6, .inl (fun _ => 0))), (q10, .inl (g.1 1, 6, .inl (fun _ => 0)))] := hD
  refine W.widen (k := 10) (n := 177) (by omega) (by omega) ?_
  refine va_putF (ci := 0) (v := .ref q7) (C := RX0) (T := TX0) (N := 15) hx hb hts icX0 tyX0 tyX0_ok nmX0 hown hG.k hP hD hS 0 rfl rfl 3 (by decide) lk13 (fun _ h9 => h9) rfl hin rfl (tyX0_ok 3 (by decide)) rfl rfl (Nat.le_of_ble_eq_true rfl) dX0_init_46 (fun H locs hP hD hS => ?_)
  have hP : va_P D vwCl [(a_t, .inr (0, [.ref q1, .ref q2, .ref q6, .ref q7, .null, .null, .int 0, .int 0, .int 0, .int 0, .int 0, .int 0, .int 0, .int 0, .int 0])), (q1, .inl (g.1 0, 25, .inl (fun _ => 0))), (q2, .inr (4, [.int 10, .int 8, .ref q3, .ref q4, .ref q5, .int 0])), (q3, .inl (g.1 0, 80, .inl (fun _ => 0))), (q4, .inl (g.1 1, 10, .inl (fun _ => 0))), (q5, .inl (g.1 1, 10, .inl (fun _ => 0))), (q6, .inl (g.1 1, 10, .inl (fun _ => 0))), (q7, .inr (4, [.int 6, .int 3, .ref q8, .ref q9, .ref q10, .int 0])), (q8, .inl (g.1 0, 18, .inl (fun _ => 0))), (q9, .inl (g.1 1, 6, .inl (fun _ => 0))), (q10, .inl (g.1 1, 6, .inl (fun _ => 0)))] H := hP
  have hD : va_D A [(a_t, .inr (0, [.ref q1, .ref q2, .ref q6, .ref q7, .null, .null, .int 0, .int 0, .int 0, .int 0, .int 0, .int 0, .int 0, .int 0, .int 0])), (q1, .inl (g.1 0, 25, .inl (fun _ => 0))), (q2, .inr (4, [.int 10, .int 8, .ref q3, .ref q4, .ref q5, .int 0])), (q3, .inl (g.1 0, 80, .inl (fun _ => 0))), (q4, .inl (g.1 1, 10, .inl (fun _ => 0))), (q5, .inl (g.1 1, 10, .inl (fun _ => 0))), (q6, .inl (g.1 1, 10, .inl (fun _ => 0))), (q7, .inr (4, [.int 6, .int 3, .ref q8, .ref q9, .ref q10, .int 0])), (q8, .inl (g.1 0, 18, .inl (fun _ => 0))), (q9, .inl (g.1 1, 6, .inl (fun _ => 0))), (q10, .inl (g.1 1, 6, .inl (fun _ => 0)))] := hD
  refine lv_aload_n hx hb dX0_init_49 rfl (lv_at hl 0 rfl) ?_
  refine va_new (ci := 4) (fs := [.int 0, .int 0, .null, .null, .null, .int 0]) (C := RX4) (T := TX4) (N := 6) hx hb hts icX4 tyX4 tyX4_ok hown lk5 lk6 lk7 hG.k hP hD hS hA rfl (fun j hj => by rcases (show j = 0 ∨ j = 1 ∨ j = 2 ∨ j = 3 ∨ j = 4 ∨ j = 5 by omega) with rfl | rfl | rfl | rfl | rfl | rfl <;> rfl) (Nat.le_of_ble_eq_true rfl) (Nat.le_of_ble_eq_true rfl) dX0_init_50 (fun q11 H hP hD hS => ?_)
  have hP : va_P D vwCl [(a_t, .inr (0, [.ref q1, .ref q2, .ref q6, .ref q7, .null, .null, .int 0, .int 0, .int 0, .int 0, .int 0, .int 0, .int 0, .int 0, .int 0])), (q1, .inl (g.1 0, 25, .inl (fun _ => 0))), (q2, .inr (4, [.int 10, .int 8, .ref q3, .ref q4, .ref q5, .int 0])), (q3, .inl (g.1 0, 80, .inl (fun _ => 0))), (q4, .inl (g.1 1, 10, .inl (fun _ => 0))), (q5, .inl (g.1 1, 10, .inl (fun _ => 0))), (q6, .inl (g.1 1, 10, .inl (fun _ => 0))), (q7, .inr (4, [.int 6, .int 3, .ref q8, .ref q9, .ref q10, .int 0])), (q8, .inl (g.1 0, 18, .inl (fun _ => 0))), (q9, .inl (g.1 1, 6, .inl (fun _ => 0))), (q10, .inl (g.1 1, 6, .inl (fun _ => 0))), (q11, .inr (4, [.int 0, .int 0, .null, .null, .null, .int 0]))] H := hP
  have hD : va_D A [(a_t, .inr (0, [.ref q1, .ref q2, .ref q6, .ref q7, .null, .null, .int 0, .int 0, .int 0, .int 0, .int 0, .int 0, .int 0, .int 0, .int 0])), (q1, .inl (g.1 0, 25, .inl (fun _ => 0))), (q2, .inr (4, [.int 10, .int 8, .ref q3, .ref q4, .ref q5, .int 0])), (q3, .inl (g.1 0, 80, .inl (fun _ => 0))), (q4, .inl (g.1 1, 10, .inl (fun _ => 0))), (q5, .inl (g.1 1, 10, .inl (fun _ => 0))), (q6, .inl (g.1 1, 10, .inl (fun _ => 0))), (q7, .inr (4, [.int 6, .int 3, .ref q8, .ref q9, .ref q10, .int 0])), (q8, .inl (g.1 0, 18, .inl (fun _ => 0))), (q9, .inl (g.1 1, 6, .inl (fun _ => 0))), (q10, .inl (g.1 1, 6, .inl (fun _ => 0))), (q11, .inr (4, [.int 0, .int 0, .null, .null, .null, .int 0]))] := hD
  refine W.widen (k := 11) (n := 183) (by omega) (by omega) ?_
  refine lv_dup hx hb dX0_init_53 rfl ?_
  refine lv_bipush (v := 6) hx hb dX0_init_54 (by decide) ?_
  refine lv_bipush (v := 8) hx hb dX0_init_56 (by decide) ?_
  refine k_n (wr := [(a_t, .inr (0, [.ref q1, .ref q2, .ref q6, .ref q7, .null, .null, .int 0, .int 0, .int 0, .int 0, .int 0, .int 0, .int 0, .int 0, .int 0])), (q1, .inl (g.1 0, 25, .inl (fun _ => 0))), (q2, .inr (4, [.int 10, .int 8, .ref q3, .ref q4, .ref q5, .int 0])), (q3, .inl (g.1 0, 80, .inl (fun _ => 0))), (q4, .inl (g.1 1, 10, .inl (fun _ => 0))), (q5, .inl (g.1 1, 10, .inl (fun _ => 0))), (q6, .inl (g.1 1, 10, .inl (fun _ => 0))), (q7, .inr (4, [.int 6, .int 3, .ref q8, .ref q9, .ref q10, .int 0])), (q8, .inl (g.1 0, 18, .inl (fun _ => 0))), (q9, .inl (g.1 1, 6, .inl (fun _ => 0))), (q10, .inl (g.1 1, 6, .inl (fun _ => 0)))]) hA hP hD hS [11] [0, 1, 2, 3, 4, 5, 6, 7, 8, 9, 10] rfl rfl (by decide) (by decide) (va_runI (As := [.int 6, .int 8]) (rest := [.ref q11, .ref a_t]) ⟨hx, hb, hml, hown, hts⟩ (c_X4_init_6_8 l D g q11 H.size) (cwI 2 hts (gdN (inR_5 (List.mem_of_getElem? (i := 13) rfl))) rfl rfl rfl lk7 lk8 lk9 rfl hdX4_init.2 ⟨(Nat.le_of_ble_eq_true rfl), (Nat.le_of_ble_eq_true rfl)⟩) (n_preS hG hI hA hP hD hS [11] rfl (by decide)) rfl rfl hl.1 rfl (lv_room (Nat.le_of_ble_eq_true rfl)) dX0_init_58 ⟨(Nat.le_of_ble_eq_true rfl), (Nat.le_of_ble_eq_true rfl)⟩) (fun W' H locs h9 hP hD hS => ?_)
  obtain ⟨q12, q13, q14, rfl⟩ := h9
  have hP : va_P D vwCl [(a_t, .inr (0, [.ref q1, .ref q2, .ref q6, .ref q7, .null, .null, .int 0, .int 0, .int 0, .int 0, .int 0, .int 0, .int 0, .int 0, .int 0])), (q1, .inl (g.1 0, 25, .inl (fun _ => 0))), (q2, .inr (4, [.int 10, .int 8, .ref q3, .ref q4, .ref q5, .int 0])), (q3, .inl (g.1 0, 80, .inl (fun _ => 0))), (q4, .inl (g.1 1, 10, .inl (fun _ => 0))), (q5, .inl (g.1 1, 10, .inl (fun _ => 0))), (q6, .inl (g.1 1, 10, .inl (fun _ => 0))), (q7, .inr (4, [.int 6, .int 3, .ref q8, .ref q9, .ref q10, .int 0])), (q8, .inl (g.1 0, 18, .inl (fun _ => 0))), (q9, .inl (g.1 1, 6, .inl (fun _ => 0))), (q10, .inl (g.1 1, 6, .inl (fun _ => 0))), (q11, .inr (4, [.int 6, .int 8, .ref q12, .ref q13, .ref q14, .int 0])), (q12, .inl (g.1 0, 48, .inl (fun _ => 0))), (q13, .inl (g.1 1, 6, .inl (fun _ => 0))), (q14, .inl (g.1 1, 6, .inl (fun _ => 0)))] H := hP
  have hD : va_D A [(a_t, .inr (0, [.ref q1, .ref q2, .ref q6, .ref q7, .null, .null, .int 0, .int 0, .int 0, .int 0, .int 0, .int 0, .int 0, .int 0, .int 0])), (q1, .inl (g.1 0, 25, .inl (fun _ => 0))), (q2, .inr (4, [.int 10, .int 8, .ref q3, .ref q4, .ref q5, .int 0])), (q3, .inl (g.1 0, 80, .inl (fun _ => 0))), (q4, .inl (g.1 1, 10, .inl (fun _ => 0))), (q5, .inl (g.1 1, 10, .inl (fun _ => 0))), (q6, .inl (g.1 1, 10, .inl (fun _ => 0))), (q7, .inr (4, [.int 6, .int 3, .ref q8, .ref q9, .ref q10, .int 0])), (q8, .inl (g.1 0, 18, .inl (fun _ => 0))), (q9, .inl (g.1 1, 6, .inl (fun _ => 0))), (q10, .inl (g.1 1, 6, .inl (fun _ => 0))), (q11, .inr (4, [.int 6, .int 8, .ref q12, .ref q13, .ref q14, .int 0])), (q12, .inl (g.1 0, 48, .inl (fun _ => 0))), (q13, .inl (g.1 1, 6, .inl (fun _ => 0))), (q14, .inl (g.1 1, 6, .inl (fun _ => 0)))] := hD
  refine W.widen (k := 14) (n := 243) (by omega) (by omega) ?_
  refine va_putF (ci := 0) (v := .ref q11) (C := RX0) (T := TX0) (N := 15) hx hb hts icX0 tyX0 tyX0_ok nmX0 hown hG.k hP hD hS 0 rfl rfl 4 (by decide) lk14 (fun _ h9 => h9) rfl hin rfl (tyX0_ok 4 (by decide)) rfl rfl (Nat.le_of_ble_eq_true rfl) dX0_init_61 (fun H locs hP hD hS => ?_)
  have hP : va_P D vwCl [(a_t, .inr (0, [.ref q1, .ref q2, .ref q6, .ref q7, .ref q11, .null, .int 0, .int 0, .int 0, .int 0, .int 0, .int 0, .int 0, .int 0, .int 0])), (q1, .inl (g.1 0, 25, .inl (fun _ => 0))), (q2, .inr (4, [.int 10, .int 8, .ref q3, .ref q4, .ref q5, .int 0])), (q3, .inl (g.1 0, 80, .inl (fun _ => 0))), (q4, .inl (g.1 1, 10, .inl (fun _ => 0))), (q5, .inl (g.1 1, 10, .inl (fun _ => 0))), (q6, .inl (g.1 1, 10, .inl (fun _ => 0))), (q7, .inr (4, [.int 6, .int 3, .ref q8, .ref q9, .ref q10, .int 0])), (q8, .inl (g.1 0, 18, .inl (fun _ => 0))), (q9, .inl (g.1 1, 6, .inl (fun _ => 0))), (q10, .inl (g.1 1, 6, .inl (fun _ => 0))), (q11, .inr (4, [.int 6, .int 8, .ref q12, .ref q13, .ref q14, .int 0])), (q12, .inl (g.1 0, 48, .inl (fun _ => 0))), (q13, .inl (g.1 1, 6, .inl (fun _ => 0))), (q14, .inl (g.1 1, 6, .inl (fun _ => 0)))] H := hP
  have hD : va_D A [(a_t, .inr (0, [.ref q1, .ref q2, .ref q6, .ref q7, .ref q11, .null, .int 0, .int 0, .int 0, .int 0, .int 0, .int 0, .int 0, .int 0, .int 0])), (q1, .inl (g.1 0, 25, .inl (fun _ => 0))), (q2, .inr (4, [.int 10, .int 8, .ref q3, .ref q4, .ref q5, .int 0])), (q3, .inl (g.1 0, 80, .inl (fun _ => 0))), (q4, .inl (g.1 1, 10, .inl (fun _ => 0))), (q5, .inl (g.1 1, 10, .inl (fun _ => 0))), (q6, .inl (g.1 1, 10, .inl (fun _ => 0))), (q7, .inr (4, [.int 6, .int 3, .ref q8, .ref q9, .ref q10, .int 0])), (q8, .inl (g.1 0, 18, .inl (fun _ => 0))), (q9, .inl (g.1 1, 6, .inl (fun _ => 0))), (q10, .inl (g.1 1, 6, .inl (fun _ => 0))), (q11, .inr (4, [.int 6, .int 8, .ref q12, .ref q13, .ref q14, .int 0])), (q12, .inl (g.1 0, 48, .inl (fun _ => 0))), (q13, .inl (g.1 1, 6, .inl (fun _ => 0))), (q14, .inl (g.1 1, 6, .inl (fun _ => 0)))] := hD
  refine lv_aload_n hx hb dX0_init_64 rfl (lv_at hl 0 rfl) ?_
  refine va_new (ci := 5) (fs := [.null]) (C := RX5) (T := TX5) (N := 1) hx hb hts icX5 tyX5 tyX5_ok hown lk15 lk16 lk17 hG.k hP hD hS hA rfl (fun j hj => by rcases (show j = 0 by omega) with rfl <;> rfl) (Nat.le_of_ble_eq_true rfl) (Nat.le_of_ble_eq_true rfl) dX0_init_65 (fun q15 H hP hD hS => ?_)
  have hP : va_P D vwCl [(a_t, .inr (0, [.ref q1, .ref q2, .ref q6, .ref q7, .ref q11, .null, .int 0, .int 0, .int 0, .int 0, .int 0, .int 0, .int 0, .int 0, .int 0])), (q1, .inl (g.1 0, 25, .inl (fun _ => 0))), (q2, .inr (4, [.int 10, .int 8, .ref q3, .ref q4, .ref q5, .int 0])), (q3, .inl (g.1 0, 80, .inl (fun _ => 0))), (q4, .inl (g.1 1, 10, .inl (fun _ => 0))), (q5, .inl (g.1 1, 10, .inl (fun _ => 0))), (q6, .inl (g.1 1, 10, .inl (fun _ => 0))), (q7, .inr (4, [.int 6, .int 3, .ref q8, .ref q9, .ref q10, .int 0])), (q8, .inl (g.1 0, 18, .inl (fun _ => 0))), (q9, .inl (g.1 1, 6, .inl (fun _ => 0))), (q10, .inl (g.1 1, 6, .inl (fun _ => 0))), (q11, .inr (4, [.int 6, .int 8, .ref q12, .ref q13, .ref q14, .int 0])), (q12, .inl (g.1 0, 48, .inl (fun _ => 0))), (q13, .inl (g.1 1, 6, .inl (fun _ => 0))), (q14, .inl (g.1 1, 6, .inl (fun _ => 0))), (q15, .inr (5, [.null]))] H := hP
  have hD : va_D A [(a_t, .inr (0, [.ref q1, .ref q2, .ref q6, .ref q7, .ref q11, .null, .int 0, .int 0, .int 0, .int 0, .int 0, .int 0, .int 0, .int 0, .int 0])), (q1, .inl (g.1 0, 25, .inl (fun _ => 0))), (q2, .inr (4, [.int 10, .int 8, .ref q3, .ref q4, .ref q5, .int 0])), (q3, .inl (g.1 0, 80, .inl (fun _ => 0))), (q4, .inl (g.1 1, 10, .inl (fun _ => 0))), (q5, .inl (g.1 1, 10, .inl (fun _ => 0))), (q6, .inl (g.1 1, 10, .inl (fun _ => 0))), (q7, .inr (4, [.int 6, .int 3, .ref q8, .ref q9, .ref q10, .int 0])), (q8, .inl (g.1 0, 18, .inl (fun _ => 0))), (q9, .inl (g.1 1, 6, .inl (fun _ => 0))), (q10, .inl (g.1 1, 6, .inl (fun _ => 0))), (q11, .inr (4, [.int 6, .int 8, .ref q12, .ref q13, .ref q14, .int 0])), (q12, .inl (g.1 0, 48, .inl (fun _ => 0))), (q13, .inl (g.1 1, 6, .inl (fun _ => 0))), (q14, .inl (g.1 1, 6, .inl (fun _ => 0))), (q15, .inr (5, [.null]))] := hD
  refine W.widen (k := 15) (n := 244) (by omega) (by omega) ?_
  refine lv_dup hx hb dX0_init_68 rfl ?_
  refine k_n (wr := [(a_t, .inr (0, [.ref q1, .ref q2, .ref q6, .ref q7, .ref q11, .null, .int 0, .int 0, .int 0, .int 0, .int 0, .int 0, .int 0, .int 0, .int 0])), (q1, .inl (g.1 0, 25, .inl (fun _ => 0))), (q2, .inr (4, [.int 10, .int 8, .ref q3, .ref q4, .ref q5, .int 0])), (q3, .inl (g.1 0, 80, .inl (fun _ => 0))), (q4, .inl (g.1 1, 10, .inl (fun _ => 0))), (q5, .inl (g.1 1, 10, .inl (fun _ => 0))), (q6, .inl (g.1 1, 10, .inl (fun _ => 0))), (q7, .inr (4, [.int 6, .int 3, .ref q8, .ref q9, .ref q10, .int 0])), (q8, .inl (g.1 0, 18, .inl (fun _ => 0))), (q9, .inl (g.1 1, 6, .inl (fun _ => 0))), (q10, .inl (g.1 1, 6, .inl (fun _ => 0))), (q11, .inr (4, [.int 6, .int 8, .ref q12, .ref q13, .ref q14, .int 0])), (q12, .inl (g.1 0, 48, .inl (fun _ => 0))), (q13, .inl (g.1 1, 6, .inl (fun _ => 0))), (q14, .inl (g.1 1, 6, .inl (fun _ => 0)))]) hA hP hD hS [15] [0, 1, 2, 3, 4, 5, 6, 7, 8, 9, 10, 11, 12, 13, 14] rfl rfl (by decide) (by decide) (va_runIN (As := []) (rest := [.ref q15, .ref a_t]) ⟨hx, hb, hml, hown, hts⟩ (c_X5_init l D g q15 H.size) ⟨va_cnB 0 hts (gdN (inR_5 (List.mem_of_getElem? (i := 21) rfl))) rfl rfl rfl (hI.1 _ (List.mem_of_getElem? (i := 9) rfl)) lk17 hdX5_init.2 ⟨(Nat.le_of_ble_eq_true rfl), (Nat.le_of_ble_eq_true rfl)⟩, rfl, lk18⟩ (n_preS hG hI hA hP hD hS [15] rfl (by decide)) rfl rfl hl.1 rfl (lv_room (Nat.le_of_ble_eq_true rfl)) dX0_init_69 ⟨(Nat.le_of_ble_eq_true rfl), (Nat.le_of_ble_eq_true rfl)⟩) (fun W' H locs h9 hP hD hS => ?_)
  obtain ⟨q16, rfl⟩ := h9
  have hP : va_P D vwCl [(a_t, .inr (0, [.ref q1, .ref q2, .ref q6, .ref q7, .ref q11, .null, .int 0, .int 0, .int 0, .int 0, .int 0, .int 0, .int 0, .int 0, .int 0])), (q1, .inl (g.1 0, 25, .inl (fun _ => 0))), (q2, .inr (4, [.int 10, .int 8, .ref q3, .ref q4, .ref q5, .int 0])), (q3, .inl (g.1 0, 80, .inl (fun _ => 0))), (q4, .inl (g.1 1, 10, .inl (fun _ => 0))), (q5, .inl (g.1 1, 10, .inl (fun _ => 0))), (q6, .inl (g.1 1, 10, .inl (fun _ => 0))), (q7, .inr (4, [.int 6, .int 3, .ref q8, .ref q9, .ref q10, .int 0])), (q8, .inl (g.1 0, 18, .inl (fun _ => 0))), (q9, .inl (g.1 1, 6, .inl (fun _ => 0))), (q10, .inl (g.1 1, 6, .inl (fun _ => 0))), (q11, .inr (4, [.int 6, .int 8, .ref q12, .ref q13, .ref q14, .int 0])), (q12, .inl (g.1 0, 48, .inl (fun _ => 0))), (q13, .inl (g.1 1, 6, .inl (fun _ => 0))), (q14, .inl (g.1 1, 6, .inl (fun _ => 0))), (q15, .inr (5, [.ref q16])), (q16, .inl (g.1 0, 600, .inl (fun _ => 0)))] H := hP
  have hD : va_D A [(a_t, .inr (0, [.ref q1, .ref q2, .ref q6, .ref q7, .ref q11, .null, .int 0, .int 0, .int 0, .int 0, .int 0, .int 0, .int 0, .int 0, .int 0])), (q1, .inl (g.1 0, 25, .inl (fun _ => 0))), (q2, .inr (4, [.int 10, .int 8, .ref q3, .ref q4, .ref q5, .int 0])), (q3, .inl (g.1 0, 80, .inl (fun _ => 0))), (q4, .inl (g.1 1, 10, .inl (fun _ => 0))), (q5, .inl (g.1 1, 10, .inl (fun _ => 0))), (q6, .inl (g.1 1, 10, .inl (fun _ => 0))), (q7, .inr (4, [.int 6, .int 3, .ref q8, .ref q9, .ref q10, .int 0])), (q8, .inl (g.1 0, 18, .inl (fun _ => 0))), (q9, .inl (g.1 1, 6, .inl (fun _ => 0))), (q10, .inl (g.1 1, 6, .inl (fun _ => 0))), (q11, .inr (4, [.int 6, .int 8, .ref q12, .ref q13, .ref q14, .int 0])), (q12, .inl (g.1 0, 48, .inl (fun _ => 0))), (q13, .inl (g.1 1, 6, .inl (fun _ => 0))), (q14, .inl (g.1 1, 6, .inl (fun _ => 0))), (q15, .inr (5, [.ref q16])), (q16, .inl (g.1 0, 600, .inl (fun _ => 0)))] := hD
  refine W.widen (k := 16) (n := 844) (by omega) (by omega) ?_
  refine va_putF (ci := 0) (v := .ref q15) (C := RX0) (T := TX0) (N := 15) hx hb hts icX0 tyX0 tyX0_ok nmX0 hown hG.k hP hD hS 0 rfl rfl 5 (by decide) lk19 (fun _ h9 => h9) rfl hin rfl (tyX0_ok 5 (by decide)) rfl rfl (Nat.le_of_ble_eq_true rfl) dX0_init_72 (fun H locs hP hD hS => ?_)
  have hP : va_P D vwCl [(a_t, .inr (0, [.ref q1, .ref q2, .ref q6, .ref q7, .ref q11, .ref q15, .int 0, .int 0, .int 0, .int 0, .int 0, .int 0, .int 0, .int 0, .int 0])), (q1, .inl (g.1 0, 25, .inl (fun _ => 0))), (q2, .inr (4, [.int 10, .int 8, .ref q3, .ref q4, .ref q5, .int 0])), (q3, .inl (g.1 0, 80, .inl (fun _ => 0))), (q4, .inl (g.1 1, 10, .inl (fun _ => 0))), (q5, .inl (g.1 1, 10, .inl (fun _ => 0))), (q6, .inl (g.1 1, 10, .inl (fun _ => 0))), (q7, .inr (4, [.int 6, .int 3, .ref q8, .ref q9, .ref q10, .int 0])), (q8, .inl (g.1 0, 18, .inl (fun _ => 0))), (q9, .inl (g.1 1, 6, .inl (fun _ => 0))), (q10, .inl (g.1 1, 6, .inl (fun _ => 0))), (q11, .inr (4, [.int 6, .int 8, .ref q12, .ref q13, .ref q14, .int 0])), (q12, .inl (g.1 0, 48, .inl (fun _ => 0))), (q13, .inl (g.1 1, 6, .inl (fun _ => 0))), (q14, .inl (g.1 1, 6, .inl (fun _ => 0))), (q15, .inr (5, [.ref q16])), (q16, .inl (g.1 0, 600, .inl (fun _ => 0)))] H := hP
  have hD : va_D A [(a_t, .inr (0, [.ref q1, .ref q2, .ref q6, .ref q7, .ref q11, .ref q15, .int 0, .int 0, .int 0, .int 0, .int 0, .int 0, .int 0, .int 0, .int 0])), (q1, .inl (g.1 0, 25, .inl (fun _ => 0))), (q2, .inr (4, [.int 10, .int 8, .ref q3, .ref q4, .ref q5, .int 0])), (q3, .inl (g.1 0, 80, .inl (fun _ => 0))), (q4, .inl (g.1 1, 10, .inl (fun _ => 0))), (q5, .inl (g.1 1, 10, .inl (fun _ => 0))), (q6, .inl (g.1 1, 10, .inl (fun _ => 0))), (q7, .inr (4, [.int 6, .int 3, .ref q8, .ref q9, .ref q10, .int 0])), (q8, .inl (g.1 0, 18, .inl (fun _ => 0))), (q9, .inl (g.1 1, 6, .inl (fun _ => 0))), (q10, .inl (g.1 1, 6, .inl (fun _ => 0))), (q11, .inr (4, [.int 6, .int 8, .ref q12, .ref q13, .ref q14, .int 0])), (q12, .inl (g.1 0, 48, .inl (fun _ => 0))), (q13, .inl (g.1 1, 6, .inl (fun _ => 0))), (q14, .inl (g.1 1, 6, .inl (fun _ => 0))), (q15, .inr (5, [.ref q16])), (q16, .inl (g.1 0, 600, .inl (fun _ => 0)))] := hD
  exact hret _ _ _ _ _ ⟨q1, q2, q3, q4, q5, q6, q7, q8, q9, q10, q11, q12, q13, q14, q15, q16, rfl⟩ hP hD hS dX0_init_75
