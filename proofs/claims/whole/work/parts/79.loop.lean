/-! the law's loop -/
theorem lw_gt {L i : Nat} (hL : L ≤ 2560) (hi : i ≤ L + 4) : (Int32.ofNat L - 5 < nI i) ↔ ¬ (i + 5 ≤ L) := by
  rw [T_lt, nI_T (by omega)]
  obtain ⟨c, hc⟩ := T_sub (Int32.ofNat L) 5
  have h1 : (Int32.ofNat L).toInt = (L : Int) := nI_T (k := L) (by omega)
  have h5 : (5 : Int32).toInt = 5 := rfl
  have r := T_rng (Int32.ofNat L - 5)
  omega
set_option maxHeartbeats 8000000 in
set_option maxRecDepth 100000 in
theorem law_loop {p : Program} {l : Launch} {e : Env} {s : State} {m : MethodId} {below : List Frame} {meth : Method} {c : Code} {b L : Nat} {xs : Nat → Int32} (hL : L ≤ 2560) (C0 : lw_At p s m meth c b L xs) {D : va_G} {g : gE} (hG : GF D g (lA s) s) {ax am : Nat} : ∀ (n i : Nat), L ≤ i + n → i ≤ L + 4 → ∀ (Ws : va_W) (H : Heap) (locs : List Loc), Inv g ax am Ws → va_P D vwCl Ws H → va_D (lA s) Ws → va_S (lA s) s.heap H locs → ∀ ls : Array Slot, lv_has ls 4 [(3, .int (nI i)), (2, .ref am), (1, .ref ax), (0, .ref b)] → W p l e room_1 s m #[Value.ref b] below meth c H locs 114 4035 (lw_Z below #[Value.ref b] s) (F0 m 18 ls []) := by
  obtain ⟨hx, hb, hr, hml, hown, hts, hX, hbl, hlocks, hgv⟩ := id C0
  have hbA : ¬ lA s b := Nat.not_le.mpr hbl
  intro n
  induction n with
  | zero =>
    intro i h1 h2 Ws H locs hI hP hD hS ls hl
    refine lv_iload_n hx hb dL_law_18 rfl (lv_at hl 0 rfl) ?_
    refine lv_aload_n hx hb dL_law_19 rfl (lv_at hl 3 rfl) ?_
    refine va_slen hx hb hX hbl hbA hS dL_law_20 ?_
    refine lv_iconst (v := 5) hx hb dL_law_21 (by decide) ?_
    refine lv_isub hx hb dL_law_22 ?_
    refine lv_icmp_gt (tgt := 1441) hx hb dL_law_23 (by decide) (fun c9 => ?_) (fun c9 => absurd ((lw_gt hL h2).mpr (by omega)) c9)
    refine lv_iconst (v := 1) hx hb dL_law_1441 (by decide) ?_
    refine va_forget (fun q hq => hS.2.2 q hq) ?_
    refine W.widen (k := 600000) (n := 7302250) (Nat.le_of_ble_eq_true rfl) (Nat.le_of_ble_eq_true rfl) ?_
    exact lw_ret hx hb hr hlocks dL_law_1442
  | succ n ih =>
    intro i h1 h2 Ws H locs hI hP hD hS ls hl
    refine lv_iload_n hx hb dL_law_18 rfl (lv_at hl 0 rfl) ?_
    refine lv_aload_n hx hb dL_law_19 rfl (lv_at hl 3 rfl) ?_
    refine va_slen hx hb hX hbl hbA hS dL_law_20 ?_
    refine lv_iconst (v := 5) hx hb dL_law_21 (by decide) ?_
    refine lv_isub hx hb dL_law_22 ?_
    refine lv_icmp_gt (tgt := 1441) hx hb dL_law_23 (by decide) (fun c9 => ?_) (fun c9 => ?_)
    · refine lv_iconst (v := 1) hx hb dL_law_1441 (by decide) ?_
      refine va_forget (fun q hq => hS.2.2 q hq) ?_
      refine W.widen (k := 600000) (n := 7302250) (Nat.le_of_ble_eq_true rfl) (Nat.le_of_ble_eq_true rfl) ?_
      exact lw_ret hx hb hr hlocks dL_law_1442
    · have hi5 : i + 5 ≤ L := Classical.byContradiction (fun z => c9 ((lw_gt hL h2).mpr z))
      have hv0 : vp_in (nI i) L := (vin_n (by omega)).mpr (by omega)
      have fin : ∀ (Ws' : va_W) (H : Heap) (locs : List Loc), Inv g ax am Ws' → va_P D vwCl Ws' H → va_D (lA s) Ws' → va_S (lA s) s.heap H locs → W p l e room_1 s m #[Value.ref b] below meth c H locs 114 4035 (lw_Z below #[Value.ref b] s) (F0 m 1435 ls []) := fun Ws' H locs hI hP hD hS => by
        refine lv_iinc (v := nI (i + 5)) (lv' := [(3, .int (nI (i + 5))), (2, .ref am), (1, .ref ax), (0, .ref b)]) hx hb dL_law_1435 hl (k := 0) rfl (by rw [← nI_add]; rfl) (by decide) rfl (fun ls hl => ?_)
        refine lv_goto (tgt := 18) hx hb dL_law_1438 (by decide) ?_
        exact ih (i + 5) (by omega) (by omega) Ws' H locs hI hP hD hS ls hl
      refine lv_aload_n hx hb dL_law_26 rfl (lv_at hl 3 rfl) ?_
      refine lv_iload_n hx hb dL_law_27 rfl (lv_at hl 0 rfl) ?_
      refine va_sld hx hb hX hbl hbA hS hv0 dL_law_28 ?_
      refine lv_bipush (v := 63) hx hb dL_law_29 (by decide) ?_
      refine lv_iand hx hb dL_law_31 ?_
      generalize (xs (nI i).toNatClampNeg &&& 63 : Int32) = X9
      by_cases e0 : X9 = 0
      · refine lv_tableIn (off := 188) (tgt := 220) hx hb dL_law_32 (by rw [e0]; decide) (by rw [e0]; decide) (by rw [e0]; rfl) (by decide) ?_
        exact op_feed hL C0 hG hi5 hI hP hD hS hl fin
      by_cases e1 : X9 = 1
      · refine lv_tableIn (off := 241) (tgt := 273) hx hb dL_law_32 (by rw [e1]; decide) (by rw [e1]; decide) (by rw [e1]; rfl) (by decide) ?_
        exact op_end hL C0 hG hi5 hI hP hD hS hl fin
      by_cases e2 : X9 = 2
      · refine lv_tableIn (off := 264) (tgt := 296) hx hb dL_law_32 (by rw [e2]; decide) (by rw [e2]; decide) (by rw [e2]; rfl) (by decide) ?_
        exact op_code hL C0 hG hi5 hI hP hD hS hl fin
      by_cases e3 : X9 = 3
      · refine lv_tableIn (off := 277) (tgt := 309) hx hb dL_law_32 (by rw [e3]; decide) (by rw [e3]; decide) (by rw [e3]; rfl) (by decide) ?_
        exact op_fault hL C0 hG hi5 hI hP hD hS hl fin
      by_cases e4 : X9 = 4
      · refine lv_tableIn (off := 290) (tgt := 322) hx hb dL_law_32 (by rw [e4]; decide) (by rw [e4]; decide) (by rw [e4]; rfl) (by decide) ?_
        exact op_told hL C0 hG hi5 hI hP hD hS hl fin
      by_cases e5 : X9 = 5
      · refine lv_tableIn (off := 313) (tgt := 345) hx hb dL_law_32 (by rw [e5]; decide) (by rw [e5]; decide) (by rw [e5]; rfl) (by decide) ?_
        exact op_table hL C0 hG hi5 hI hP hD hS hl fin
      by_cases e6 : X9 = 6
      · refine lv_tableIn (off := 336) (tgt := 368) hx hb dL_law_32 (by rw [e6]; decide) (by rw [e6]; decide) (by rw [e6]; rfl) (by decide) ?_
        exact op_place hL C0 hG hi5 hI hP hD hS hl fin
      by_cases e7 : X9 = 7
      · refine lv_tableIn (off := 359) (tgt := 391) hx hb dL_law_32 (by rw [e7]; decide) (by rw [e7]; decide) (by rw [e7]; rfl) (by decide) ?_
        exact op_word hL C0 hG hi5 hI hP hD hS hl fin
      by_cases e8 : X9 = 8
      · refine lv_tableIn (off := 392) (tgt := 424) hx hb dL_law_32 (by rw [e8]; decide) (by rw [e8]; decide) (by rw [e8]; rfl) (by decide) ?_
        exact op_swap hL C0 hG hi5 hI hP hD hS hl fin
      by_cases e9 : X9 = 9
      · refine lv_tableIn (off := 425) (tgt := 457) hx hb dL_law_32 (by rw [e9]; decide) (by rw [e9]; decide) (by rw [e9]; rfl) (by decide) ?_
        exact op_takes hL C0 hG hi5 hI hP hD hS hl fin
      by_cases e10 : X9 = 10
      · refine lv_tableIn (off := 448) (tgt := 480) hx hb dL_law_32 (by rw [e10]; decide) (by rw [e10]; decide) (by rw [e10]; rfl) (by decide) ?_
        exact op_wrong hL C0 hG hi5 hI hP hD hS hl fin
      by_cases e11 : X9 = 11
      · refine lv_tableIn (off := 461) (tgt := 493) hx hb dL_law_32 (by rw [e11]; decide) (by rw [e11]; decide) (by rw [e11]; rfl) (by decide) ?_
        exact op_mean hL C0 hG hi5 hI hP hD hS hl fin
      by_cases e12 : X9 = 12
      · refine lv_tableIn (off := 484) (tgt := 516) hx hb dL_law_32 (by rw [e12]; decide) (by rw [e12]; decide) (by rw [e12]; rfl) (by decide) ?_
        exact op_best hL C0 hG hi5 hI hP hD hS hl fin
      by_cases e13 : X9 = 13
      · refine lv_tableIn (off := 507) (tgt := 539) hx hb dL_law_32 (by rw [e13]; decide) (by rw [e13]; decide) (by rw [e13]; rfl) (by decide) ?_
        exact op_adopt hL C0 hG hi5 hI hP hD hS hl fin
      by_cases e14 : X9 = 14
      · refine lv_tableIn (off := 520) (tgt := 552) hx hb dL_law_32 (by rw [e14]; decide) (by rw [e14]; decide) (by rw [e14]; rfl) (by decide) ?_
        exact op_hear hL C0 hG hi5 hI hP hD hS hl fin
      by_cases e15 : X9 = 15
      · refine lv_tableIn (off := 543) (tgt := 575) hx hb dL_law_32 (by rw [e15]; decide) (by rw [e15]; decide) (by rw [e15]; rfl) (by decide) ?_
        exact op_hush hL C0 hG hi5 hI hP hD hS hl fin
      by_cases e16 : X9 = 16
      · refine lv_tableIn (off := 556) (tgt := 588) hx hb dL_law_32 (by rw [e16]; decide) (by rw [e16]; decide) (by rw [e16]; rfl) (by decide) ?_
        exact op_heard hL C0 hG hi5 hI hP hD hS hl fin
      by_cases e17 : X9 = 17
      · refine lv_tableIn (off := 579) (tgt := 611) hx hb dL_law_32 (by rw [e17]; decide) (by rw [e17]; decide) (by rw [e17]; rfl) (by decide) ?_
        exact op_chance hL C0 hG hi5 hI hP hD hS hl fin
      by_cases e18 : X9 = 18
      · refine lv_tableIn (off := 613) (tgt := 645) hx hb dL_law_32 (by rw [e18]; decide) (by rw [e18]; decide) (by rw [e18]; rfl) (by decide) ?_
        exact op_likeliest hL C0 hG hi5 hI hP hD hS hl fin
      by_cases e19 : X9 = 19
      · refine lv_tableIn (off := 626) (tgt := 658) hx hb dL_law_32 (by rw [e19]; decide) (by rw [e19]; decide) (by rw [e19]; rfl) (by decide) ?_
        exact op_sure hL C0 hG hi5 hI hP hD hS hl fin
      by_cases e20 : X9 = 20
      · refine lv_tableIn (off := 650) (tgt := 682) hx hb dL_law_32 (by rw [e20]; decide) (by rw [e20]; decide) (by rw [e20]; rfl) (by decide) ?_
        exact op_fits hL C0 hG hi5 hI hP hD hS hl fin
      by_cases e21 : X9 = 21
      · refine lv_tableIn (off := 663) (tgt := 695) hx hb dL_law_32 (by rw [e21]; decide) (by rw [e21]; decide) (by rw [e21]; rfl) (by decide) ?_
        exact op_right hL C0 hG hi5 hI hP hD hS hl fin
      by_cases e22 : X9 = 22
      · refine lv_tableIn (off := 707) (tgt := 739) hx hb dL_law_32 (by rw [e22]; decide) (by rw [e22]; decide) (by rw [e22]; rfl) (by decide) ?_
        exact op_mouths hL C0 hG hi5 hI hP hD hS hl fin
      by_cases e23 : X9 = 23
      · refine lv_tableIn (off := 761) (tgt := 793) hx hb dL_law_32 (by rw [e23]; decide) (by rw [e23]; decide) (by rw [e23]; rfl) (by decide) ?_
        exact op_letter hL C0 hG hi5 hI hP hD hS hl fin
      by_cases e24 : X9 = 24
      · refine lv_tableIn (off := 815) (tgt := 847) hx hb dL_law_32 (by rw [e24]; decide) (by rw [e24]; decide) (by rw [e24]; rfl) (by decide) ?_
        exact op_becomes hL C0 hG hi5 hI hP hD hS hl fin
      by_cases e25 : X9 = 25
      · refine lv_tableIn (off := 848) (tgt := 880) hx hb dL_law_32 (by rw [e25]; decide) (by rw [e25]; decide) (by rw [e25]; rfl) (by decide) ?_
        exact op_pipe hL C0 hG hi5 hI hP hD hS hl fin
      by_cases e26 : X9 = 26
      · refine lv_tableIn (off := 892) (tgt := 924) hx hb dL_law_32 (by rw [e26]; decide) (by rw [e26]; decide) (by rw [e26]; rfl) (by decide) ?_
        exact op_turns hL C0 hG hi5 hI hP hD hS hl fin
      by_cases e27 : X9 = 27
      · refine lv_tableIn (off := 915) (tgt := 947) hx hb dL_law_32 (by rw [e27]; decide) (by rw [e27]; decide) (by rw [e27]; rfl) (by decide) ?_
        exact op_still hL C0 hG hi5 hI hP hD hS hl fin
      by_cases e28 : X9 = 28
      · refine lv_tableIn (off := 948) (tgt := 980) hx hb dL_law_32 (by rw [e28]; decide) (by rw [e28]; decide) (by rw [e28]; rfl) (by decide) ?_
        exact op_begin hL C0 hG hi5 hI hP hD hS hl fin
      by_cases e29 : X9 = 29
      · refine lv_tableIn (off := 981) (tgt := 1013) hx hb dL_law_32 (by rw [e29]; decide) (by rw [e29]; decide) (by rw [e29]; rfl) (by decide) ?_
        exact op_nights hL C0 hG hi5 hI hP hD hS hl fin
      by_cases e30 : X9 = 30
      · refine lv_tableIn (off := 1004) (tgt := 1036) hx hb dL_law_32 (by rw [e30]; decide) (by rw [e30]; decide) (by rw [e30]; rfl) (by decide) ?_
        exact op_longest hL C0 hG hi5 hI hP hD hS hl fin
      by_cases e31 : X9 = 31
      · refine lv_tableIn (off := 1027) (tgt := 1059) hx hb dL_law_32 (by rw [e31]; decide) (by rw [e31]; decide) (by rw [e31]; rfl) (by decide) ?_
        exact op_teach hL C0 hG hi5 hI hP hD hS hl fin
      by_cases e32 : X9 = 32
      · refine lv_tableIn (off := 1050) (tgt := 1082) hx hb dL_law_32 (by rw [e32]; decide) (by rw [e32]; decide) (by rw [e32]; rfl) (by decide) ?_
        exact op_said hL C0 hG hi5 hI hP hD hS hl fin
      by_cases e33 : X9 = 33
      · refine lv_tableIn (off := 1093) (tgt := 1125) hx hb dL_law_32 (by rw [e33]; decide) (by rw [e33]; decide) (by rw [e33]; rfl) (by decide) ?_
        exact op_knows hL C0 hG hi5 hI hP hD hS hl fin
      by_cases e34 : X9 = 34
      · refine lv_tableIn (off := 1116) (tgt := 1148) hx hb dL_law_32 (by rw [e34]; decide) (by rw [e34]; decide) (by rw [e34]; rfl) (by decide) ?_
        exact op_ask hL C0 hG hi5 hI hP hD hS hl fin
      by_cases e35 : X9 = 35
      · refine lv_tableIn (off := 1159) (tgt := 1191) hx hb dL_law_32 (by rw [e35]; decide) (by rw [e35]; decide) (by rw [e35]; rfl) (by decide) ?_
        exact op_heardBy hL C0 hG hi5 hI hP hD hS hl fin
      by_cases e36 : X9 = 36
      · refine lv_tableIn (off := 1182) (tgt := 1214) hx hb dL_law_32 (by rw [e36]; decide) (by rw [e36]; decide) (by rw [e36]; rfl) (by decide) ?_
        exact op_keep hL C0 hG hi5 hI hP hD hS hl fin
      by_cases e37 : X9 = 37
      · refine lv_tableIn (off := 1205) (tgt := 1237) hx hb dL_law_32 (by rw [e37]; decide) (by rw [e37]; decide) (by rw [e37]; rfl) (by decide) ?_
        exact op_back hL C0 hG hi5 hI hP hD hS hl fin
      by_cases e38 : X9 = 38
      · refine lv_tableIn (off := 1228) (tgt := 1260) hx hb dL_law_32 (by rw [e38]; decide) (by rw [e38]; decide) (by rw [e38]; rfl) (by decide) ?_
        exact op_sheet hL C0 hG hi5 hI hP hD hS hl fin
      by_cases e39 : X9 = 39
      · refine lv_tableIn (off := 1271) (tgt := 1303) hx hb dL_law_32 (by rw [e39]; decide) (by rw [e39]; decide) (by rw [e39]; rfl) (by decide) ?_
        exact op_lay hL C0 hG hi5 hI hP hD hS hl fin
      by_cases e40 : X9 = 40
      · refine lv_tableIn (off := 1314) (tgt := 1346) hx hb dL_law_32 (by rw [e40]; decide) (by rw [e40]; decide) (by rw [e40]; rfl) (by decide) ?_
        exact op_read hL C0 hG hi5 hI hP hD hS hl fin
      by_cases e41 : X9 = 41
      · refine lv_tableIn (off := 1367) (tgt := 1399) hx hb dL_law_32 (by rw [e41]; decide) (by rw [e41]; decide) (by rw [e41]; rfl) (by decide) ?_
        exact op_torn hL C0 hG hi5 hI hP hD hS hl fin
      by_cases e42 : X9 = 42
      · refine lv_tableIn (off := 1380) (tgt := 1412) hx hb dL_law_32 (by rw [e42]; decide) (by rw [e42]; decide) (by rw [e42]; rfl) (by decide) ?_
        exact op_count hL C0 hG hi5 hI hP hD hS hl fin
      have w0 : ¬ X9.toInt = 0 := fun z => e0 (Int32.toInt_inj.mp (z.trans (by decide)))
      have w1 : ¬ X9.toInt = 1 := fun z => e1 (Int32.toInt_inj.mp (z.trans (by decide)))
      have w2 : ¬ X9.toInt = 2 := fun z => e2 (Int32.toInt_inj.mp (z.trans (by decide)))
      have w3 : ¬ X9.toInt = 3 := fun z => e3 (Int32.toInt_inj.mp (z.trans (by decide)))
      have w4 : ¬ X9.toInt = 4 := fun z => e4 (Int32.toInt_inj.mp (z.trans (by decide)))
      have w5 : ¬ X9.toInt = 5 := fun z => e5 (Int32.toInt_inj.mp (z.trans (by decide)))
      have w6 : ¬ X9.toInt = 6 := fun z => e6 (Int32.toInt_inj.mp (z.trans (by decide)))
      have w7 : ¬ X9.toInt = 7 := fun z => e7 (Int32.toInt_inj.mp (z.trans (by decide)))
      have w8 : ¬ X9.toInt = 8 := fun z => e8 (Int32.toInt_inj.mp (z.trans (by decide)))
      have w9 : ¬ X9.toInt = 9 := fun z => e9 (Int32.toInt_inj.mp (z.trans (by decide)))
      have w10 : ¬ X9.toInt = 10 := fun z => e10 (Int32.toInt_inj.mp (z.trans (by decide)))
      have w11 : ¬ X9.toInt = 11 := fun z => e11 (Int32.toInt_inj.mp (z.trans (by decide)))
      have w12 : ¬ X9.toInt = 12 := fun z => e12 (Int32.toInt_inj.mp (z.trans (by decide)))
      have w13 : ¬ X9.toInt = 13 := fun z => e13 (Int32.toInt_inj.mp (z.trans (by decide)))
      have w14 : ¬ X9.toInt = 14 := fun z => e14 (Int32.toInt_inj.mp (z.trans (by decide)))
      have w15 : ¬ X9.toInt = 15 := fun z => e15 (Int32.toInt_inj.mp (z.trans (by decide)))
      have w16 : ¬ X9.toInt = 16 := fun z => e16 (Int32.toInt_inj.mp (z.trans (by decide)))
      have w17 : ¬ X9.toInt = 17 := fun z => e17 (Int32.toInt_inj.mp (z.trans (by decide)))
      have w18 : ¬ X9.toInt = 18 := fun z => e18 (Int32.toInt_inj.mp (z.trans (by decide)))
      have w19 : ¬ X9.toInt = 19 := fun z => e19 (Int32.toInt_inj.mp (z.trans (by decide)))
      have w20 : ¬ X9.toInt = 20 := fun z => e20 (Int32.toInt_inj.mp (z.trans (by decide)))
      have w21 : ¬ X9.toInt = 21 := fun z => e21 (Int32.toInt_inj.mp (z.trans (by decide)))
      have w22 : ¬ X9.toInt = 22 := fun z => e22 (Int32.toInt_inj.mp (z.trans (by decide)))
      have w23 : ¬ X9.toInt = 23 := fun z => e23 (Int32.toInt_inj.mp (z.trans (by decide)))
      have w24 : ¬ X9.toInt = 24 := fun z => e24 (Int32.toInt_inj.mp (z.trans (by decide)))
      have w25 : ¬ X9.toInt = 25 := fun z => e25 (Int32.toInt_inj.mp (z.trans (by decide)))
      have w26 : ¬ X9.toInt = 26 := fun z => e26 (Int32.toInt_inj.mp (z.trans (by decide)))
      have w27 : ¬ X9.toInt = 27 := fun z => e27 (Int32.toInt_inj.mp (z.trans (by decide)))
      have w28 : ¬ X9.toInt = 28 := fun z => e28 (Int32.toInt_inj.mp (z.trans (by decide)))
      have w29 : ¬ X9.toInt = 29 := fun z => e29 (Int32.toInt_inj.mp (z.trans (by decide)))
      have w30 : ¬ X9.toInt = 30 := fun z => e30 (Int32.toInt_inj.mp (z.trans (by decide)))
      have w31 : ¬ X9.toInt = 31 := fun z => e31 (Int32.toInt_inj.mp (z.trans (by decide)))
      have w32 : ¬ X9.toInt = 32 := fun z => e32 (Int32.toInt_inj.mp (z.trans (by decide)))
      have w33 : ¬ X9.toInt = 33 := fun z => e33 (Int32.toInt_inj.mp (z.trans (by decide)))
      have w34 : ¬ X9.toInt = 34 := fun z => e34 (Int32.toInt_inj.mp (z.trans (by decide)))
      have w35 : ¬ X9.toInt = 35 := fun z => e35 (Int32.toInt_inj.mp (z.trans (by decide)))
      have w36 : ¬ X9.toInt = 36 := fun z => e36 (Int32.toInt_inj.mp (z.trans (by decide)))
      have w37 : ¬ X9.toInt = 37 := fun z => e37 (Int32.toInt_inj.mp (z.trans (by decide)))
      have w38 : ¬ X9.toInt = 38 := fun z => e38 (Int32.toInt_inj.mp (z.trans (by decide)))
      have w39 : ¬ X9.toInt = 39 := fun z => e39 (Int32.toInt_inj.mp (z.trans (by decide)))
      have w40 : ¬ X9.toInt = 40 := fun z => e40 (Int32.toInt_inj.mp (z.trans (by decide)))
      have w41 : ¬ X9.toInt = 41 := fun z => e41 (Int32.toInt_inj.mp (z.trans (by decide)))
      have w42 : ¬ X9.toInt = 42 := fun z => e42 (Int32.toInt_inj.mp (z.trans (by decide)))
      refine lv_tableOut (tgt := 1435) hx hb dL_law_32 (by omega) (by decide) ?_
      exact fin Ws H locs hI hP hD hS
