/-! what is given at the start -/
theorem st_arr {args : Array Value} {s : State} {ty : FieldType} (h : (Cond.arrayClass ty).before args s = true) (hty : ∀ C, ty ≠ .object C) : ∃ cA, ArrOfT s cA ty ∧ va_RA s cA ty := by
  obtain ⟨c, k, comp, h1, h2, h3⟩ := Cond.arrayClass_spec h
  refine ⟨c, fun n z => ⟨fun k h => (by cases h), k, h2, comp, h3⟩, ?_⟩
  cases ty with
  | object C => exact absurd rfl (hty C)
  | _ => exact h1
theorem st_obj {s : State} {C : String} (h : va_AO C s) : ∃ cA, ArrOfT s cA (.object C) ∧ va_RA s cA (.object C) := by
  obtain ⟨comp, c, k, h1, h2, h3, h4, h5⟩ := Cond.arrayOver_spec h
  exact ⟨c, fun n z => ⟨fun k h => (by cases h), k, h3, comp, h4⟩, k, comp, h3, h4, h1, h5⟩
theorem st_aoa {s : State} {ty : FieldType} (h : va_AOA ty s) : ∃ cA, ArrOfT s cA (.array ty) ∧ va_RA s cA (.array ty) := by
  obtain ⟨comp, c, k, h1, h2, h3, h4⟩ := h
  exact ⟨c, fun n z => ⟨fun k h => (by cases h), k, h2, comp, h3⟩, h4⟩
abbrev tmC : Term := .static "KnockWall" "CHEAPEST" "[I"
abbrev tmS (i : Nat) : Term := .string "KnockWall$Reader" (kIx.getD i 0)
abbrev flN : List Cond := flatC (Jvm.Cond.and given_1 narrow_1)
theorem fm_0 : Cond.arrayOf tmC .int ∈ flN := by decide +kernel
theorem fm_1 : Cond.eq (.length tmC) (.int (Int32.ofNat 25)) ∈ flN := by decide +kernel
theorem fm_2 : ∀ j, j < 25 → Cond.eq (.elem tmC (.int (Int32.ofNat j))) (.int (cheapL.getD j 0)) ∈ flN := by decide +kernel
theorem fm_3 : ∀ i, i < 6 → Cond.exactly (tmS i) "java/lang/String" ∈ flN := by decide +kernel
theorem fm_4 : ∀ i, i < 6 → Cond.eq (.field (tmS i) "java/lang/String" "coder" "B") (.int 0) ∈ flN := by decide +kernel
theorem fm_5 : ∀ i, i < 6 → Cond.arrayOf (.field (tmS i) "java/lang/String" "value" "[B") .byte ∈ flN := by decide +kernel
theorem fm_6 : ∀ i, i < 6 → Cond.eq (.length (.field (tmS i) "java/lang/String" "value" "[B")) (.int (Int32.ofNat (kLen.getD i 0))) ∈ flN := by decide +kernel
theorem fm_7 : ∀ i, i < 6 → ∀ j, j < kLen.getD i 0 → Cond.eq (.elem (.field (tmS i) "java/lang/String" "value" "[B") (.int (Int32.ofNat j))) (.int ((kByt.getD i []).getD j 0)) ∈ flN := by decide +kernel
theorem fm_8 : ∀ i, i < 6 → ∀ j, j < 6 → i ≠ j → Cond.not (Cond.eq (tmS i) (tmS j)) ∈ flN ∨ Cond.not (Cond.eq (tmS j) (tmS i)) ∈ flN := by decide +kernel
theorem fm_9 : Cond.eq (.static "java/lang/String" "COMPACT_STRINGS" "Z") (.int 1) ∈ flN := by decide +kernel
theorem fm_10 : Cond.isRef (.static "jdk/internal/util/Preconditions" "SIOOBE_FORMATTER" "Ljava/util/function/BiFunction;") ∈ flN := by decide +kernel
theorem tb_1 : ∀ i, i < 6 → Cond.stringRef "KnockWall$Reader" (kIx.getD i 0) (kTx.getD i "") ∈ tables_1 := by decide +kernel
theorem tb_2 : ∀ q ∈ nwL, Cond.methodLinkNest q.1 q.2.1 q.2.2 "KnockWall" ∈ tables_1 := by decide +kernel
theorem tb_3 : nwPlace ∈ tables_1 ∧ nwCheap ∈ tables_1 ∧ Cond.arrayOver (.object "KnockWall$Image") ∈ tables_1 ∧ Cond.arrayOver (.object "KnockWall$Sheet") ∈ tables_1 ∧ Cond.arrayOver (.array .long) ∈ tables_1 ∧ Cond.arrayOver (.array .int) ∈ tables_1 := by decide +kernel
theorem tb_4 : Cond.laysStatic "KnockWall" "CHEAPEST" "[I" ∈ tables_1 ∧ Cond.laysStatic "java/lang/String" "COMPACT_STRINGS" "Z" ∈ tables_1 ∧ Cond.laysStatic "jdk/internal/util/Preconditions" "SIOOBE_FORMATTER" "Ljava/util/function/BiFunction;" ∈ tables_1 ∧ Cond.initialized "KnockWall" ∈ tables_1 ∧ Cond.initialized "java/lang/String" ∈ tables_1 ∧ Cond.initialized "jdk/internal/util/Preconditions" ∈ tables_1 := by decide +kernel
theorem tb_in {w : Cond} (h : w ∈ tables_1) : w ∈ lw_tbl := List.mem_append_right _ h
set_option maxHeartbeats 4000000 in
set_option maxRecDepth 100000 in
theorem gf_start {p : Program} {s : State} {m : MethodId} {meth : Method} {c : Code} {b L : Nat} {xs : Nat → Int32} (C0 : lw_At p s m meth c b L xs) : ∃ (D : va_G) (g : gE), GF D g (lA s) s ∧ GI s := by
  obtain ⟨hx, hb, hr, hml, hown, hts, hX, hbl, hlocks, hgv⟩ := C0
  have hs : ∀ w ∈ flN, w.before #[Value.ref b] s = true := flat_of_before _ hgv
  have tb : ∀ w ∈ tables_1, w.before #[Value.ref b] s = true := fun w h => hts w (tb_in h)
  have hA0 : ∀ a : Nat, a < s.heap.size → ¬ lA s a := fun a h => Nat.not_le.mpr h
  have hI : GI s := ⟨fun q hq => va_Nw.of rfl (tb _ (tb_2 q hq)), va_AO.of (tb _ tb_3.2.2.1), va_AO.of (tb _ tb_3.2.2.2.1), va_AOA.of (tb _ tb_3.2.2.2.2.1), va_AOA.of (tb _ tb_3.2.2.2.2.2)⟩
  obtain ⟨c0, z0, k0⟩ := u_known (C := RX0) (T := TX0) (N := 15) (n := 15) hts inX0 (hts (.instantiable RX0 15) (wsL_law_in _ (inR_2 (List.mem_of_getElem? (i := 23) rfl))))
  obtain ⟨c1, z1, k1⟩ := u_known (C := RX1) (T := TX1) (N := 5) (n := 5) hts inX1 (hts (.instantiable RX1 5) (wsL_law_in _ (inR_2 (List.mem_of_getElem? (i := 13) rfl))))
  obtain ⟨c2, z2, k2⟩ := u_known (C := RX2) (T := TX2) (N := 6) (n := 6) hts inX2 (hts (.instantiable RX2 6) (wsL_law_in _ (inR_1 (List.mem_of_getElem? (i := 22) rfl))))
  obtain ⟨c3, z3, k3⟩ := u_known (C := RX3) (T := TX3) (N := 2) (n := 2) hts inX3 (hts (.instantiable RX3 2) (wsL_law_in _ (inR_2 (List.mem_of_getElem? (i := 17) rfl))))
  obtain ⟨c4, z4, k4⟩ := u_known (C := RX4) (T := TX4) (N := 6) (n := 6) hts inX4 (hts (.instantiable RX4 6) (wsL_law_in _ (inR_5 (List.mem_of_getElem? (i := 1) rfl))))
  obtain ⟨c5, z5, k5⟩ := u_known (C := RX5) (T := TX5) (N := 1) (n := 1) hts inX5 (hts (.instantiable RX5 1) (wsL_law_in _ (inR_5 (List.mem_of_getElem? (i := 8) rfl))))
  obtain ⟨c6, z6, k6⟩ := u_known (C := RX6) (T := TX6) (N := 2) (n := 2) hts inX6 (hts (.instantiable RX6 2) (wsL_law_in _ (inR_1 (List.mem_of_getElem? (i := 18) rfl))))
  obtain ⟨c7, z7, k7⟩ := u_known (C := RX7) (T := TX7) (N := 7) (n := 7) hts inX7 (hts (.instantiable RX7 7) (wsL_law_in _ (inR_2 (List.mem_of_getElem? (i := 5) rfl))))
  obtain ⟨c8, z8, k8⟩ := u_known (C := RX8) (T := TX8) (N := 3) (n := 3) hts inX8 (hts (.instantiable RX8 3) (wsL_law_in _ (inR_3 (List.mem_of_getElem? (i := 3) rfl))))
  obtain ⟨c9, z9, k9⟩ := u_known (C := RX9) (T := TX9) (N := 6) (n := 6) hts inX9 (hts (.instantiable RX9 6) (wsL_law_in _ (inR_1 (List.mem_of_getElem? (i := 14) rfl))))
  obtain ⟨c10, z10, k10⟩ := u_known (C := RX10) (T := TX10) (N := 3) (n := 3) hts inX10 (hts (.instantiable RX10 3) (wsL_law_in _ (inR_2 (List.mem_of_getElem? (i := 9) rfl))))
  obtain ⟨c11, z11, k11⟩ := u_known (C := RX11) (T := TX11) (N := 14) (n := 14) hts inX11 (hts (.instantiable RX11 14) (wsL_law_in _ (inR_1 (List.mem_of_getElem? (i := 1) rfl))))
  obtain ⟨c12, z12, k12⟩ := u_known (C := RX12) (T := TX12) (N := 35) (n := 35) hts inX12 (hts (.instantiable RX12 35) (wsL_law_in _ (inR_1 (List.mem_of_getElem? (i := 4) rfl))))
  obtain ⟨t0, y0⟩ := st_arr (hts (.arrayClass .byte) (wsL_law_in _ (inR_3 (List.mem_of_getElem? (i := 9) rfl)))) (fun C h => by cases h)
  obtain ⟨t1, y1⟩ := st_arr (hts (.arrayClass .int) (wsL_law_in _ (inR_2 (List.mem_of_getElem? (i := 20) rfl)))) (fun C h => by cases h)
  obtain ⟨t2, y2⟩ := st_arr (hts (.arrayClass .long) (wsL_law_in _ (inR_4 (List.mem_of_getElem? (i := 9) rfl)))) (fun C h => by cases h)
  obtain ⟨t3, y3⟩ := st_arr (hts (.arrayClass .boolean) (wsL_law_in _ (inR_8 (List.mem_of_getElem? (i := 21) rfl)))) (fun C h => by cases h)
  obtain ⟨t4, y4⟩ := st_obj hI.2.1
  obtain ⟨t5, y5⟩ := st_obj hI.2.2.1
  obtain ⟨t6, y6⟩ := st_aoa hI.2.2.2.2
  obtain ⟨t7, y7⟩ := st_aoa hI.2.2.2.1
  obtain ⟨t, ht, hT⟩ := va_Tof (tm := tmC) (ty := .int) (N := 25) (f := fun j => .int (cheapL.getD j 0)) (A := lA s) (by decide) (hs _ fm_0) (va_eqt (hs _ fm_1)) (fun j hj => va_eqt (hs _ (fm_2 j hj))) hA0
  obtain ⟨adK, adV, hSS, hev⟩ := vk_Sof (args := #[Value.ref b]) (N := 6) (tm := tmS) (len := kLen) (byt := kByt) (A := lA s) (by decide) (fun i hi => hs _ (fm_3 i hi)) (fun i hi => hs _ (fm_4 i hi)) (fun i hi => hs _ (fm_5 i hi)) (fun i hi => hs _ (fm_6 i hi)) (fun i hi j hj => hs _ (fm_7 i hi j hj)) (fun i j hi hj hij => (fm_8 i hi j hj hij).imp (hs _) (hs _)) hA0
  refine ⟨(fun k => match k with | 0 => c0 | 1 => c1 | 2 => c2 | 3 => c3 | 4 => c4 | 5 => c5 | 6 => c6 | 7 => c7 | 8 => c8 | 9 => c9 | 10 => c10 | 11 => c11 | _ => c12, fun k => match k with | 0 => z0 | 1 => z1 | 2 => z2 | 3 => z3 | 4 => z4 | 5 => z5 | 6 => z6 | 7 => z7 | 8 => z8 | 9 => z9 | 10 => z10 | 11 => z11 | _ => z12), (fun k => match k with | 0 => t0 | 1 => t1 | 2 => t2 | 3 => t3 | 4 => t4 | 5 => t5 | 6 => t6 | _ => t7, t, adK, adV), ⟨⟨fun k q hq => ?_, fun k q hq => ?_⟩, va_Nw.of rfl (tb _ tb_3.1), va_Nw.of rfl (tb _ tb_3.2.1), va_Zof (tb _ tb_4.1) (tb _ tb_4.2.2.2.1) ht hA0, hT, hSS, fun i hi => vk_R.of (A := #[Value.ref b]) (tb _ (tb_1 i hi)) (hev i hi), va_Zof (tb _ tb_4.2.1) (tb _ tb_4.2.2.2.2.1) (va_eqt (hs _ fm_9)) hA0, va_Zqof (tb _ tb_4.2.2.1) (tb _ tb_4.2.2.2.2.2) (hs _ fm_10) hA0⟩, hI⟩
  · match k, hq with
    | 0, hq => cases hq; exact k0
    | 1, hq => cases hq; exact k1
    | 2, hq => cases hq; exact k2
    | 3, hq => cases hq; exact k3
    | 4, hq => cases hq; exact k4
    | 5, hq => cases hq; exact k5
    | 6, hq => cases hq; exact k6
    | 7, hq => cases hq; exact k7
    | 8, hq => cases hq; exact k8
    | 9, hq => cases hq; exact k9
    | 10, hq => cases hq; exact k10
    | 11, hq => cases hq; exact k11
    | 12, hq => cases hq; exact k12
    | k + 13, hq => simp [vwCl] at hq
  · match k, hq with
    | 0, hq => cases hq; exact y0
    | 1, hq => cases hq; exact y1
    | 2, hq => cases hq; exact y2
    | 3, hq => cases hq; exact y3
    | 4, hq => cases hq; exact y4
    | 5, hq => cases hq; exact y5
    | 6, hq => cases hq; exact y6
    | 7, hq => cases hq; exact y7
    | k + 8, hq => simp [tysG] at hq
