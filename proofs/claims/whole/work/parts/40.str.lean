section CN
variable {l : Launch} {D : va_G} {g : gE} {y : MethodName} {ws ws' : List Cond} {rm : Room} {av : List Value} {Wd : va_W} {cc : ByteArray} {maxL : Nat} {ret : Option FieldType}
theorem Cn.of {ty : FieldType} {post : Int32 → va_W → Prop} (hy : plainName y.cls = true) (hw : ws = Cond.code y cc maxL (some ty) :: ws') (hn : (lg_sl av).length ≤ maxL)
    (body : ∀ (p : Program) (e : Env) (s : State) (m : MethodId) (args : Array Value) (below : List Frame) (meth : Method) (c : Code) (A : Nat → Prop) (Q : State → Prop), p.tables.exec = Jvm.exec → c.code = cc → c.maxLocals = maxL → (∀ w ∈ ws, w.before args s = true) → s.vm.findClass y.cls = some m.cls → (∀ q, s.heap.size ≤ q → A q) → ∀ (H : Heap) (locs : List Loc), va_P D vwCl Wd H → va_D A Wd → va_S A s.heap H locs → GF D g A s → ∀ ls : Array Slot, lv_has ls maxL (lv_args 0 av) →
      (∀ (r : Int32) (W' : va_W) (H : Heap) (locs : List Loc) (pc : Nat) (ls : Array Slot), narrow ty (.int r) = .int r → post r W' → va_P D vwCl W' H → va_D A W' → va_S A s.heap H locs → decode cc pc = .ok (.ireturn, 1) → W p l e rm s m args below meth c H locs 0 0 Q (F0 m pc ls [.int r])) →
      W p l e rm s m args below meth c H locs 0 0 Q (F0 m 0 ls [])) : Ci l D g y ws rm av Wd post := by
  intro sz
  refine C_open (Qf := fun A => va_Qi post (cB D A) A) hy hw hn ?_ sz
  intro p e s m below meth c A hx hb hr hk hml hts hown hA hP hD hS hG ls hl
  exact body p e s m av.toArray below meth c A _ hx hb hml hts hown hA s.heap [] hP hD hS hG ls hl (fun r W' H locs pc ls hz h hP hD hS hd => W.zret (ty := ty) hx hb hr hz (fun t ht hW => ⟨⟨r, W', rfl, h, by rw [ht]; exact hP, hD⟩, hS.F ht⟩) hS.2.2 hd)
theorem GF.st {A : Nat → Prop} {U : State} (h : GF D g A U) : vk_S 6 kLen kByt g.2.2.1 g.2.2.2 A U U.heap := h.2.2.2.2.2.1
theorem GF.cs {A : Nat → Prop} {U : State} (h : GF D g A U) : va_Z "java/lang/String" "COMPACT_STRINGS" "Z" (.int 1) A U U.heap := h.2.2.2.2.2.2.2.1
theorem GF.sf {A : Nat → Prop} {U : State} (h : GF D g A U) : va_Zq "jdk/internal/util/Preconditions" "SIOOBE_FORMATTER" "Ljava/util/function/BiFunction;" A U U.heap := h.2.2.2.2.2.2.2.2
theorem k_preK {s : State} {A : Nat → Prop} {H : Heap} {locs : List Loc} {wd : va_W} {As : List Value} (hG : GF D g A s) (hA : ∀ q, s.heap.size ≤ q → A q) (hP : va_P D vwCl wd H) (hD : va_D A wd) (hS : va_S A s.heap H locs) (k : Nat) (hk : k < 6) : PreV s H RJ0 (g.2.2.1 k) (va_Pc (.ref (g.2.2.1 k) :: As) (cPre D g [] H.size)) As :=
  ⟨cPre.blind, vk_recv hG.st hk hS, fun U hU hW => ⟨rfl, k_pre hG hA hP hD hS [] rfl rfl U hU hW⟩⟩
end CN
theorem kb_len : ∀ k, k < 6 → kLen.getD k 0 < 100 := by decide
theorem kb_chr : ∀ k, k < 6 → ∀ j, j < kLen.getD k 0 → (((kByt.getD k []).getD j 0 &&& 255).toUInt32 % 65536).toInt32 = (kByt.getD k []).getD j 0 := by decide
theorem hdJ0_coder_7d493 : yJ0_coder_7d493.cls = RJ0 ∧ yJ0_coder_7d493.cls ≠ "java/lang/invoke/MethodHandle" ∧ yJ0_coder_7d493.cls ≠ "java/lang/invoke/VarHandle" ∧ (parseMethodDescriptor yJ0_coder_7d493.desc).map (fun d => d.parameters.length) = some 0 := by decide +kernel
theorem hdJ0_length_8abf5 : yJ0_length_8abf5.cls = RJ0 ∧ yJ0_length_8abf5.cls ≠ "java/lang/invoke/MethodHandle" ∧ yJ0_length_8abf5.cls ≠ "java/lang/invoke/VarHandle" ∧ (parseMethodDescriptor yJ0_length_8abf5.desc).map (fun d => d.parameters.length) = some 0 := by decide +kernel
theorem hdJ0_isLatin1_aae02 : yJ0_isLatin1_aae02.cls = RJ0 ∧ yJ0_isLatin1_aae02.cls ≠ "java/lang/invoke/MethodHandle" ∧ yJ0_isLatin1_aae02.cls ≠ "java/lang/invoke/VarHandle" ∧ (parseMethodDescriptor yJ0_isLatin1_aae02.desc).map (fun d => d.parameters.length) = some 0 := by decide +kernel
theorem hdJ3_checkIndex_8e157 : yJ3_checkIndex_8e157.cls = RJ3 ∧ yJ3_checkIndex_8e157.cls ≠ "java/lang/invoke/MethodHandle" ∧ yJ3_checkIndex_8e157.cls ≠ "java/lang/invoke/VarHandle" ∧ (parseMethodDescriptor yJ3_checkIndex_8e157.desc).map (fun d => d.parameters.length) = some 3 := by decide +kernel
theorem hdJ0_checkIndex_df160 : yJ0_checkIndex_df160.cls = RJ0 ∧ yJ0_checkIndex_df160.cls ≠ "java/lang/invoke/MethodHandle" ∧ yJ0_checkIndex_df160.cls ≠ "java/lang/invoke/VarHandle" ∧ (parseMethodDescriptor yJ0_checkIndex_df160.desc).map (fun d => d.parameters.length) = some 2 := by decide +kernel
theorem hdJ1_charAt_3b067 : yJ1_charAt_3b067.cls = RJ1 ∧ yJ1_charAt_3b067.cls ≠ "java/lang/invoke/MethodHandle" ∧ yJ1_charAt_3b067.cls ≠ "java/lang/invoke/VarHandle" ∧ (parseMethodDescriptor yJ1_charAt_3b067.desc).map (fun d => d.parameters.length) = some 2 := by decide +kernel
theorem hdJ0_charAt_5068e : yJ0_charAt_5068e.cls = RJ0 ∧ yJ0_charAt_5068e.cls ≠ "java/lang/invoke/MethodHandle" ∧ yJ0_charAt_5068e.cls ≠ "java/lang/invoke/VarHandle" ∧ (parseMethodDescriptor yJ0_charAt_5068e.desc).map (fun d => d.parameters.length) = some 1 := by decide +kernel
abbrev rmJ0_coder_7d493 : Room := { frames := 1, cells := 0, slots := 0, locals := 100 }
abbrev rmJ0_length_8abf5 : Room := { frames := 2, cells := 0, slots := 0, locals := 200 }
abbrev rmJ0_isLatin1_aae02 : Room := { frames := 1, cells := 0, slots := 0, locals := 100 }
abbrev rmJ3_checkIndex_8e157 : Room := { frames := 1, cells := 0, slots := 0, locals := 100 }
abbrev rmJ0_checkIndex_df160 : Room := { frames := 2, cells := 0, slots := 0, locals := 200 }
abbrev rmJ1_charAt_3b067 : Room := { frames := 3, cells := 0, slots := 0, locals := 300 }
abbrev rmJ0_charAt_5068e : Room := { frames := 4, cells := 0, slots := 0, locals := 400 }
set_option maxHeartbeats 4000000 in
set_option maxRecDepth 100000 in
theorem c_J0_coder_7d493 (l : Launch) (D : va_G) (g : gE) (k : Nat) (hk : k < 6) : Ci l D g yJ0_coder_7d493 (.code yJ0_coder_7d493 cJ0_coder_7d493 1 (some .byte) :: wsL_law) rmJ0_coder_7d493 [.ref (g.2.2.1 k)] [] (fun r W' => W' = [] ∧ r = 0) := by
  refine Cn.of (ty := .byte) (cc := cJ0_coder_7d493) (maxL := 1) (by decide) rfl (Nat.le_of_ble_eq_true rfl) ?_
  intro p e s m args below meth c A Q hx hb hml hts hown hA H locs hP hD hS hG ls hl hret
  have hown : s.vm.findClass RJ0 = some m.cls := hown
  have hl : lv_has ls 1 [(0, .ref (g.2.2.1 k))] := hl
  refine va_gets hx hb hG.cs hS hown (hts (.fieldLink RJ0 38 "java/lang/String" "COMPACT_STRINGS" "Z") (List.mem_cons_of_mem _ (inR_12 (List.mem_of_getElem? (i := 13) rfl)))) (fun _ h9 => h9) dJ0_coder_7d493_0 ?_
  refine lv_if_eq (tgt := 13) hx hb dJ0_coder_7d493_3 (by decide) (fun c1 => absurd c1 (by decide)) (fun c1 => ?_)
  refine lv_aload_n hx hb dJ0_coder_7d493_6 rfl (lv_at hl 0 rfl) ?_
  refine vk_getf hx hb (hG.st.1 k hk).2.1 hS hown (hts (.fieldLink RJ0 15 "java/lang/String" "coder" "B") (List.mem_cons_of_mem _ (inR_12 (List.mem_of_getElem? (i := 14) rfl)))) (fun _ h9 => h9) dJ0_coder_7d493_7 ?_
  refine lv_goto (tgt := 14) hx hb dJ0_coder_7d493_10 (by decide) ?_
  exact hret 0 _ _ _ _ _ rfl ⟨rfl, rfl⟩ hP hD hS dJ0_coder_7d493_14
set_option maxHeartbeats 4000000 in
set_option maxRecDepth 100000 in
theorem c_J0_isLatin1_aae02 (l : Launch) (D : va_G) (g : gE) (k : Nat) (hk : k < 6) : Ci l D g yJ0_isLatin1_aae02 (.code yJ0_isLatin1_aae02 cJ0_isLatin1_aae02 1 (some .boolean) :: wsL_law) rmJ0_isLatin1_aae02 [.ref (g.2.2.1 k)] [] (fun r W' => W' = [] ∧ r = 1) := by
  refine Cn.of (ty := .boolean) (cc := cJ0_isLatin1_aae02) (maxL := 1) (by decide) rfl (Nat.le_of_ble_eq_true rfl) ?_
  intro p e s m args below meth c A Q hx hb hml hts hown hA H locs hP hD hS hG ls hl hret
  have hown : s.vm.findClass RJ0 = some m.cls := hown
  have hl : lv_has ls 1 [(0, .ref (g.2.2.1 k))] := hl
  refine va_gets hx hb hG.cs hS hown (hts (.fieldLink RJ0 38 "java/lang/String" "COMPACT_STRINGS" "Z") (List.mem_cons_of_mem _ (inR_12 (List.mem_of_getElem? (i := 13) rfl)))) (fun _ h9 => h9) dJ0_isLatin1_aae02_0 ?_
  refine lv_if_eq (tgt := 17) hx hb dJ0_isLatin1_aae02_3 (by decide) (fun c1 => absurd c1 (by decide)) (fun c1 => ?_)
  refine lv_aload_n hx hb dJ0_isLatin1_aae02_6 rfl (lv_at hl 0 rfl) ?_
  refine vk_getf hx hb (hG.st.1 k hk).2.1 hS hown (hts (.fieldLink RJ0 15 "java/lang/String" "coder" "B") (List.mem_cons_of_mem _ (inR_12 (List.mem_of_getElem? (i := 14) rfl)))) (fun _ h9 => h9) dJ0_isLatin1_aae02_7 ?_
  refine lv_if_ne (tgt := 17) hx hb dJ0_isLatin1_aae02_10 (by decide) (fun c1 => absurd rfl c1) (fun c1 => ?_)
  refine lv_iconst (v := 1) hx hb dJ0_isLatin1_aae02_13 (by decide) ?_
  refine lv_goto (tgt := 18) hx hb dJ0_isLatin1_aae02_14 (by decide) ?_
  exact hret 1 _ _ _ _ _ rfl ⟨rfl, rfl⟩ hP hD hS dJ0_isLatin1_aae02_18
set_option maxHeartbeats 4000000 in
set_option maxRecDepth 100000 in
theorem c_J0_length_8abf5 (l : Launch) (D : va_G) (g : gE) (k : Nat) (hk : k < 6) : Ci l D g yJ0_length_8abf5 (.code yJ0_length_8abf5 cJ0_length_8abf5 1 (some .int) :: wsL_law) rmJ0_length_8abf5 [.ref (g.2.2.1 k)] [] (fun r W' => W' = [] ∧ r = nI (kLen.getD k 0)) := by
  refine Ci.of (cc := cJ0_length_8abf5) (maxL := 1) (by decide) rfl (Nat.le_of_ble_eq_true rfl) ?_
  intro p e s m args below meth c A Q hx hb hml hts hown hA H locs hP hD hS hG ls hl hret
  have hown : s.vm.findClass RJ0 = some m.cls := hown
  have hl : lv_has ls 1 [(0, .ref (g.2.2.1 k))] := hl
  refine lv_aload_n hx hb dJ0_length_8abf5_0 rfl (lv_at hl 0 rfl) ?_
  refine vk_getf hx hb (hG.st.1 k hk).2.2.1 hS hown (hts (.fieldLink RJ0 9 "java/lang/String" "value" "[B") (List.mem_cons_of_mem _ (inR_12 (List.mem_of_getElem? (i := 8) rfl)))) (fun _ h9 => h9) dJ0_length_8abf5_1 ?_
  refine va_tlen hx hb (hG.st.1 k hk).2.2.2 hS (v := nI (kLen.getD k 0)) rfl dJ0_length_8abf5_4 ?_
  refine lv_aload_n hx hb dJ0_length_8abf5_5 rfl (lv_at hl 0 rfl) ?_
  refine k_i (wr := []) hA hP hD hS [] [] rfl rfl (by decide) (by decide) (va_runV (As := []) (rest := [.int (nI (kLen.getD k 0))]) ⟨hx, hb, hml, hown, hts⟩ (c_J0_coder_7d493 l D g k hk H.size) (cwV 0 hts (gdV (inR_12 (List.mem_of_getElem? (i := 9) rfl)) (inR_12 (List.mem_of_getElem? (i := 10) rfl)) (inR_12 (List.mem_of_getElem? (i := 11) rfl)) (inR_12 (List.mem_of_getElem? (i := 6) rfl)) (inR_12 (List.mem_of_getElem? (i := 12) rfl))) rfl rfl rfl hdJ0_coder_7d493 ⟨Nat.le_of_ble_eq_true rfl, Nat.le_of_ble_eq_true rfl⟩) (k_preK hG hA hP hD hS k hk) rfl rfl hl.1 rfl (lv_room (Nat.le_of_ble_eq_true rfl)) dJ0_length_8abf5_6 ⟨Nat.zero_le _, Nat.zero_le _⟩) (fun r9 W' H locs h9 hP hD hS => ?_)
  obtain ⟨rfl, rfl⟩ := h9
  refine lv_ishr hx hb dJ0_length_8abf5_9 ?_
  have e9 : nI (kLen.getD k 0) >>> ((0 : Int32) &&& 31) = nI (kLen.getD k 0) := sc_shr0 (by have := kb_len k hk; omega)
  exact hret _ _ _ _ _ _ ⟨rfl, e9⟩ hP hD hS dJ0_length_8abf5_10
set_option maxHeartbeats 4000000 in
set_option maxRecDepth 100000 in
theorem c_J3_checkIndex_8e157_n (l : Launch) (D : va_G) (g : gE) (x0 x1 : Int32) (h0 : ¬ x0 < 0) (h1 : x0 < x1) : Ci l D g yJ3_checkIndex_8e157 (.code yJ3_checkIndex_8e157 cJ3_checkIndex_8e157 3 (some .int) :: wsL_law) rmJ3_checkIndex_8e157 [.int x0, .int x1, .null] [] (fun _ W' => W' = []) := by
  refine Ci.of (cc := cJ3_checkIndex_8e157) (maxL := 3) (by decide) rfl (Nat.le_of_ble_eq_true rfl) ?_
  intro p e s m args below meth c A Q hx hb hml hts hown hA H locs hP hD hS hG ls hl hret
  have hown : s.vm.findClass RJ3 = some m.cls := hown
  have hl : lv_has ls 3 [(0, .int x0), (1, .int x1), (2, .null)] := hl
  refine lv_iload_n hx hb dJ3_checkIndex_8e157_0 rfl (lv_at hl 0 rfl) ?_
  refine lv_if_lt (tgt := 9) hx hb dJ3_checkIndex_8e157_1 (by decide) (fun c1 => absurd c1 h0) (fun c1 => ?_)
  refine lv_iload_n hx hb dJ3_checkIndex_8e157_4 rfl (lv_at hl 0 rfl) ?_
  refine lv_iload_n hx hb dJ3_checkIndex_8e157_5 rfl (lv_at hl 1 rfl) ?_
  refine lv_icmp_lt (tgt := 16) hx hb dJ3_checkIndex_8e157_6 (by decide) (fun c1 => ?_) (fun c1 => absurd h1 c1)
  refine lv_iload_n hx hb dJ3_checkIndex_8e157_16 rfl (lv_at hl 0 rfl) ?_
  exact hret x0 _ _ _ _ _ rfl hP hD hS dJ3_checkIndex_8e157_17
set_option maxHeartbeats 4000000 in
set_option maxRecDepth 100000 in
theorem c_J3_checkIndex_8e157_r (l : Launch) (D : va_G) (g : gE) (t9 : Nat) (x0 x1 : Int32) (h0 : ¬ x0 < 0) (h1 : x0 < x1) : Ci l D g yJ3_checkIndex_8e157 (.code yJ3_checkIndex_8e157 cJ3_checkIndex_8e157 3 (some .int) :: wsL_law) rmJ3_checkIndex_8e157 [.int x0, .int x1, .ref t9] [] (fun _ W' => W' = []) := by
  refine Ci.of (cc := cJ3_checkIndex_8e157) (maxL := 3) (by decide) rfl (Nat.le_of_ble_eq_true rfl) ?_
  intro p e s m args below meth c A Q hx hb hml hts hown hA H locs hP hD hS hG ls hl hret
  have hown : s.vm.findClass RJ3 = some m.cls := hown
  have hl : lv_has ls 3 [(0, .int x0), (1, .int x1), (2, .ref t9)] := hl
  refine lv_iload_n hx hb dJ3_checkIndex_8e157_0 rfl (lv_at hl 0 rfl) ?_
  refine lv_if_lt (tgt := 9) hx hb dJ3_checkIndex_8e157_1 (by decide) (fun c1 => absurd c1 h0) (fun c1 => ?_)
  refine lv_iload_n hx hb dJ3_checkIndex_8e157_4 rfl (lv_at hl 0 rfl) ?_
  refine lv_iload_n hx hb dJ3_checkIndex_8e157_5 rfl (lv_at hl 1 rfl) ?_
  refine lv_icmp_lt (tgt := 16) hx hb dJ3_checkIndex_8e157_6 (by decide) (fun c1 => ?_) (fun c1 => absurd h1 c1)
  refine lv_iload_n hx hb dJ3_checkIndex_8e157_16 rfl (lv_at hl 0 rfl) ?_
  exact hret x0 _ _ _ _ _ rfl hP hD hS dJ3_checkIndex_8e157_17
set_option maxHeartbeats 4000000 in
set_option maxRecDepth 100000 in
theorem c_J0_checkIndex_df160 (l : Launch) (D : va_G) (g : gE) (x0 x1 : Int32) (h0 : ¬ x0 < 0) (h1 : x0 < x1) : Cv l D g yJ0_checkIndex_df160 (.code yJ0_checkIndex_df160 cJ0_checkIndex_df160 2 none :: wsL_law) rmJ0_checkIndex_df160 [.int x0, .int x1] [] (fun W' => W' = []) := by
  refine Cv.of (cc := cJ0_checkIndex_df160) (maxL := 2) (by decide) rfl (Nat.le_of_ble_eq_true rfl) ?_
  intro p e s m args below meth c A Q hx hb hml hts hown hA H locs hP hD hS hG ls hl hret
  have hown : s.vm.findClass RJ0 = some m.cls := hown
  have hl : lv_has ls 2 [(0, .int x0), (1, .int x1)] := hl
  refine lv_iload_n hx hb dJ0_checkIndex_df160_0 rfl (lv_at hl 0 rfl) ?_
  refine lv_iload_n hx hb dJ0_checkIndex_df160_1 rfl (lv_at hl 1 rfl) ?_
  rcases hG.sf with hz | ⟨t9, hz⟩
  · refine va_gets hx hb hz hS hown (hts (.fieldLink RJ0 1053 "jdk/internal/util/Preconditions" "SIOOBE_FORMATTER" "Ljava/util/function/BiFunction;") (List.mem_cons_of_mem _ (inR_13 (List.mem_of_getElem? (i := 6) rfl)))) (fun _ h9 => h9) dJ0_checkIndex_df160_2 ?_
    refine k_i (wr := []) hA hP hD hS [] [] rfl rfl (by decide) (by decide) (va_runS (As := [.int x0, .int x1, .null]) (rest := []) ⟨hx, hb, hml, hown, hts⟩ (c_J3_checkIndex_8e157_n l D g x0 x1 h0 h1 H.size) (va_cwS 3 hts (gdS (inR_13 (List.mem_of_getElem? (i := 7) rfl)) (inR_13 (List.mem_of_getElem? (i := 8) rfl)) (inR_13 (List.mem_of_getElem? (i := 9) rfl)) (inR_13 (List.mem_of_getElem? (i := 10) rfl))) rfl rfl rfl hdJ3_checkIndex_8e157.2 ⟨Nat.le_of_ble_eq_true rfl, Nat.le_of_ble_eq_true rfl⟩) (k_preS hG hA hP hD hS [] rfl (by decide)) rfl rfl hl.1 rfl (lv_room (Nat.le_of_ble_eq_true rfl)) dJ0_checkIndex_df160_5 ⟨Nat.zero_le _, Nat.zero_le _⟩) (fun r9 W' H locs h9 hP hD hS => ?_)
    obtain rfl := h9
    refine lv_pop hx hb dJ0_checkIndex_df160_8 rfl ?_
    exact hret _ _ _ _ _ rfl hP hD hS dJ0_checkIndex_df160_9
  · refine va_gets hx hb hz hS hown (hts (.fieldLink RJ0 1053 "jdk/internal/util/Preconditions" "SIOOBE_FORMATTER" "Ljava/util/function/BiFunction;") (List.mem_cons_of_mem _ (inR_13 (List.mem_of_getElem? (i := 6) rfl)))) (fun _ h9 => h9) dJ0_checkIndex_df160_2 ?_
    refine k_i (wr := []) hA hP hD hS [] [] rfl rfl (by decide) (by decide) (va_runS (As := [.int x0, .int x1, .ref t9]) (rest := []) ⟨hx, hb, hml, hown, hts⟩ (c_J3_checkIndex_8e157_r l D g t9 x0 x1 h0 h1 H.size) (va_cwS 3 hts (gdS (inR_13 (List.mem_of_getElem? (i := 7) rfl)) (inR_13 (List.mem_of_getElem? (i := 8) rfl)) (inR_13 (List.mem_of_getElem? (i := 9) rfl)) (inR_13 (List.mem_of_getElem? (i := 10) rfl))) rfl rfl rfl hdJ3_checkIndex_8e157.2 ⟨Nat.le_of_ble_eq_true rfl, Nat.le_of_ble_eq_true rfl⟩) (k_preS hG hA hP hD hS [] rfl (by decide)) rfl rfl hl.1 rfl (lv_room (Nat.le_of_ble_eq_true rfl)) dJ0_checkIndex_df160_5 ⟨Nat.zero_le _, Nat.zero_le _⟩) (fun r9 W' H locs h9 hP hD hS => ?_)
    obtain rfl := h9
    refine lv_pop hx hb dJ0_checkIndex_df160_8 rfl ?_
    exact hret _ _ _ _ _ rfl hP hD hS dJ0_checkIndex_df160_9

set_option maxHeartbeats 4000000 in
set_option maxRecDepth 100000 in
theorem c_J1_charAt_3b067 (l : Launch) (D : va_G) (g : gE) (k : Nat) (hk : k < 6) (x1 : Int32) (h1 : vp_in x1 (kLen.getD k 0)) : Ci l D g yJ1_charAt_3b067 (.code yJ1_charAt_3b067 cJ1_charAt_3b067 2 (some .char) :: wsL_law) rmJ1_charAt_3b067 [.ref (g.2.2.2 k), .int x1] [] (fun r W' => W' = [] ∧ r = (kByt.getD k []).getD x1.toNatClampNeg 0) := by
  refine Cn.of (ty := .char) (cc := cJ1_charAt_3b067) (maxL := 2) (by decide) rfl (Nat.le_of_ble_eq_true rfl) ?_
  intro p e s m args below meth c A Q hx hb hml hts hown hA H locs hP hD hS hG ls hl hret
  have hown : s.vm.findClass RJ1 = some m.cls := hown
  have hl : lv_has ls 2 [(0, .ref (g.2.2.2 k)), (1, .int x1)] := hl
  have h0 : ¬ x1 < 0 := fun q => h1 (Or.inl q)
  have h2 : x1 < nI (kLen.getD k 0) := by
    obtain ⟨j, hj, e, -⟩ := in_cases h1 (by have := kb_len k hk; omega)
    rw [e]; exact nI_lt hj (by have := kb_len k hk; omega)
  have h3 : x1.toNatClampNeg < kLen.getD k 0 := Nat.not_le.mp fun q => h1 (Or.inr q)
  refine lv_iload_n hx hb dJ1_charAt_3b067_0 rfl (lv_at hl 1 rfl) ?_
  refine lv_aload_n hx hb dJ1_charAt_3b067_1 rfl (lv_at hl 0 rfl) ?_
  refine va_tlen hx hb (hG.st.1 k hk).2.2.2 hS (v := nI (kLen.getD k 0)) rfl dJ1_charAt_3b067_2 ?_
  refine k_v (wr := []) hA hP hD hS [] [] rfl rfl (by decide) (by decide) (va_runS (As := [.int x1, .int (nI (kLen.getD k 0))]) (rest := []) ⟨hx, hb, hml, hown, hts⟩ (c_J0_checkIndex_df160 l D g x1 (nI (kLen.getD k 0)) h0 h2 H.size) (va_cwS 2 hts (gdS (inR_13 (List.mem_of_getElem? (i := 3) rfl)) (inR_13 (List.mem_of_getElem? (i := 4) rfl)) (inR_12 (List.mem_of_getElem? (i := 6) rfl)) (inR_13 (List.mem_of_getElem? (i := 5) rfl))) rfl rfl rfl hdJ0_checkIndex_df160.2 ⟨Nat.le_of_ble_eq_true rfl, Nat.le_of_ble_eq_true rfl⟩) (k_preS hG hA hP hD hS [] rfl (by decide)) rfl rfl hl.1 rfl (lv_room (Nat.le_of_ble_eq_true rfl)) dJ1_charAt_3b067_3 ⟨Nat.zero_le _, Nat.zero_le _⟩) (fun W' H locs h9 hP hD hS => ?_)
  obtain rfl := h9
  refine lv_aload_n hx hb dJ1_charAt_3b067_6 rfl (lv_at hl 0 rfl) ?_
  refine lv_iload_n hx hb dJ1_charAt_3b067_7 rfl (lv_at hl 1 rfl) ?_
  refine va_tb hx hb (hG.st.1 k hk).2.2.2 hS h1 (v := .int ((kByt.getD k []).getD x1.toNatClampNeg 0)) rfl dJ1_charAt_3b067_8 ?_
  refine lv_sipush (v := 255) hx hb dJ1_charAt_3b067_9 (by decide) ?_
  refine lv_iand hx hb dJ1_charAt_3b067_12 ?_
  refine lv_i2c hx hb dJ1_charAt_3b067_13 rfl ?_
  exact hret _ _ _ _ _ _ (pk_nc _) ⟨rfl, kb_chr k hk _ h3⟩ hP hD hS dJ1_charAt_3b067_14
set_option maxHeartbeats 4000000 in
set_option maxRecDepth 100000 in
theorem c_J0_charAt_5068e (l : Launch) (D : va_G) (g : gE) (k : Nat) (hk : k < 6) (x1 : Int32) (h1 : vp_in x1 (kLen.getD k 0)) : Ci l D g yJ0_charAt_5068e (.code yJ0_charAt_5068e cJ0_charAt_5068e 2 (some .char) :: wsL_law) rmJ0_charAt_5068e [.ref (g.2.2.1 k), .int x1] [] (fun r W' => W' = [] ∧ r = (kByt.getD k []).getD x1.toNatClampNeg 0) := by
  refine Cn.of (ty := .char) (cc := cJ0_charAt_5068e) (maxL := 2) (by decide) rfl (Nat.le_of_ble_eq_true rfl) ?_
  intro p e s m args below meth c A Q hx hb hml hts hown hA H locs hP hD hS hG ls hl hret
  have hown : s.vm.findClass RJ0 = some m.cls := hown
  have hl : lv_has ls 2 [(0, .ref (g.2.2.1 k)), (1, .int x1)] := hl
  have h3 : x1.toNatClampNeg < kLen.getD k 0 := Nat.not_le.mp fun q => h1 (Or.inr q)
  refine lv_aload_n hx hb dJ0_charAt_5068e_0 rfl (lv_at hl 0 rfl) ?_
  refine k_i (wr := []) hA hP hD hS [] [] rfl rfl (by decide) (by decide) (va_runV (As := []) (rest := []) ⟨hx, hb, hml, hown, hts⟩ (c_J0_isLatin1_aae02 l D g k hk H.size) (cwV 0 hts (gdV (inR_12 (List.mem_of_getElem? (i := 19) rfl)) (inR_12 (List.mem_of_getElem? (i := 20) rfl)) (inR_12 (List.mem_of_getElem? (i := 21) rfl)) (inR_12 (List.mem_of_getElem? (i := 6) rfl)) (inR_12 (List.mem_of_getElem? (i := 22) rfl))) rfl rfl rfl hdJ0_isLatin1_aae02 ⟨Nat.le_of_ble_eq_true rfl, Nat.le_of_ble_eq_true rfl⟩) (k_preK hG hA hP hD hS k hk) rfl rfl hl.1 rfl (lv_room (Nat.le_of_ble_eq_true rfl)) dJ0_charAt_5068e_1 ⟨Nat.zero_le _, Nat.zero_le _⟩) (fun r9 W' H locs h9 hP hD hS => ?_)
  obtain ⟨rfl, rfl⟩ := h9
  refine lv_if_eq (tgt := 16) hx hb dJ0_charAt_5068e_4 (by decide) (fun c1 => absurd c1 (by decide)) (fun c1 => ?_)
  refine lv_aload_n hx hb dJ0_charAt_5068e_7 rfl (lv_at hl 0 rfl) ?_
  refine vk_getf hx hb (hG.st.1 k hk).2.2.1 hS hown (hts (.fieldLink RJ0 9 "java/lang/String" "value" "[B") (List.mem_cons_of_mem _ (inR_12 (List.mem_of_getElem? (i := 8) rfl)))) (fun _ h9 => h9) dJ0_charAt_5068e_8 ?_
  refine lv_iload_n hx hb dJ0_charAt_5068e_11 rfl (lv_at hl 1 rfl) ?_
  refine k_i (wr := []) hA hP hD hS [] [] rfl rfl (by decide) (by decide) (va_runS (As := [.ref (g.2.2.2 k), .int x1]) (rest := []) ⟨hx, hb, hml, hown, hts⟩ (c_J1_charAt_3b067 l D g k hk x1 h1 H.size) (va_cwS 2 hts (gdS (inR_12 (List.mem_of_getElem? (i := 23) rfl)) (inR_13 (List.mem_of_getElem? (i := 0) rfl)) (inR_13 (List.mem_of_getElem? (i := 1) rfl)) (inR_13 (List.mem_of_getElem? (i := 2) rfl))) rfl rfl rfl hdJ1_charAt_3b067.2 ⟨Nat.le_of_ble_eq_true rfl, Nat.le_of_ble_eq_true rfl⟩) (k_preS hG hA hP hD hS [] rfl (by decide)) rfl rfl hl.1 rfl (lv_room (Nat.le_of_ble_eq_true rfl)) dJ0_charAt_5068e_12 ⟨Nat.zero_le _, Nat.zero_le _⟩) (fun r9 W' H locs h9 hP hD hS => ?_)
  obtain ⟨rfl, rfl⟩ := h9
  exact hret _ _ _ _ _ _ (by rw [← kb_chr k hk _ h3]; exact pk_nc _) ⟨rfl, rfl⟩ hP hD hS dJ0_charAt_5068e_15
