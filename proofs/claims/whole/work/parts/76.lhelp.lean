/-! the law: its words, what its steps need -/
/-! THE CLAIM OUT OF ONE WALK OF THE LAW'S BODY. Your part is whole_start (and what it stands on); all else here is the same for every law, but numbers. -/
def R_law : String := "KnockWallLaw"
def lw_P (b : Addr) (xs : List Int32) (args : Array Value) (s : State) : Prop := args = #[.ref b] ∧ s.IntsAt b xs ∧ xs.length ≤ 2560 ∧ (Jvm.Cond.and given_1 narrow_1).before args s = true
def lw_Q (_ : Array Value) (s : State) (o : Outcome) (t : State) : Prop := o = .returned (some (.int 1)) ∧ Framed s o t [] 600000 7302250
def lw_Z (below : List Frame) (a : Array Value) (s : State) : State → Prop := fun t => ∃ o, t.status = .running ∧ Ended t below o ∧ lw_Q a s o t
/-- the law's own end, with 1 on the stack, nothing written that was there before, its room as the claim has it -/
theorem lw_ret {p : Program} {l : Launch} {e : Env} {s : State} {m : MethodId} {below : List Frame} {meth : Method} {c : Code} {b : Nat} (hx : p.tables.exec = Jvm.exec) (hb : c.code = code) (hr : meth.sig.returnType = ret) (hlocks : meth.locks = false) {pc : Nat} {H : Heap} {ls : Array Slot} (hdg : decode code pc = .ok (.ireturn, 1)) : W p l e room_1 s m #[Value.ref b] below meth c H [] 600000 7302250 (lw_Z below #[Value.ref b] s) (F0 m pc ls [.int 1]) := by
  intro T hT X
  obtain ⟨fs, hret, hrun, hended, hW, hframe⟩ := X.leave (v := some (.int 1)) (hlocks := hlocks) (fun h => by rw [hr] at h; cases h)
  have hmeth' : T.vm.method? m = some meth := X.method'
  refine ⟨T.setFrames fs, ?_, .returned (some (.int 1)), hrun, hended, rfl, ⟨_, rfl⟩, hW, hframe⟩
  jvm_step X.here [X.here.top, hx, hb, hdg, hmeth', hr, ret, narrow_b1]
  (try refine ⟨rfl, ?_⟩); (try refine ⟨rfl, ?_⟩)
  first | (intro acts; rw [hret _ acts rfl rfl rfl]) | rw [hret _ _ rfl rfl rfl]
  exact Steps.refl _
/-- what holds at the law's entry: the machine, the code, the tables' words (any of lw_tbl by 'hts w (by decide +kernel)'), the script of L ints xs at the cell b, what the Statement gives of the start (any of its parts by flat_of_before) -/
def lw_At (p : Program) (s : State) (m : MethodId) (meth : Method) (c : Code) (b L : Nat) (xs : Nat → Int32) : Prop :=
  p.tables.exec = Jvm.exec ∧ c.code = code ∧ meth.sig.returnType = ret ∧ c.maxLocals = 4 ∧ s.vm.findClass R_law = some m.cls ∧ (∀ w ∈ lw_tbl, w.before #[Value.ref b] s = true) ∧ va_X b L xs s s.heap ∧ b < s.heap.size ∧ meth.locks = false ∧ (Jvm.Cond.and given_1 narrow_1).before #[Value.ref b] s = true
set_option maxRecDepth 20000 in
theorem wsL_law_in : ∀ w ∈ wsL_law, w ∈ lw_tbl := fun w h => (goodIn_p wsL_law [89, 92, 97, 137, 152, 187, 222, 239, 269, 283, 289, 320, 410, 427, 431, 434, 438, 443, 446, 449, 452, 1072, 499, 503, 1184, 507, 1188, 1191, 511, 515, 519, 524, 528, 532, 536, 541, 545, 549, 555, 559, 562, 565, 570, 573, 576, 579, 583, 593, 597, 601, 605, 608, 615, 620, 624, 628, 633, 638, 643, 648, 652, 655, 659, 663, 1195, 1199, 1203, 1211, 1215, 1219, 1223, 1227, 1231, 1235, 1239, 1243, 1247, 1251, 1255, 1259, 667, 1263, 671, 1267, 675, 1271, 1275, 1278, 680, 684, 1283, 1287, 688, 692, 696, 700, 705, 710, 1291, 1295, 1299, 1303, 1307, 1310, 716, 1315, 721, 725, 730, 734, 738, 742, 746, 1327, 1323, 1332, 1336, 1340, 752, 1319, 756, 760, 767, 773, 777, 783, 1344, 1348, 787, 1352, 791, 1356, 795, 798, 1360, 1363, 802, 1367, 806, 1371, 810, 813, 818, 823, 826, 831, 835, 838, 1375, 1380, 1386, 1390, 1394, 1398, 842, 1402, 1406, 846, 850, 1410, 1414, 854, 1418, 858, 862, 866, 870, 874, 1422, 1428, 1432, 878, 881, 885, 893, 888, 1436, 1441, 1444, 900, 1448, 1452, 904, 908, 1456, 912, 915, 1460, 1463, 919, 1467, 923, 926, 930, 1471, 1477, 934, 937, 941, 1481, 945, 949, 1486, 953, 957, 1490, 961, 965, 970, 1494, 1498, 1502, 1505, 976, 979, 1509, 1512, 985, 1516, 989, 1520, 993, 1525, 997, 1000, 1004, 1529, 1009, 1533, 1013, 1016, 1019, 1023, 1537, 1030, 1034, 1038, 1541, 1043, 1047, 1051, 1545, 1055, 1549, 1059, 1063, 1067, 1553] (by decide +kernel) (by decide +kernel) w h).1
theorem inX0 : ∀ w ∈ wsX00, w ∈ lw_tbl := fun w h => wsL_law_in w (inlX0 w h)
theorem inX1 : ∀ w ∈ wsX10, w ∈ lw_tbl := fun w h => wsL_law_in w (inlX1 w h)
theorem inX2 : ∀ w ∈ wsX20, w ∈ lw_tbl := fun w h => wsL_law_in w (inlX2 w h)
theorem inX3 : ∀ w ∈ wsX30, w ∈ lw_tbl := fun w h => wsL_law_in w (inlX3 w h)
theorem inX4 : ∀ w ∈ wsX40, w ∈ lw_tbl := fun w h => wsL_law_in w (inlX4 w h)
theorem inX5 : ∀ w ∈ wsX50, w ∈ lw_tbl := fun w h => wsL_law_in w (inlX5 w h)
theorem inX6 : ∀ w ∈ wsX60, w ∈ lw_tbl := fun w h => wsL_law_in w (inlX6 w h)
theorem inX7 : ∀ w ∈ wsX70, w ∈ lw_tbl := fun w h => wsL_law_in w (inlX7 w h)
theorem inX8 : ∀ w ∈ wsX80, w ∈ lw_tbl := fun w h => wsL_law_in w (inlX8 w h)
theorem inX9 : ∀ w ∈ wsX90, w ∈ lw_tbl := fun w h => wsL_law_in w (inlX9 w h)
theorem inX10 : ∀ w ∈ wsX100, w ∈ lw_tbl := fun w h => wsL_law_in w (inlX10 w h)
theorem inX11 : ∀ w ∈ wsX110, w ∈ lw_tbl := fun w h => wsL_law_in w (inlX11 w h)
theorem inX12 : ∀ w ∈ wsX120, w ∈ lw_tbl := fun w h => wsL_law_in w (inlX12 w h)

abbrev lA (s : State) : Nat → Prop := fun q => s.heap.size ≤ q
theorem gdWL : GoodIn lw_tbl wsL_law := fun w h => ⟨wsL_law_in w h, good_of_word (List.all_eq_true.mp wsL_good w h)⟩
theorem gdNL {w : Cond} (h : w ∈ wsL_law) : GoodIn lw_tbl (w :: wsL_law) := fun z hz => (List.mem_cons.mp hz).elim (fun e => by rw [e]; exact gdWL w h) (gdWL z)
theorem gdL {own C : String} {idx : Nat} {y : MethodName} {cd : Cond} (h1 : .methodLink own idx y ∈ wsL_law) (h2 : .instanceMethod y ∈ wsL_law) (h3 : .selects C y y ∈ wsL_law) (h4 : .initialized C ∈ wsL_law) (h5 : cd ∈ wsL_law) : GoodIn lw_tbl (wsV own idx C y (cd :: wsL_law)) := by
  intro w hw
  unfold wsV at hw
  rcases List.mem_append.mp hw with hw | hw
  · simp only [List.mem_cons, List.not_mem_nil, or_false] at hw
    rcases hw with rfl | rfl | rfl | rfl
    · exact gdWL _ h1
    · exact gdWL _ h2
    · exact gdWL _ h3
    · exact gdWL _ h4
  · exact gdNL h5 w hw
theorem fm_all {α β : Type} {f : α → Option β} : ∀ l : List α, (l.filterMap f).length = l.length → l.map f = (l.filterMap f).map some
  | [], _ => rfl
  | a :: l, h => by
    cases hf : f a with
    | none =>
      rw [List.filterMap_cons_none hf] at h
      have := List.length_filterMap_le f l
      rw [List.length_cons] at h; omega
    | some b =>
      rw [List.filterMap_cons_some hf] at h ⊢
      rw [List.length_cons, List.length_cons] at h
      rw [List.map_cons, List.map_cons, hf, fm_all l (by omega)]
section KF
variable {p : Program} {l : Launch} {e : Env} {R : Room} {s : State} {m : MethodId} {args : Array Value} {below : List Frame} {meth : Method} {c : Code} {H : Heap} {locs : List Loc} {cells slots : Nat} {Q : State → Prop}
variable {pc : Nat} {ls : Array Slot} {rest st0 : List Value} {a : Array Value} {A : Nat → Prop} {D : va_G} {g : gE} {ws wc : va_W}
theorem kF_i {post : Int32 → va_W → Prop} (hA : ∀ q, s.heap.size ≤ q → A q) (hP : va_P D vwCl ws H) (hD : va_D A ws) (hS : va_S A s.heap H locs) (isC isR : List Nat) (hC : isC.map (fun i => ws[i]?) = wc.map some) (hR : (isR.filterMap (fun i => ws[i]?)).length = isR.length) (hn : va_nd isR = true) (hdis : ∀ i ∈ isR, i ∉ isC)
    (hr : va_Run p l e R s m args below meth c H locs cells slots 0 0 (F0 m pc ls st0) rest (va_Qi post (cB D (va_A wc H.size)) (va_A wc H.size) a) (va_A wc H.size))
    (kk : ∀ (r : Int32) (W' : va_W) (H1 : Heap) (locs1 : List Loc), post r W' → va_P D vwCl (isR.filterMap (fun i => ws[i]?) ++ W') H1 → va_D A (isR.filterMap (fun i => ws[i]?) ++ W') → va_S A s.heap H1 locs1 → W p l e R s m args below meth c H1 locs1 cells slots Q (F0 m (pc + 3) ls (.int r :: rest))) : W p l e R s m args below meth c H locs cells slots Q (F0 m pc ls st0) := by
  have hF := va_free hD hS hA isC hC
  refine va_calli hr hS (fun q _ h => hF q h) hF (fun r u t H1 locs1 ht hvm hw hB hz hk hS1 => ?_)
  obtain ⟨hP1, hD1⟩ := hB
  rw [ht] at hP1
  obtain ⟨hP2, hD2⟩ := va_join hP hD isC isR hC (fm_all isR hR) hn hdis hk hF hP1 hD1
  exact kk r u H1 locs1 hw hP2 hD2 hS1
theorem kF_l {post : Int64 → va_W → Prop} (hA : ∀ q, s.heap.size ≤ q → A q) (hP : va_P D vwCl ws H) (hD : va_D A ws) (hS : va_S A s.heap H locs) (isC isR : List Nat) (hC : isC.map (fun i => ws[i]?) = wc.map some) (hR : (isR.filterMap (fun i => ws[i]?)).length = isR.length) (hn : va_nd isR = true) (hdis : ∀ i ∈ isR, i ∉ isC)
    (hr : va_Run p l e R s m args below meth c H locs cells slots 0 0 (F0 m pc ls st0) rest (va_Ql post (cB D (va_A wc H.size)) (va_A wc H.size) a) (va_A wc H.size))
    (kk : ∀ (r : Int64) (W' : va_W) (H1 : Heap) (locs1 : List Loc), post r W' → va_P D vwCl (isR.filterMap (fun i => ws[i]?) ++ W') H1 → va_D A (isR.filterMap (fun i => ws[i]?) ++ W') → va_S A s.heap H1 locs1 → W p l e R s m args below meth c H1 locs1 cells slots Q (F0 m (pc + 3) ls (.long r :: rest))) : W p l e R s m args below meth c H locs cells slots Q (F0 m pc ls st0) := by
  have hF := va_free hD hS hA isC hC
  refine va_calll hr hS (fun q _ h => hF q h) hF (fun r u t H1 locs1 ht hvm hw hB hz hk hS1 => ?_)
  obtain ⟨hP1, hD1⟩ := hB
  rw [ht] at hP1
  obtain ⟨hP2, hD2⟩ := va_join hP hD isC isR hC (fm_all isR hR) hn hdis hk hF hP1 hD1
  exact kk r u H1 locs1 hw hP2 hD2 hS1
end KF
theorem rt0 {BB : Nat → Nat} {bytes tape : Nat → Int32} : RT 0 BB 0 bytes 0 tape := ⟨by decide, rfl, rfl, fun k hk => absurd hk (Nat.not_lt_zero k)⟩
theorem rks0 {d : PD} {aw : Int32} {st km : Nat → Int32} {s0 k0 s1 k1 : Int32} {l1 p1 c1 n1 l0 p0 c0 n0 : Nat → Int32} (e0 : k0 = 0) (e1 : k1 = 0) (h0 : km 0 = 0) (h1 : km 1 = 0) (ha : aw = 1) : RKS d aw st km s0 k0 s1 k1 l1 p1 c1 n1 l0 p0 c0 n0 := ⟨Or.inl ⟨e0, h0⟩, Or.inl ⟨e1, h1⟩, fun _ => ha, fun _ => ha⟩
