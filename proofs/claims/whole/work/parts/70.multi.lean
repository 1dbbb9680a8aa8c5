/-! arrays of arrays. The machine's own step of `multianewarray` (two counts), over the library's words for reading, making and writing a cell; the picture behind it: an outer row at h, its rows at h + 1, h + 2 .. -/
def va_AOA (ty : FieldType) (U : State) : Prop := ∃ (cI cA : ClassId) (kA : Class), U.vm.findClass (FieldType.array ty).toString = some cI ∧ U.vm.classes[cA]? = some kA ∧ kA.kind = .array cI (.array ty) ∧ U.vm.findClass ("[" ++ (FieldType.array ty).toString) = some cA
theorem va_AOA.moved {ty : FieldType} {u U : State} (hvm : u.vm.Alike U.vm) (h : va_AOA ty u) : va_AOA ty U := by
  obtain ⟨cI, cA, kA, h1, h2, h3, h4⟩ := h
  obtain ⟨kB, h5, h6⟩ := hvm.2.2 _ _ h2
  exact ⟨cI, cA, kB, by rw [hvm.findClass]; exact h1, h5, by rw [h6]; exact h3, by rw [hvm.findClass]; exact h4⟩
theorem va_AOA.of {ty : FieldType} {A : Array Value} {U : State} (h : (Cond.arrayOver (.array ty)).before A U = true) : va_AOA ty U := by
  have h0 := beq_iff_eq.mp h
  obtain ⟨cI, e1, h1⟩ := Option.bind_eq_some_iff.mp h0
  obtain ⟨cA, e2, h2⟩ := Option.bind_eq_some_iff.mp h1
  obtain ⟨kA, e3, h3⟩ := Option.map_eq_some_iff.mp h2
  have e4 := Array.of_findIdx?_eq_some e2
  rw [e3] at e4
  refine ⟨cI, cA, kA, e1, e3, ?_, ?_⟩
  · cases hk : kA.kind with
    | array co t =>
      rw [hk] at h3
      have e5 : co = cI := by simpa [hk] using e4
      have e6 : t = .array ty := by
        have := h3
        simp at this
        exact this.1
      rw [e5, e6]
    | _ => rw [hk] at h3; simp at h3
  · cases hk : kA.kind with
    | array co t =>
      rw [hk] at h3
      simp at h3
      exact h3.2
    | _ => rw [hk] at h3; simp at h3
def mq_r (cI : ClassId) (K : Nat) (v : Value) : Cell := { cls := cI, slots := Array.replicate K v, vm := .none }
def mq_o (cA : ClassId) (N h i : Nat) : Cell := arrV cA N (fun j => va_rf (if j < i then some (h + 1 + j) else none))
def mq_s (U : State) (cA cI : ClassId) (N K : Nat) (v : Value) : Nat → State
  | 0 => U.pushCell (mq_o cA N U.heap.size 0)
  | i + 1 => ((mq_s U cA cI N K v i).pushCell (mq_r cI K v)).setCell U.heap.size (mq_o cA N U.heap.size (i + 1))
theorem mq_o_new (cA : ClassId) (N h : Nat) : ({ cls := cA, slots := Array.replicate N .null, vm := .none } : Cell) = mq_o cA N h 0 := by
  rw [arrV_new]
  refine congrArg (arrV cA N) (funext fun j => ?_)
  rw [if_neg (Nat.not_lt_zero j)]
  rfl
theorem mq_o_set (cA : ClassId) (N h i : Nat) : (mq_o cA N h i).setSlot i (.ref (h + 1 + i)) = mq_o cA N h (i + 1) := by
  show (arrV cA N _).setSlot i _ = arrV cA N _
  rw [arrV_store]
  refine congrArg (arrV cA N) (funext fun j => ?_)
  show (if j = i then Value.ref (h + 1 + i) else va_rf (if j < i then some (h + 1 + j) else none)) = va_rf (if j < i + 1 then some (h + 1 + j) else none)
  by_cases e : j = i
  · rw [if_pos e, if_pos (by omega), e]
    rfl
  · rw [if_neg e]
    by_cases hj : j < i
    · rw [if_pos hj, if_pos (by omega)]
    · rw [if_neg hj, if_neg (by omega)]
theorem mq_o_size (cA : ClassId) (N h i : Nat) : (mq_o cA N h i).slots.size = N := arrV_size cA N _
theorem mq_r_size (cI : ClassId) (K : Nat) (v : Value) : (mq_r cI K v).slots.size = K := Array.size_replicate
theorem mq_top (U : State) (f : JFrame) (cA cI : ClassId) (N K : Nat) (v : Value) : ∀ i : Nat, mq_s (U.setTop f) cA cI N K v i = (mq_s U cA cI N K v i).setTop f
  | 0 => rfl
  | i + 1 => by
    show ((mq_s (U.setTop f) cA cI N K v i).pushCell _).setCell U.heap.size (mq_o cA N U.heap.size (i + 1)) = _
    rw [mq_top U f cA cI N K v i]
    rfl
theorem mq_top? (U : State) (cA cI : ClassId) (N K : Nat) (v : Value) : ∀ i : Nat, (mq_s U cA cI N K v i).topJava? = U.topJava?
  | 0 => rfl
  | i + 1 => mq_top? U cA cI N K v i
theorem mq_vm (U : State) (cA cI : ClassId) (N K : Nat) (v : Value) : ∀ i : Nat, (mq_s U cA cI N K v i).vm = U.vm
  | 0 => rfl
  | i + 1 => mq_vm U cA cI N K v i
theorem mq_used (U : State) (cA cI : ClassId) (N K : Nat) (v : Value) : ∀ i : Nat, (mq_s U cA cI N K v i).slotsUsed = U.slotsUsed + N + i * K
  | 0 => by
    show U.slotsUsed + (mq_o cA N U.heap.size 0).slots.size = _
    rw [mq_o_size, Nat.zero_mul, Nat.add_zero]
  | i + 1 => by
    show (mq_s U cA cI N K v i).slotsUsed + (mq_r cI K v).slots.size = _
    rw [mq_used U cA cI N K v i, mq_r_size, Nat.succ_mul, Nat.add_assoc _ (i * K)]
theorem mq_size (U : State) (cA cI : ClassId) (N K : Nat) (v : Value) : ∀ i : Nat, (mq_s U cA cI N K v i).heap.size = U.heap.size + 1 + i
  | 0 => Array.size_push _
  | i + 1 => by
    show (((mq_s U cA cI N K v i).heap.push (mq_r cI K v)).setIfInBounds U.heap.size _).size = _
    rw [Array.size_setIfInBounds, Array.size_push, mq_size U cA cI N K v i]
    rfl
/-- a push, then a write at h: what stands at h, below it, and behind it -/
theorem mq_at {H : Heap} {h x : Nat} {a b : Cell} (hx : x ≠ h) (hs : x < H.size) : ((H.push a).setIfInBounds h b)[x]? = H[x]? := by
  rw [Array.getElem?_setIfInBounds_ne (fun q => hx q.symm), Array.getElem?_push_lt hs]
  exact (Array.getElem?_eq_getElem hs).symm
theorem mq_outer (U : State) (cA cI : ClassId) (N K : Nat) (v : Value) : ∀ i : Nat, (mq_s U cA cI N K v i).heap[U.heap.size]? = some (mq_o cA N U.heap.size i)
  | 0 => Array.getElem?_push_size
  | i + 1 => by
    show (((mq_s U cA cI N K v i).heap.push (mq_r cI K v)).setIfInBounds U.heap.size _)[U.heap.size]? = _
    rw [Array.getElem?_setIfInBounds_self_of_lt]
    rw [Array.size_push, mq_size]
    omega
theorem mq_old (U : State) (cA cI : ClassId) (N K : Nat) (v : Value) {x : Nat} (hx : x < U.heap.size) : ∀ i : Nat, (mq_s U cA cI N K v i).heap[x]? = U.heap[x]?
  | 0 => by
    show (U.heap.push _)[x]? = _
    rw [Array.getElem?_push_lt hx]
    exact (Array.getElem?_eq_getElem hx).symm
  | i + 1 => (mq_at (by omega) (by rw [mq_size]; omega)).trans (mq_old U cA cI N K v hx i)
theorem mq_row (U : State) (cA cI : ClassId) (N K : Nat) (v : Value) : ∀ i j : Nat, j < i → (mq_s U cA cI N K v i).heap[U.heap.size + 1 + j]? = some (mq_r cI K v)
  | 0, j, h => absurd h (Nat.not_lt_zero j)
  | i + 1, j, h => by
    by_cases e : j < i
    · exact (mq_at (by omega) (by rw [mq_size]; omega)).trans (mq_row U cA cI N K v i j e)
    · have e1 : U.heap.size + 1 + j = (mq_s U cA cI N K v i).heap.size := by rw [mq_size]; omega
      show (((mq_s U cA cI N K v i).heap.push (mq_r cI K v)).setIfInBounds U.heap.size _)[U.heap.size + 1 + j]? = _
      rw [Array.getElem?_setIfInBounds_ne (by omega), e1]
      exact Array.getElem?_push_size
section MQW
variable {E : CtlPost} {e : Env} {d : Bool} {acts : List Action} {S : State}
theorem mq_new {c co : ClassId} {k : Class} {t : FieldType} {n : Nat} {v : Value} {Q : Addr → Pre} (hk : S.vm.classes[c]? = some k) (hkind : k.kind = .array co t) (h1 : n ≤ e.platform.arrayLengthLimit) (h2 : n * componentBytes t ≤ e.platform.maxHeapBytes) (hf : fits t v = true)
    (h3 : S.heap.size < e.platform.maxCells) (h4 : S.slotsUsed + n ≤ e.platform.maxSlots) (hq : ∀ a' : List Action, Q S.heap.size d a' (S.pushCell { cls := c, slots := Array.replicate n v, vm := .none })) : wp (newArray c n v) Q E e d acts S := by
  have hfit : ∀ (i : Nat) (x : Value), (Array.replicate n v)[i]? = some x → S.fitsSlot c .none i x = true := fun i x hx => by
    rw [Array.getElem?_replicate] at hx
    by_cases hi : i < n
    · rw [if_pos hi] at hx
      cases hx
      simp [State.fitsSlot, State.slotType?, hk, hkind, hf]
    · rw [if_neg hi] at hx
      cases hx
  simp only [newArray, arrayFits, wp_bind', W.ask, W.ite, wp_pure', W.theClass, W.stop, W.alloc, Array.size_replicate]
  rw [if_neg (Nat.not_lt.mpr h1)]
  refine ⟨k, hk, ?_⟩
  rw [hkind]
  simp only [wp_bind', W.ask, W.ite, wp_pure', W.stop, W.alloc, Array.size_replicate]
  rw [if_neg (Nat.not_lt.mpr h2), if_neg (by omega)]
  exact ⟨h3, h4, hfit, hq _⟩
theorem mq_make1 {cI co : ClassId} {kI : Class} {t : FieldType} {k : Int32} {Q : Addr → Pre} (hk : S.vm.classes[cI]? = some kI) (hkind : kI.kind = .array co t) (hn : ¬ k < 0) (h1 : k.toNatClampNeg ≤ e.platform.arrayLengthLimit) (h2 : k.toNatClampNeg * componentBytes t ≤ e.platform.maxHeapBytes) (hf : fits t (defaultValue t) = true)
    (h3 : S.heap.size < e.platform.maxCells) (h4 : S.slotsUsed + k.toNatClampNeg ≤ e.platform.maxSlots) (hq : ∀ a' : List Action, Q S.heap.size d a' (S.pushCell (mq_r cI k.toNatClampNeg (defaultValue t)))) : wp (Op.multianewarray.make cI [k]) Q E e d acts S := by
  simp only [Op.multianewarray.make, wp_bind', W.ite, wp_pure', W.theClass]
  rw [if_neg hn]
  refine ⟨kI, hk, ?_⟩
  rw [hkind]
  exact mq_new hk hkind h1 h2 hf h3 h4 hq
theorem mq_make2 {cA cI co : ClassId} {kA kI : Class} {t : FieldType} {n k : Int32} {Q : Addr → Pre} (hkA : S.vm.classes[cA]? = some kA) (hkindA : kA.kind = .array cI (.array t)) (hkI : S.vm.classes[cI]? = some kI) (hkindI : kI.kind = .array co t) (hn : ¬ n < 0) (hk : ¬ k < 0)
    (h1 : n.toNatClampNeg ≤ e.platform.arrayLengthLimit) (h2 : n.toNatClampNeg * 4 ≤ e.platform.maxHeapBytes) (h1k : k.toNatClampNeg ≤ e.platform.arrayLengthLimit) (h2k : k.toNatClampNeg * componentBytes t ≤ e.platform.maxHeapBytes) (hf : fits t (defaultValue t) = true)
    (h3 : S.heap.size + n.toNatClampNeg < e.platform.maxCells) (h4 : S.slotsUsed + n.toNatClampNeg + n.toNatClampNeg * k.toNatClampNeg ≤ e.platform.maxSlots)
    (hq : ∀ (d' : Bool) (a' : List Action), Q S.heap.size d' a' (mq_s S cA cI n.toNatClampNeg k.toNatClampNeg (defaultValue t) n.toNatClampNeg)) : wp (Op.multianewarray.make cA [n, k]) Q E e d acts S := by
  generalize hN : n.toNatClampNeg = N at *
  generalize hK : k.toNatClampNeg = K at *
  rw [Op.multianewarray.make]
  simp only [wp_bind', W.ite, wp_pure', W.theClass]
  rw [if_neg hn]
  refine ⟨kA, hkA, ?_⟩
  rw [hkindA]
  simp only [wp_bind', hN]
  refine mq_new hkA hkindA h1 h2 rfl (by omega) (by omega) (fun a' => ?_)
  rw [mq_o_new cA N S.heap.size]
  have hfind : ([k] : List Int32).find? (fun x => decide (x < 0)) = none := by simp [hk]
  have hloop : ∀ (d1 : Bool) (a1 : List Action) (Q1 : PUnit → Pre) (f : Nat → PUnit → Sem (ForInStep PUnit)), (∀ (i : Nat), f i PUnit.unit = (Op.multianewarray.make cI [k] >>= fun r => writeLoc S.heap.size i (.ref r) >>= fun _ => Pure.pure (ForInStep.yield PUnit.unit))) →
      (∀ (d' : Bool) (a' : List Action), Q1 PUnit.unit d' a' (mq_s S cA cI N K (defaultValue t) N)) → wp (forIn (List.range' 0 N) PUnit.unit f) Q1 E e d1 a1 (S.pushCell (mq_o cA N S.heap.size 0)) := by
    intro d1 a1 Q1 f hf1 hq1
    refine wp_forIn_inv (fun rest U => ∃ i : Nat, i ≤ N ∧ rest = List.range' i (N - i) ∧ U = mq_s S cA cI N K (defaultValue t) i) f _ ⟨0, Nat.zero_le _, rfl, rfl⟩ ?_ ?_
    · rintro x rest U d2 a2 Q2 ⟨i, hi, hr, rfl⟩ hy
      have hlt : i < N := by
        refine Nat.lt_of_le_of_ne hi (fun q => ?_)
        rw [q, Nat.sub_self] at hr
        cases hr
      rw [show N - i = (N - (i + 1)) + 1 by omega, List.range'_succ] at hr
      obtain ⟨rfl, rfl⟩ := List.cons.inj hr
      rw [hf1]
      simp only [wp_bind']
      have hsz := mq_size S cA cI N K (defaultValue t) x
      have hus := mq_used S cA cI N K (defaultValue t) x
      have hmul : (x + 1) * K ≤ N * K := Nat.mul_le_mul_right K hlt
      rw [Nat.succ_mul] at hmul
      have hvm := mq_vm S cA cI N K (defaultValue t) x
      refine mq_make1 (co := co) (kI := kI) (t := t) (by rw [hvm]; exact hkI) hkindI hk (by rw [hK]; exact h1k) (by rw [hK]; exact h2k) hf (by omega) (by rw [hK]; omega) (fun a3 => ?_)
      rw [hK]
      simp only [wp_bind', W.writeLoc, wp_pure']
      refine ⟨mq_o cA N S.heap.size x, ?_, (fun q => by cases q), by rw [mq_o_size]; exact hlt, ?_, ?_⟩
      · show ((mq_s S cA cI N K (defaultValue t) x).heap.push _)[S.heap.size]? = _
        rw [Array.getElem?_push_lt (by omega), ← Array.getElem?_eq_getElem (by omega)]
        exact mq_outer S cA cI N K (defaultValue t) x
      · have hkA' : (mq_s S cA cI N K (defaultValue t) x).vm.classes[cA]? = some kA := by rw [hvm]; exact hkA
        show State.fitsSlot _ cA .none x _ = true
        simp [State.fitsSlot, State.slotType?, hkA', hkindA, fits]
      · refine hy _ _ _ ⟨x + 1, hlt, rfl, ?_⟩
        rw [hsz, mq_o_set]
        rfl
    · rintro U d2 a2 ⟨i, hi, hr, rfl⟩
      have : i = N := by
        have h := congrArg List.length hr
        rw [List.length_range'] at h
        simp at h
        omega
      rw [this]
      exact hq1 d2 a2
  rw [hfind]
  split <;>
    (simp only [wp_bind', wp_pure', Std.Legacy.Range.forIn_eq_forIn_range', Std.Legacy.Range.size, Nat.sub_zero, Nat.add_sub_cancel, Nat.div_one]
     exact hloop _ _ _ _ (fun i => rfl) hq)
end MQW
section MQS
variable {p : Program} {l : Launch} {e : Env} {R : Room} {s : State} {m : MethodId} {args : Array Value} {below : List Frame} {meth : Method} {c : Code} {T : State} {locs : List Loc} {cells slots : Nat}
theorem mq_X (X : Stand p l e R s m args below meth c T locs cells slots) (cA cI : ClassId) (N K : Nat) (v : Value) : ∀ i : Nat, Stand p l e R s m args below meth c (mq_s T cA cI N K v i) locs (cells + 1 + i) (slots + N + i * K)
  | 0 => by
    have h := X.pushed (mq_o cA N T.heap.size 0)
    rw [mq_o_size] at h
    rw [Nat.zero_mul]
    exact h
  | i + 1 => by
    have h := (mq_X X cA cI N K v i).pushed (mq_r cI K v)
    have hc : ((mq_s T cA cI N K v i).pushCell (mq_r cI K v)).heap[T.heap.size]? = some (mq_o cA N T.heap.size i) := by
      show ((mq_s T cA cI N K v i).heap.push _)[T.heap.size]? = _
      have hsz := mq_size T cA cI N K v i
      rw [Array.getElem?_push_lt (by omega), ← Array.getElem?_eq_getElem (by omega)]
      exact mq_outer T cA cI N K v i
    have h2 := (h.stored hc i (.ref (T.heap.size + 1 + i))).dropFresh (J := [⟨T.heap.size, i⟩]) (fun x hx => by
      rw [List.mem_singleton.mp hx]
      exact X.heapGrown)
    rw [mq_o_set, mq_r_size] at h2
    rw [Nat.succ_mul, ← Nat.add_assoc (slots + N)]
    exact h2
theorem mq_step (X : Stand p l e R s m args below meth c T locs cells slots) (hexec : p.tables.exec = Jvm.exec) {own : String} {index : Nat} {ty : FieldType} (hown : s.vm.findClass own = some m.cls) (hclink : (Cond.classLink own index ("[" ++ (FieldType.array ty).toString)).before args s = true)
    (hover : va_AOA ty s) (harr : (Cond.arrayClass ty).before args s = true) {g : JFrame} (hg : g.method = m) (hdg : decode c.code g.pc = .ok (.multianewarray index 2, 4)) {n k : Int32} {N K : Nat} (hN : n.toNatClampNeg = N) (hK : k.toNatClampNeg = K) {rest : List Value} (hstack : g.stack = .int k :: .int n :: rest)
    (hn : ¬ n < 0) (hk : ¬ k < 0) (hb1 : N * 4 ≤ 536870912) (hb2 : K * componentBytes ty ≤ 536870912) (hb3 : K ≤ 536870912) (hdf : fits ty (defaultValue ty) = true) (hcells : cells + (1 + N) ≤ R.cells) (hslots : slots + (N + N * K) ≤ R.slots) :
    ∃ (vm1 : Vm) (cA cI : ClassId), s.vm.findClass ("[" ++ (FieldType.array ty).toString) = some cA ∧ s.vm.findClass (FieldType.array ty).toString = some cI ∧ ArrOfT s cA (.array ty) ∧
      Stand p l e R s m args below meth c (mq_s (T.setVm vm1) cA cI N K (defaultValue ty) N) locs (cells + 1 + N) (slots + N + N * K) ∧
      ∀ target, Steps p.tables e below ((mq_s (T.setVm vm1) cA cI N K (defaultValue ty) N).setTop { g with pc := g.pc + 4, stack := .ref T.heap.size :: rest }) target → Steps p.tables e below (T.setTop g) target := by
  subst hg
  have hpl : e.platform.magicAccessors = ({} : Platform).magicAccessors := by rw [X.admits.platform]
  obtain ⟨cI, cA, kA, f1, f2, f3, f4⟩ := hover
  obtain ⟨cc, hcc, hcl⟩ := Cond.classLink_spec hown hclink e.platform hpl
  cases f4.symm.trans hcc
  obtain ⟨hg1, hw1, hr1⟩ := State.classEntry (e := e) X.warmed hcl
  generalize T.vm.noted g.method.cls index (.cls cA) = vm1 at hg1 hw1 hr1
  have hal : s.vm.Alike vm1 := hw1.alike
  obtain ⟨cJ, kI, co, f5, f6, f7⟩ := Cond.arrayClass_spec harr
  have eI : some cI = some cJ := f1.symm.trans f5
  cases eI
  obtain ⟨kA1, a1, a2⟩ := hal.2.2 _ _ f2
  obtain ⟨kI1, b1, b2⟩ := hal.2.2 _ _ f6
  have a3 : kA1.kind = .array cI (.array ty) := by rw [a2]; exact f3
  have b3 : kI1.kind = .array co ty := by rw [b2]; exact f7
  obtain ⟨r1, r2⟩ := X.roomAbove hcells hslots
  refine ⟨vm1, cA, cI, f4, f1, (fun n9 z9 => ⟨(fun q hq => by cases hq), kA, f2, cI, f3⟩), mq_X (X.noted hw1) cA cI N K (defaultValue ty) N, fun target hrest => ?_⟩
  have htop : (T.setVm vm1).topJava?.isSome := X.here.top
  refine Steps.instr (c := c) (by simpa using X.here) ?_
  rw [hdg]
  show wpRun (p.tables.exec (.multianewarray index 2)) _ _ e (T.setTop g)
  rw [hexec]
  show wp (Op.multianewarray.sem index 2) _ _ e false [] (T.setTop g)
  simp only [Op.multianewarray.sem, wp_bind']
  rw [W.resolveClassAt_transfer (s := T.setTop g) (State.method?_setTop g X.here.top) hg1 hr1]
  show wp (resolveClassAt index) _ _ e false [] ((T.setVm vm1).setTop g)
  rw [W.resolveClassAt_ready (State.method?_setTop g htop) hr1]
  simp only [wp_bind']
  refine (popN_top (args := [.int n, .int k]) (rest := rest) htop hstack).mpr ?_
  simp only [List.mapM_cons, List.mapM_nil, wp_bind', wp_pure']
  subst hN
  subst hK
  have hlim := Launch.admits_arrayLengthLimit X.admits
  have hhb := Launch.admits_maxHeapBytes X.admits
  refine mq_make2 (kA := kA1) (kI := kI1) (co := co) (t := ty) a1 a3 b1 b3 hn hk (by rw [hlim]; omega) (by rw [hhb]; omega) (by rw [hlim]; omega) (by rw [hhb]; omega) hdf ?_ ?_ (fun d' a' => ?_)
  · show T.heap.size + n.toNatClampNeg < _
    omega
  · show T.slotsUsed + n.toNatClampNeg + n.toNatClampNeg * k.toNatClampNeg ≤ _
    omega
  · rw [mq_top]
    simp only [wp_bind', W.mark, W.pushRef]
    refine ⟨_, State.topJava?_setTop' _ (by rw [mq_top?]; exact htop), fun acts => ?_⟩
    rw [State.setTop_setTop, afterInstr_ok]
    exact hrest
end MQS
/-- f, but v at every address of l -/
def vr_up {α : Type} (f : Nat → α) (l : List Nat) (v : α) : Nat → α := fun a => if a ∈ l then v else f a
theorem vr_up_in {α : Type} {f : Nat → α} {l : List Nat} {v : α} {a : Nat} (h : a ∈ l) : vr_up f l v a = v := if_pos h
theorem vr_up_ne {α : Type} {f : Nat → α} {l : List Nat} {v : α} {a : Nat} (h : a ∉ l) : vr_up f l v a = f a := if_neg h
theorem vr_rows {L l : List Nat} {f : Nat → va_E} {e : va_E} (h : ∀ a, a ∈ l → a ∉ L) : va_pl L f ++ l.map (fun a => (a, e)) = va_pl (L ++ l) (vr_up f l e) := by
  unfold va_pl
  rw [List.map_append]
  congr 1
  · apply List.map_congr_left
    intro a ha
    rw [vr_up_ne (fun q => h a q ha)]
  · apply List.map_congr_left
    intro a ha
    rw [vr_up_in ha]
theorem vr_lay {X rows : va_W} {x : Nat × va_E} {pl : va_W} {D : va_G} {cl : List vw_C} {H : Heap} (hP : va_P D cl (((X ++ pl) ++ [x]) ++ rows) H) : va_P D cl ((X ++ [x]) ++ (pl ++ rows)) H := by
  rw [List.append_assoc (X ++ pl)] at hP
  have h := va_P.swap hP
  rw [← List.append_assoc X] at h
  have h2 := va_P.swap h
  rw [List.append_assoc (X ++ [x])] at h2
  exact h2
theorem vr_layD {X rows : va_W} {x : Nat × va_E} {pl : va_W} {A : Nat → Prop} (hD : va_D A (((X ++ pl) ++ [x]) ++ rows)) : va_D A ((X ++ [x]) ++ (pl ++ rows)) := by
  rw [List.append_assoc (X ++ pl)] at hD
  have h := va_D.swap hD
  rw [← List.append_assoc X] at h
  have h2 := va_D.swap h
  rw [List.append_assoc (X ++ [x])] at h2
  exact h2
section VGM
variable {p : Program} {l : Launch} {e : Env} {R : Room} {s : State} {m : MethodId} {args : Array Value} {below : List Frame} {meth : Method} {c : Code} {H : Heap} {locs : List Loc} {cells slots : Nat} {Q : State → Prop}
variable {cc : ByteArray} {pc : Nat} {ls : Array Slot} {rest : List Value} {D : va_G} {cl : List vw_C} {A : Nat → Prop} {a : Nat} {tys : List (ClassId × FieldType)} {ws : va_W} {H0 : Heap}
theorem va_mna {X : va_W} {L : List Nat} {f : Nat → va_E} {cc : ByteArray} (hexec : p.tables.exec = Jvm.exec) (hb : c.code = cc) {own : String} {index : Nat} {ty : FieldType} {cy : ClassId} (hown : s.vm.findClass own = some m.cls) (hclink : (Cond.classLink own index ("[" ++ (FieldType.array ty).toString)).before args s = true) (hover : va_AOA ty s) (harr : (Cond.arrayClass ty).before args s = true) (hcy : s.vm.findClass (FieldType.array ty).toString = some cy)
    (hK : va_K D cl tys s) (hP : va_P D cl (X ++ va_pl L f) H) (hD : va_D A (X ++ va_pl L f)) (hS : va_S A H0 H locs) (hA : ∀ q, H0.size ≤ q → A q) {n k : Int32} {N' K' : Nat} {z : vp_A} (hn : ¬ n < 0) (hk : ¬ k < 0) (hN : n.toNatClampNeg = N') (hM : k.toNatClampNeg = K')
    (hb1 : N' * 4 ≤ 536870912) (hb2 : K' * componentBytes ty ≤ 536870912) (hb3 : K' ≤ 536870912) (hdf : fits ty (defaultValue ty) = true) (_ : (defaultValue ty).isDefault = true) (hcells : cells + (1 + N') ≤ R.cells) (hslots : slots + (N' + N' * K') ≤ R.slots) (hz : ∀ c : ClassId, mq_r c K' (defaultValue ty) = vp_cell c z) (hdg : decode cc pc = .ok (.multianewarray index 2, 4))
    (kk : ∀ (q : Nat) (r : Nat → Nat) (cA : ClassId) (H1 : Heap), (∀ i j : Nat, i < N' → j < N' → r i = r j → i = j) → (∀ i : Nat, i < N' → r i ∉ L) → va_K D cl (tys ++ [(cA, .array ty)]) s →
      va_P D cl ((X ++ [(q, .inl (cA, N', .inr (.inr (.inr (.inr (fun i => if i < N' then some (r i) else none))))))]) ++ va_pl (L ++ (List.range N').map r) (vr_up f ((List.range N').map r) (.inl (cy, z)))) H1 → va_D A ((X ++ [(q, .inl (cA, N', .inr (.inr (.inr (.inr (fun i => if i < N' then some (r i) else none))))))]) ++ va_pl (L ++ (List.range N').map r) (vr_up f ((List.range N').map r) (.inl (cy, z)))) → va_S A H0 H1 locs →
      W p l e R s m args below meth c H1 locs (cells + 1 + N') (slots + N' + N' * K') Q (F0 m (pc + 4) ls (.ref q :: rest))) : W p l e R s m args below meth c H locs cells slots Q (F0 m pc ls (.int k :: .int n :: rest)) := by
  subst hN
  subst hM
  intro T hT Xs
  obtain ⟨vm₁, cA, comp, fA, fC, hAr, X', step⟩ := mq_step Xs hexec hown hclink hover harr (g := F0 m pc ls (.int k :: .int n :: rest)) rfl (by rw [hb]; exact hdg) rfl rfl rfl hn hk hb1 hb2 hb3 hdf hcells hslots
  have ec : some cy = some comp := hcy.symm.trans fC
  cases ec
  have hTh : (T.setVm vm₁).heap = H := hT
  have f1 := mq_size (T.setVm vm₁) cA cy n.toNatClampNeg k.toNatClampNeg (defaultValue ty) n.toNatClampNeg
  have f2 := mq_outer (T.setVm vm₁) cA cy n.toNatClampNeg k.toNatClampNeg (defaultValue ty) n.toNatClampNeg
  have f3 := fun (x : Nat) (hx : x < (T.setVm vm₁).heap.size) => mq_old (T.setVm vm₁) cA cy n.toNatClampNeg k.toNatClampNeg (defaultValue ty) hx n.toNatClampNeg
  have f4 := mq_row (T.setVm vm₁) cA cy n.toNatClampNeg k.toNatClampNeg (defaultValue ty) n.toNatClampNeg
  generalize mq_s (T.setVm vm₁) cA cy n.toNatClampNeg k.toNatClampNeg (defaultValue ty) n.toNatClampNeg = F at X' step f1 f2 f3 f4
  rw [hTh] at f1 f2 f3 f4
  have hold : ∀ x : Nat, x < H.size → F.heap[x]? = H[x]? := f3
  have hrow : ∀ j : Nat, j < n.toNatClampNeg → F.heap[H.size + 1 + j]? = some (vp_cell cy z) := fun j hj => by
    rw [← hz]
    exact f4 j hj
  have hout : mq_o cA n.toNatClampNeg H.size n.toNatClampNeg = vp_cell cA (n.toNatClampNeg, .inr (.inr (.inr (.inr (fun i => if i < n.toNatClampNeg then some (H.size + 1 + i) else none))))) := rfl
  rw [hout] at f2
  have hlt : ∀ a, a ∈ L → a < H.size := fun a ha => by
    obtain ⟨k9, hk9⟩ := va_pl_get (X := X) (f := f) ha
    exact (hP k9 _ hk9).lt
  have hnl : ∀ i : Nat, i < n.toNatClampNeg → H.size + 1 + i ∉ L := fun i _ h => by
    have := hlt _ h
    omega
  have hnm : ∀ a, a ∈ (List.range n.toNatClampNeg).map (fun i => H.size + 1 + i) → a ∉ L := fun a ha h => by
    obtain ⟨i, -, rfl⟩ := List.mem_map.mp ha
    have := hlt _ h
    omega
  have hP0 : va_P D cl (X ++ va_pl L f) F.heap := hP.kept (fun k9 x hx => hold x.1 ((hP k9 x hx).lt))
  have hP1 : va_P D cl ((X ++ va_pl L f) ++ [(H.size, .inl (cA, n.toNatClampNeg, .inr (.inr (.inr (.inr (fun i => if i < n.toNatClampNeg then some (H.size + 1 + i) else none))))))]) F.heap := hP0.app (fun k9 x hx => by
    have h0 : k9 < 1 := (List.getElem?_eq_some_iff.mp hx).1
    rw [show k9 = 0 by omega] at hx
    cases hx
    exact f2)
  have hP2 : va_P D cl (((X ++ va_pl L f) ++ [(H.size, .inl (cA, n.toNatClampNeg, .inr (.inr (.inr (.inr (fun i => if i < n.toNatClampNeg then some (H.size + 1 + i) else none))))))]) ++ ((List.range n.toNatClampNeg).map (fun i => H.size + 1 + i)).map (fun a => (a, .inl (cy, z)))) F.heap := hP1.app (fun k9 x hx => by
    obtain ⟨a, ha, rfl⟩ := List.mem_map.mp (List.mem_of_getElem? hx)
    obtain ⟨i, hi, rfl⟩ := List.mem_map.mp ha
    exact hrow i (List.mem_range.mp hi))
  have hD2 : va_D A (((X ++ va_pl L f) ++ [(H.size, .inl (cA, n.toNatClampNeg, .inr (.inr (.inr (.inr (fun i => if i < n.toNatClampNeg then some (H.size + 1 + i) else none))))))]) ++ ((List.range n.toNatClampNeg).map (fun i => H.size + 1 + i)).map (fun a => (a, .inl (cy, z)))) := by
    have hD1 := hD.push (e := .inl (cA, n.toNatClampNeg, .inr (.inr (.inr (.inr (fun i => if i < n.toNatClampNeg then some (H.size + 1 + i) else none)))))) hP rfl (hA _ hS.1)
    generalize hW1 : (X ++ va_pl L f) ++ [(H.size, .inl (cA, n.toNatClampNeg, .inr (.inr (.inr (.inr (fun i => if i < n.toNatClampNeg then some (H.size + 1 + i) else none))))))] = W1 at hD1 hP1 ⊢
    have hle : ∀ (k9 : Nat) (x : Nat × va_E), W1[k9]? = some x → x.1 ≤ H.size := fun k9 x hx => by
      rw [← hW1] at hx
      by_cases hl : k9 < (X ++ va_pl L f).length
      · rw [List.getElem?_append_left hl] at hx
        exact Nat.le_of_lt ((hP k9 x hx).lt)
      · rw [List.getElem?_append_right (by omega)] at hx
        have h0 : k9 - (X ++ va_pl L f).length < 1 := (List.getElem?_eq_some_iff.mp hx).1
        rw [show k9 - (X ++ va_pl L f).length = 0 by omega] at hx
        cases hx
        exact Nat.le_refl _
    have hr : ∀ (k9 : Nat) (x : Nat × va_E), (((List.range n.toNatClampNeg).map (fun i => H.size + 1 + i)).map (fun a => ((a, .inl (cy, z)) : Nat × va_E)))[k9]? = some x → x.1 = H.size + 1 + k9 := fun k9 x hx => by
      rw [List.getElem?_map, List.getElem?_map] at hx
      by_cases h9 : k9 < n.toNatClampNeg
      · rw [List.getElem?_range h9] at hx
        cases hx
        rfl
      · have hn0 : (List.range n.toNatClampNeg)[k9]? = none := List.getElem?_eq_none (by rw [List.length_range]; omega)
        rw [hn0] at hx
        cases hx
    refine ⟨fun i j x y hi hj hxy => ?_, fun k9 x hx => ?_⟩
    · by_cases h1 : i < W1.length <;> by_cases h2 : j < W1.length
      · rw [List.getElem?_append_left h1] at hi
        rw [List.getElem?_append_left h2] at hj
        exact hD1.1 i j x y hi hj hxy
      · rw [List.getElem?_append_left h1] at hi
        rw [List.getElem?_append_right (by omega)] at hj
        have := hle _ _ hi
        have := hr _ _ hj
        omega
      · rw [List.getElem?_append_right (by omega)] at hi
        rw [List.getElem?_append_left h2] at hj
        have := hle _ _ hj
        have := hr _ _ hi
        omega
      · rw [List.getElem?_append_right (by omega)] at hi hj
        have := hr _ _ hi
        have := hr _ _ hj
        omega
    · by_cases h1 : k9 < W1.length
      · rw [List.getElem?_append_left h1] at hx
        exact hD1.2 k9 x hx
      · rw [List.getElem?_append_right (by omega)] at hx
        have := hr _ _ hx
        exact hA _ (by have := hS.1; omega)
  have hK2 : va_K D cl (tys ++ [(cA, .array ty)]) s := ⟨hK.1, fun k9 x hx => by
    by_cases hl : k9 < tys.length
    · rw [List.getElem?_append_left hl] at hx
      exact hK.2 k9 x hx
    · rw [List.getElem?_append_right (by omega)] at hx
      have h0 : k9 - tys.length < 1 := (List.getElem?_eq_some_iff.mp hx).1
      rw [show k9 - tys.length = 0 by omega] at hx
      cases hx
      exact ⟨hAr, fA⟩⟩
  obtain ⟨t, a1, b1⟩ := kk H.size (fun i => H.size + 1 + i) cA F.heap (fun i j _ _ h => by have h9 : H.size + 1 + i = H.size + 1 + j := h; omega) hnl hK2 (by rw [← vr_rows hnm]; exact vr_lay hP2) (by rw [← vr_rows hnm]; exact vr_layD hD2) ⟨by rw [f1]; have := hS.1; omega, fun x h1 h2 => (hold x (Nat.lt_of_lt_of_le h1 hS.1)).trans (hS.2.1 x h1 h2), hS.2.2⟩ F rfl X'
  refine ⟨t, step t ?_, b1⟩
  have e : T.heap.size = H.size := by rw [hT]
  rw [e]
  exact a1
end VGM
