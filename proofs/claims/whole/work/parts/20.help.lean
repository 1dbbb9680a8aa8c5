/-! fixpoints by fuel: a loop as a predicate -/
def fixN {α : Type} (F : (α → Prop) → α → Prop) : Nat → α → Prop
  | 0, _ => False
  | n + 1, x => F (fixN F n) x
theorem fix_inv {α : Type} {F : (α → Prop) → α → Prop} (I : α → Prop) (μ : α → Nat) (hs : ∀ (K : α → Prop) (x : α), I x → (∀ y, I y → μ y < μ x → K y) → F K x) (x : α) (hx : I x) : ∃ n, fixN F n x := by
  have key : ∀ (n : Nat) (x : α), μ x < n → I x → fixN F n x := by
    intro n
    induction n with
    | zero => intro x h; exact absurd h (Nat.not_lt_zero _)
    | succ n ih =>
      intro x h hI
      exact hs _ x hI (fun y hy hlt => ih y (by omega) hy)
  exact ⟨μ x + 1, key _ x (Nat.lt_succ_self _) hx⟩
/-! the world's classes of arrays; what is given of the start and never changes -/
abbrev tysG (cy : Nat → ClassId) : List (ClassId × FieldType) := [(cy 0, .byte), (cy 1, .int), (cy 2, .long), (cy 3, .boolean), (cy 4, .object "KnockWall$Image"), (cy 5, .object "KnockWall$Sheet"), (cy 6, .array .int), (cy 7, .array .long)]
abbrev gE : Type := (Nat → ClassId) × Nat × (Nat → Nat) × (Nat → Nat)
def cheapL : List Int32 := [0, 1, 5, 2, 6, 10, 3, 7, 11, 15, 4, 8, 12, 16, 20, 9, 13, 17, 21, 14, 18, 22, 19, 23, 24]
def kTx : List String := ["table", "word", "short", "slip", "time", "guard"]
def kIx : List Nat := [50, 59, 64, 69, 74, 79]
def kLen : List Nat := [5, 4, 5, 4, 4, 5]
def kByt : List (List Int32) := [[116, 97, 98, 108, 101], [119, 111, 114, 100], [115, 104, 111, 114, 116], [115, 108, 105, 112], [116, 105, 109, 101], [103, 117, 97, 114, 100]]
def nwPlace : Cond := .methodLinkNest "KnockWall$Image" 42 yX11_isPlace "KnockWall"
def nwCheap : Cond := .fieldLinkNest "KnockWall$Tongue" 64 "KnockWall" "CHEAPEST" "[I" "KnockWall"
def GF (D : va_G) (g : gE) (A : Nat → Prop) (U : State) : Prop :=
  va_K D vwCl (tysG g.1) U ∧ va_Nw nwPlace U ∧ va_Nw nwCheap U ∧ va_Z "KnockWall" "CHEAPEST" "[I" (.ref g.2.1) A U U.heap ∧ va_T .int g.2.1 25 (fun j => .int (cheapL.getD j 0)) A U U.heap ∧ vk_S 6 kLen kByt g.2.2.1 g.2.2.2 A U U.heap ∧ (∀ i : Nat, i < 6 → vk_R "KnockWall$Reader" (kIx.getD i 0) (kTx.getD i "") (g.2.2.1 i) U) ∧ va_Z "java/lang/String" "COMPACT_STRINGS" "Z" (.int 1) A U U.heap ∧ va_Zq "jdk/internal/util/Preconditions" "SIOOBE_FORMATTER" "Ljava/util/function/BiFunction;" A U U.heap
theorem GF.k {D : va_G} {g : gE} {A : Nat → Prop} {U : State} (h : GF D g A U) : va_K D vwCl (tysG g.1) U := h.1
theorem GF.go {D : va_G} {g : gE} {A B : Nat → Prop} {s U : State} {H : Heap} {locs : List Loc} (h : GF D g A s) (hS : va_S A s.heap H locs) (hU : U.heap = H) (hW : s.WarmedH U.vm) (hAB : ∀ q, B q → A q) : GF D g B U := by
  obtain ⟨h1, h2, h3, h4, h5, h6, h7, h8, h9⟩ := h
  have hk : ∀ a : Nat, a < s.heap.size → ¬ A a → U.heap[a]? = s.heap[a]? := fun a h1 h2 => by rw [hU]; exact hS.2.1 a h1 h2
  exact ⟨va_K.moved hW.alike h1, va_Nw.warmM hW h2, va_Nw.warmF hW h3, ((h4.moved hW.alike).kept hk).narrow hAB, ((h5.moved hW.alike).kept hk).narrow hAB, ((h6.moved hW.alike).kept hk).narrow hAB, fun i hi => (h7 i hi).warm hW, ((h8.moved hW.alike).kept hk).narrow hAB, ((h9.moved hW.alike).kept hk).narrow hAB⟩
theorem GF.calling {D : va_G} {g : gE} {A : Nat → Prop} {U : State} (h : GF D g A U) (f : JFrame) (mk : MethodId) (a : Array Value) : GF D g A (U.calling f mk a) := by
  obtain ⟨h1, h2, h3, h4, h5, h6, h7, h8, h9⟩ := h
  have e : U.vm.Alike (U.calling f mk a).vm := Vm.Alike.refl U.vm
  exact ⟨va_K.moved e h1, va_Nw.same rfl rfl h2, va_Nw.same rfl rfl h3, h4.moved e, h5.moved e, h6.moved e, fun i hi => (h7 i hi).same rfl, h8.moved e, h9.moved e⟩
/-! contracts over a list of cells: the method returns; the world behind it is W' with post -/
def cPre (D : va_G) (g : gE) (Wd : va_W) (sz : Nat) : State → Prop := fun U => U.heap.size = sz ∧ va_P D vwCl Wd U.heap ∧ GF D g (va_A Wd sz) U ∧ va_D (fun _ => True) Wd
def cB (D : va_G) (A : Nat → Prop) (W' : va_W) (t : State) : Prop := va_P D vwCl W' t.heap ∧ va_D A W'
def Ci (l : Launch) (D : va_G) (g : gE) (y : MethodName) (ws : List Cond) (rm : Room) (av : List Value) (Wd : va_W) (post : Int32 → va_W → Prop) : Prop := ∀ sz : Nat, Met l y ws rm (va_Pc av (cPre D g Wd sz)) (va_Qi post (cB D (va_A Wd sz)) (va_A Wd sz)) 0 0 (va_A Wd sz)
def Cl (l : Launch) (D : va_G) (g : gE) (y : MethodName) (ws : List Cond) (rm : Room) (av : List Value) (Wd : va_W) (post : Int64 → va_W → Prop) : Prop := ∀ sz : Nat, Met l y ws rm (va_Pc av (cPre D g Wd sz)) (va_Ql post (cB D (va_A Wd sz)) (va_A Wd sz)) 0 0 (va_A Wd sz)
def Cv (l : Launch) (D : va_G) (g : gE) (y : MethodName) (ws : List Cond) (rm : Room) (av : List Value) (Wd : va_W) (post : va_W → Prop) : Prop := ∀ sz : Nat, Met l y ws rm (va_Pc av (cPre D g Wd sz)) (va_Qv post (cB D (va_A Wd sz)) (va_A Wd sz)) 0 0 (va_A Wd sz)
theorem cPre.blind {D : va_G} {g : gE} {Wd : va_W} {sz : Nat} {av : List Value} : FrameBlind (va_Pc av (cPre D g Wd sz)) := fun a U f mk q => ⟨q.1, q.2.1, q.2.2.1, q.2.2.2.1.calling f mk a, q.2.2.2.2⟩
section OF
variable {l : Launch} {D : va_G} {g : gE} {y : MethodName} {ws ws' : List Cond} {rm : Room} {av : List Value} {Wd : va_W} {cc : ByteArray} {maxL : Nat} {ret : Option FieldType}
theorem C_open {Qf : (Nat → Prop) → Array Value → State → Outcome → State → Prop} (hy : plainName y.cls = true) (hw : ws = Cond.code y cc maxL ret :: ws') (hn : (lg_sl av).length ≤ maxL)
    (body : ∀ (p : Program) (e : Env) (s : State) (m : MethodId) (below : List Frame) (meth : Method) (c : Code) (A : Nat → Prop), p.tables.exec = Jvm.exec → c.code = cc → meth.sig.returnType = ret → meth.locks = false → c.maxLocals = maxL → (∀ w ∈ ws, w.before av.toArray s = true) → s.vm.findClass y.cls = some m.cls → (∀ q, s.heap.size ≤ q → A q) → va_P D vwCl Wd s.heap → va_D A Wd → va_S A s.heap s.heap [] → GF D g A s → ∀ ls : Array Slot, lv_has ls maxL (lv_args 0 av) →
      W p l e rm s m av.toArray below meth c s.heap [] 0 0 (MQ below (Qf A) av.toArray s 0 0 A) (F0 m 0 ls [])) (sz : Nat) : Met l y ws rm (va_Pc av (cPre D g Wd sz)) (Qf (va_A Wd sz)) 0 0 (va_A Wd sz) := by
  refine Met.ofW (cc := cc) (maxL := maxL) (ret := ret) hy hw ?_
  intro p e s m args below meth c s₁ B hml hv
  obtain ⟨rfl, hsz, hP, hG, hD0⟩ := hv
  subst hsz
  rw [lg_entry_eq]
  exact body p e s m below meth c _ B.exec B.bytes B.returns B.notSynchronized hml (atoms_spec (ws := ws) B.pre) (findClass_of_methodNamed B.named) (fun q h => Or.inr h) hP hD0.self va_S.rf hG _ (lv_entry av hn)
theorem Ci.of {post : Int32 → va_W → Prop} (hy : plainName y.cls = true) (hw : ws = Cond.code y cc maxL (some .int) :: ws') (hn : (lg_sl av).length ≤ maxL)
    (body : ∀ (p : Program) (e : Env) (s : State) (m : MethodId) (args : Array Value) (below : List Frame) (meth : Method) (c : Code) (A : Nat → Prop) (Q : State → Prop), p.tables.exec = Jvm.exec → c.code = cc → c.maxLocals = maxL → (∀ w ∈ ws, w.before args s = true) → s.vm.findClass y.cls = some m.cls → (∀ q, s.heap.size ≤ q → A q) → ∀ (H : Heap) (locs : List Loc), va_P D vwCl Wd H → va_D A Wd → va_S A s.heap H locs → GF D g A s → ∀ ls : Array Slot, lv_has ls maxL (lv_args 0 av) →
      (∀ (r : Int32) (W' : va_W) (H : Heap) (locs : List Loc) (pc : Nat) (ls : Array Slot), post r W' → va_P D vwCl W' H → va_D A W' → va_S A s.heap H locs → decode cc pc = .ok (.ireturn, 1) → W p l e rm s m args below meth c H locs 0 0 Q (F0 m pc ls [.int r])) →
      W p l e rm s m args below meth c H locs 0 0 Q (F0 m 0 ls [])) : Ci l D g y ws rm av Wd post := by
  intro sz
  refine C_open (Qf := fun A => va_Qi post (cB D A) A) hy hw hn ?_ sz
  intro p e s m below meth c A hx hb hr hk hml hts hown hA hP hD hS hG ls hl
  exact body p e s m av.toArray below meth c A _ hx hb hml hts hown hA s.heap [] hP hD hS hG ls hl (fun r W' H locs pc ls h hP hD hS hd => W.iret hx hb hr (fun t ht hW => ⟨⟨r, W', rfl, h, by rw [ht]; exact hP, hD⟩, hS.F ht⟩) hS.2.2 hd)
theorem Cz.of {post : Int32 → va_W → Prop} (hy : plainName y.cls = true) (hw : ws = Cond.code y cc maxL (some .boolean) :: ws') (hn : (lg_sl av).length ≤ maxL)
    (body : ∀ (p : Program) (e : Env) (s : State) (m : MethodId) (args : Array Value) (below : List Frame) (meth : Method) (c : Code) (A : Nat → Prop) (Q : State → Prop), p.tables.exec = Jvm.exec → c.code = cc → c.maxLocals = maxL → (∀ w ∈ ws, w.before args s = true) → s.vm.findClass y.cls = some m.cls → (∀ q, s.heap.size ≤ q → A q) → ∀ (H : Heap) (locs : List Loc), va_P D vwCl Wd H → va_D A Wd → va_S A s.heap H locs → GF D g A s → ∀ ls : Array Slot, lv_has ls maxL (lv_args 0 av) →
      (∀ (r : Int32) (W' : va_W) (H : Heap) (locs : List Loc) (pc : Nat) (ls : Array Slot), (r = 0 ∨ r = 1) → post r W' → va_P D vwCl W' H → va_D A W' → va_S A s.heap H locs → decode cc pc = .ok (.ireturn, 1) → W p l e rm s m args below meth c H locs 0 0 Q (F0 m pc ls [.int r])) →
      W p l e rm s m args below meth c H locs 0 0 Q (F0 m 0 ls [])) : Ci l D g y ws rm av Wd post := by
  intro sz
  refine C_open (Qf := fun A => va_Qi post (cB D A) A) hy hw hn ?_ sz
  intro p e s m below meth c A hx hb hr hk hml hts hown hA hP hD hS hG ls hl
  exact body p e s m av.toArray below meth c A _ hx hb hml hts hown hA s.heap [] hP hD hS hG ls hl (fun r W' H locs pc ls hz h hP hD hS hd => W.zret (ty := .boolean) hx hb hr (by rcases hz with rfl | rfl <;> rfl) (fun t ht hW => ⟨⟨r, W', rfl, h, by rw [ht]; exact hP, hD⟩, hS.F ht⟩) hS.2.2 hd)
theorem Cl.of {post : Int64 → va_W → Prop} (hy : plainName y.cls = true) (hw : ws = Cond.code y cc maxL (some .long) :: ws') (hn : (lg_sl av).length ≤ maxL)
    (body : ∀ (p : Program) (e : Env) (s : State) (m : MethodId) (args : Array Value) (below : List Frame) (meth : Method) (c : Code) (A : Nat → Prop) (Q : State → Prop), p.tables.exec = Jvm.exec → c.code = cc → c.maxLocals = maxL → (∀ w ∈ ws, w.before args s = true) → s.vm.findClass y.cls = some m.cls → (∀ q, s.heap.size ≤ q → A q) → ∀ (H : Heap) (locs : List Loc), va_P D vwCl Wd H → va_D A Wd → va_S A s.heap H locs → GF D g A s → ∀ ls : Array Slot, lv_has ls maxL (lv_args 0 av) →
      (∀ (r : Int64) (W' : va_W) (H : Heap) (locs : List Loc) (pc : Nat) (ls : Array Slot), post r W' → va_P D vwCl W' H → va_D A W' → va_S A s.heap H locs → decode cc pc = .ok (.lreturn, 1) → W p l e rm s m args below meth c H locs 0 0 Q (F0 m pc ls [.long r])) →
      W p l e rm s m args below meth c H locs 0 0 Q (F0 m 0 ls [])) : Cl l D g y ws rm av Wd post := by
  intro sz
  refine C_open (Qf := fun A => va_Ql post (cB D A) A) hy hw hn ?_ sz
  intro p e s m below meth c A hx hb hr hk hml hts hown hA hP hD hS hG ls hl
  exact body p e s m av.toArray below meth c A _ hx hb hml hts hown hA s.heap [] hP hD hS hG ls hl (fun r W' H locs pc ls h hP hD hS hd => W.lret hx hb hr (fun t ht hW => ⟨⟨r, W', rfl, h, by rw [ht]; exact hP, hD⟩, hS.F ht⟩) hS.2.2 hd)
theorem Cv.of {post : va_W → Prop} (hy : plainName y.cls = true) (hw : ws = Cond.code y cc maxL none :: ws') (hn : (lg_sl av).length ≤ maxL)
    (body : ∀ (p : Program) (e : Env) (s : State) (m : MethodId) (args : Array Value) (below : List Frame) (meth : Method) (c : Code) (A : Nat → Prop) (Q : State → Prop), p.tables.exec = Jvm.exec → c.code = cc → c.maxLocals = maxL → (∀ w ∈ ws, w.before args s = true) → s.vm.findClass y.cls = some m.cls → (∀ q, s.heap.size ≤ q → A q) → ∀ (H : Heap) (locs : List Loc), va_P D vwCl Wd H → va_D A Wd → va_S A s.heap H locs → GF D g A s → ∀ ls : Array Slot, lv_has ls maxL (lv_args 0 av) →
      (∀ (W' : va_W) (H : Heap) (locs : List Loc) (pc : Nat) (ls : Array Slot), post W' → va_P D vwCl W' H → va_D A W' → va_S A s.heap H locs → decode cc pc = .ok (.return_, 1) → W p l e rm s m args below meth c H locs 0 0 Q (F0 m pc ls [])) →
      W p l e rm s m args below meth c H locs 0 0 Q (F0 m 0 ls [])) : Cv l D g y ws rm av Wd post := by
  intro sz
  refine C_open (Qf := fun A => va_Qv post (cB D A) A) hy hw hn ?_ sz
  intro p e s m below meth c A hx hb hr hk hml hts hown hA hP hD hS hG ls hl
  exact body p e s m av.toArray below meth c A _ hx hb hml hts hown hA s.heap [] hP hD hS hG ls hl (fun W' H locs pc ls h hP hD hS hd => W.vret hx hb hr (fun t ht hW => ⟨⟨W', rfl, h, by rw [ht]; exact hP, hD⟩, hS.F ht⟩) hS.2.2 hd)
end OF
/-! calls: the callee's cells cut out, what comes back beside the rest -/
section CALL
variable {p : Program} {l : Launch} {e : Env} {R : Room} {s : State} {m : MethodId} {args : Array Value} {below : List Frame} {meth : Method} {c : Code} {H : Heap} {locs : List Loc} {Q : State → Prop}
variable {pc : Nat} {ls : Array Slot} {rest st0 As : List Value} {a : Array Value} {A : Nat → Prop} {D : va_G} {g : gE} {ws wc wr : va_W} {y : MethodName} {bytes cc : ByteArray} {maxL nL n index : Nat} {ret : Option FieldType} {wsy Ts : List Cond} {rm : Room} {own C host : String} {b : Nat}
theorem k_cut (hP : va_P D vwCl ws H) (isC : List Nat) (hC : isC.map (fun i => ws[i]?) = wc.map some) : va_P D vwCl wc H := by
  intro k q hq
  have h1 : (isC.map (fun i => ws[i]?))[k]? = some (some q) := by rw [hC, List.getElem?_map, hq]; rfl
  rw [List.getElem?_map] at h1
  cases hi : isC[k]? with
  | none => rw [hi] at h1; cases h1
  | some i => rw [hi] at h1; exact hP i q (Option.some.inj h1)
theorem k_pre (hG : GF D g A s) (hA : ∀ q, s.heap.size ≤ q → A q) (hP : va_P D vwCl ws H) (hD : va_D A ws) (hS : va_S A s.heap H locs) (isC : List Nat) (hC : isC.map (fun i => ws[i]?) = wc.map some) (hnC : va_nd isC = true) (U : State) (hU : U.heap = H) (hW : s.WarmedH U.vm) : cPre D g wc H.size U := by
  refine ⟨by rw [hU], by rw [hU]; exact k_cut hP isC hC, hG.go hS hU hW (va_free hD hS hA isC hC), (hD.sub isC hnC hC).weaken (fun _ _ _ _ => trivial)⟩
theorem k_i {post : Int32 → va_W → Prop} (hA : ∀ q, s.heap.size ≤ q → A q) (hP : va_P D vwCl ws H) (hD : va_D A ws) (hS : va_S A s.heap H locs) (isC isR : List Nat) (hC : isC.map (fun i => ws[i]?) = wc.map some) (hR : isR.map (fun i => ws[i]?) = wr.map some) (hn : va_nd isR = true) (hdis : ∀ i ∈ isR, i ∉ isC)
    (hr : va_Run p l e R s m args below meth c H locs 0 0 0 0 (F0 m pc ls st0) rest (va_Qi post (cB D (va_A wc H.size)) (va_A wc H.size) a) (va_A wc H.size))
    (kk : ∀ (r : Int32) (W' : va_W) (H1 : Heap) (locs1 : List Loc), post r W' → va_P D vwCl (wr ++ W') H1 → va_D A (wr ++ W') → va_S A s.heap H1 locs1 → W p l e R s m args below meth c H1 locs1 0 0 Q (F0 m (pc + 3) ls (.int r :: rest))) : W p l e R s m args below meth c H locs 0 0 Q (F0 m pc ls st0) := by
  have hF := va_free hD hS hA isC hC
  refine va_calli hr hS (fun q _ h => hF q h) hF (fun r u t H1 locs1 ht hvm hw hB hz hk hS1 => ?_)
  obtain ⟨hP1, hD1⟩ := hB
  rw [ht] at hP1
  obtain ⟨hP2, hD2⟩ := va_join hP hD isC isR hC hR hn hdis hk hF hP1 hD1
  exact kk r u H1 locs1 hw hP2 hD2 hS1
theorem k_l {post : Int64 → va_W → Prop} (hA : ∀ q, s.heap.size ≤ q → A q) (hP : va_P D vwCl ws H) (hD : va_D A ws) (hS : va_S A s.heap H locs) (isC isR : List Nat) (hC : isC.map (fun i => ws[i]?) = wc.map some) (hR : isR.map (fun i => ws[i]?) = wr.map some) (hn : va_nd isR = true) (hdis : ∀ i ∈ isR, i ∉ isC)
    (hr : va_Run p l e R s m args below meth c H locs 0 0 0 0 (F0 m pc ls st0) rest (va_Ql post (cB D (va_A wc H.size)) (va_A wc H.size) a) (va_A wc H.size))
    (kk : ∀ (r : Int64) (W' : va_W) (H1 : Heap) (locs1 : List Loc), post r W' → va_P D vwCl (wr ++ W') H1 → va_D A (wr ++ W') → va_S A s.heap H1 locs1 → W p l e R s m args below meth c H1 locs1 0 0 Q (F0 m (pc + 3) ls (.long r :: rest))) : W p l e R s m args below meth c H locs 0 0 Q (F0 m pc ls st0) := by
  have hF := va_free hD hS hA isC hC
  refine va_calll hr hS (fun q _ h => hF q h) hF (fun r u t H1 locs1 ht hvm hw hB hz hk hS1 => ?_)
  obtain ⟨hP1, hD1⟩ := hB
  rw [ht] at hP1
  obtain ⟨hP2, hD2⟩ := va_join hP hD isC isR hC hR hn hdis hk hF hP1 hD1
  exact kk r u H1 locs1 hw hP2 hD2 hS1
theorem k_v {post : va_W → Prop} (hA : ∀ q, s.heap.size ≤ q → A q) (hP : va_P D vwCl ws H) (hD : va_D A ws) (hS : va_S A s.heap H locs) (isC isR : List Nat) (hC : isC.map (fun i => ws[i]?) = wc.map some) (hR : isR.map (fun i => ws[i]?) = wr.map some) (hn : va_nd isR = true) (hdis : ∀ i ∈ isR, i ∉ isC)
    (hr : va_Run p l e R s m args below meth c H locs 0 0 0 0 (F0 m pc ls st0) rest (va_Qv post (cB D (va_A wc H.size)) (va_A wc H.size) a) (va_A wc H.size))
    (kk : ∀ (W' : va_W) (H1 : Heap) (locs1 : List Loc), post W' → va_P D vwCl (wr ++ W') H1 → va_D A (wr ++ W') → va_S A s.heap H1 locs1 → W p l e R s m args below meth c H1 locs1 0 0 Q (F0 m (pc + 3) ls rest)) : W p l e R s m args below meth c H locs 0 0 Q (F0 m pc ls st0) := by
  have hF := va_free hD hS hA isC hC
  refine va_callv hr hS (fun q _ h => hF q h) hF (fun u t H1 locs1 ht hvm hw hB hz hk hS1 => ?_)
  obtain ⟨hP1, hD1⟩ := hB
  rw [ht] at hP1
  obtain ⟨hP2, hD2⟩ := va_join hP hD isC isR hC hR hn hdis hk hF hP1 hD1
  exact kk u H1 locs1 hw hP2 hD2 hS1
/-- the receiver of a virtual call -/
theorem k_preV {q0 ci N : Nat} {T : u_T} {fs : List Value} (hG : GF D g A s) (hA : ∀ q, s.heap.size ≤ q → A q) (hP : va_P D vwCl ws H) (hD : va_D A ws) (hS : va_S A s.heap H locs) (isC : List Nat) (hC : isC.map (fun i => ws[i]?) = wc.map some) (hnC : va_nd isC = true) (hc : vwCl[ci]? = some (C, T, N)) (he : ws[q0]? = some (b, .inr (ci, fs))) : PreV s H C b (va_Pc (.ref b :: As) (cPre D g wc H.size)) As :=
  ⟨cPre.blind, va_recv hG.k hP hc he, fun U hU hW => ⟨rfl, k_pre hG hA hP hD hS isC hC hnC U hU hW⟩⟩
theorem k_preS (hG : GF D g A s) (hA : ∀ q, s.heap.size ≤ q → A q) (hP : va_P D vwCl ws H) (hD : va_D A ws) (hS : va_S A s.heap H locs) (isC : List Nat) (hC : isC.map (fun i => ws[i]?) = wc.map some) (hnC : va_nd isC = true) : PreS s H (va_Pc As (cPre D g wc H.size)) As :=
  ⟨cPre.blind, fun U hU hW => ⟨rfl, k_pre hG hA hP hD hS isC hC hnC U hU hW⟩⟩
end CALL
section LC
variable {p : Program} {l : Launch} {e : Env} {R : Room} {s : State} {m : MethodId} {args : Array Value} {below : List Frame} {meth : Method} {c : Code} {H : Heap} {locs : List Loc} {cells slots : Nat} {Q : State → Prop} {cc : ByteArray} {pc : Nat} {ls : Array Slot} {rest : List Value}
theorem lg_lt (x y : Int64) : lg_cmp x y < 0 ↔ x < y := by
  have e1 : (x > y) ↔ y.toInt < x.toInt := Int64.lt_iff_toInt_lt
  have e2 : (x < y) ↔ x.toInt < y.toInt := Int64.lt_iff_toInt_lt
  have e3 : (x = y) ↔ x.toInt = y.toInt := Int64.toInt_inj.symm
  unfold lg_cmp
  by_cases h1 : x > y
  · rw [if_pos h1]
    exact ⟨fun h => absurd h (by decide), fun h => absurd (e2.mp h) (by have := e1.mp h1; omega)⟩
  · rw [if_neg h1]
    by_cases h2 : x = y
    · rw [if_pos h2]
      exact ⟨fun h => absurd h (by decide), fun h => absurd (e2.mp h) (by have := e3.mp h2; omega)⟩
    · rw [if_neg h2]
      have g1 : ¬ y.toInt < x.toInt := fun h => h1 (e1.mpr h)
      have g2 : ¬ x.toInt = y.toInt := fun h => h2 (e3.mpr h)
      exact ⟨fun _ => e2.mpr (by omega), fun _ => by decide⟩
theorem lg_eq (x y : Int64) : lg_cmp x y = 0 ↔ x = y := by
  have e1 : (x > y) ↔ y.toInt < x.toInt := Int64.lt_iff_toInt_lt
  have e3 : (x = y) ↔ x.toInt = y.toInt := Int64.toInt_inj.symm
  unfold lg_cmp
  by_cases h1 : x > y
  · rw [if_pos h1]
    exact ⟨fun h => absurd h (by decide), fun h => absurd (e3.mp h) (by have := e1.mp h1; omega)⟩
  · rw [if_neg h1]
    by_cases h2 : x = y
    · rw [if_pos h2]
      exact ⟨fun _ => h2, fun _ => rfl⟩
    · rw [if_neg h2]
      exact ⟨fun h => absurd h (by decide), fun h => absurd h h2⟩
theorem lg_gt (x y : Int64) : 0 < lg_cmp x y ↔ y < x := by
  unfold lg_cmp
  by_cases h1 : x > y
  · rw [if_pos h1]
    exact ⟨fun _ => h1, fun _ => by decide⟩
  · rw [if_neg h1]
    by_cases h2 : x = y
    · rw [if_pos h2]
      exact ⟨fun h => absurd h (by decide), fun h => absurd h h1⟩
    · rw [if_neg h2]
      exact ⟨fun h => absurd h (by decide), fun h => absurd h h1⟩
theorem lc_lt (hx : p.tables.exec = Jvm.exec) (hb : c.code = cc) {x y : Int64} {off : Int} {tgt : Nat} (h1 : decode cc pc = .ok (.lcmp, 1)) (h2 : decode cc (pc + 1) = .ok (.ifCond .lt off, 3)) (ht : ((pc + 1 : Nat) : Int) + off = (tgt : Int)) (kt : x < y → W p l e R s m args below meth c H locs cells slots Q (F0 m tgt ls rest)) (kf : ¬ x < y → W p l e R s m args below meth c H locs cells slots Q (F0 m (pc + 4) ls rest)) : W p l e R s m args below meth c H locs cells slots Q (F0 m pc ls (.long y :: .long x :: rest)) :=
  W.lcmp hx hb h1 (lv_if_lt (tgt := tgt) hx hb h2 ht (fun h => kt ((lg_lt x y).mp h)) (fun h => kf (fun z => h ((lg_lt x y).mpr z))))
theorem lc_ge (hx : p.tables.exec = Jvm.exec) (hb : c.code = cc) {x y : Int64} {off : Int} {tgt : Nat} (h1 : decode cc pc = .ok (.lcmp, 1)) (h2 : decode cc (pc + 1) = .ok (.ifCond .ge off, 3)) (ht : ((pc + 1 : Nat) : Int) + off = (tgt : Int)) (kt : ¬ x < y → W p l e R s m args below meth c H locs cells slots Q (F0 m tgt ls rest)) (kf : x < y → W p l e R s m args below meth c H locs cells slots Q (F0 m (pc + 4) ls rest)) : W p l e R s m args below meth c H locs cells slots Q (F0 m pc ls (.long y :: .long x :: rest)) :=
  W.lcmp hx hb h1 (lv_if_ge (tgt := tgt) hx hb h2 ht (fun h => kt (fun z => by have := (lg_lt x y).mpr z; rw [Int32.lt_iff_toInt_lt] at this; rw [Int32.le_iff_toInt_le] at h; omega)) (fun h => kf ((lg_lt x y).mp (by rw [Int32.lt_iff_toInt_lt]; rw [Int32.le_iff_toInt_le] at h; omega))))
theorem lc_gt (hx : p.tables.exec = Jvm.exec) (hb : c.code = cc) {x y : Int64} {off : Int} {tgt : Nat} (h1 : decode cc pc = .ok (.lcmp, 1)) (h2 : decode cc (pc + 1) = .ok (.ifCond .gt off, 3)) (ht : ((pc + 1 : Nat) : Int) + off = (tgt : Int)) (kt : y < x → W p l e R s m args below meth c H locs cells slots Q (F0 m tgt ls rest)) (kf : ¬ y < x → W p l e R s m args below meth c H locs cells slots Q (F0 m (pc + 4) ls rest)) : W p l e R s m args below meth c H locs cells slots Q (F0 m pc ls (.long y :: .long x :: rest)) :=
  W.lcmp hx hb h1 (lv_if_gt (tgt := tgt) hx hb h2 ht (fun h => kt ((lg_gt x y).mp h)) (fun h => kf (fun z => h ((lg_gt x y).mpr z))))
theorem lc_le (hx : p.tables.exec = Jvm.exec) (hb : c.code = cc) {x y : Int64} {off : Int} {tgt : Nat} (h1 : decode cc pc = .ok (.lcmp, 1)) (h2 : decode cc (pc + 1) = .ok (.ifCond .le off, 3)) (ht : ((pc + 1 : Nat) : Int) + off = (tgt : Int)) (kt : ¬ y < x → W p l e R s m args below meth c H locs cells slots Q (F0 m tgt ls rest)) (kf : y < x → W p l e R s m args below meth c H locs cells slots Q (F0 m (pc + 4) ls rest)) : W p l e R s m args below meth c H locs cells slots Q (F0 m pc ls (.long y :: .long x :: rest)) :=
  W.lcmp hx hb h1 (lv_if_le (tgt := tgt) hx hb h2 ht (fun h => kt (fun z => by have := (lg_gt x y).mpr z; rw [Int32.lt_iff_toInt_lt] at this; rw [Int32.le_iff_toInt_le] at h; omega)) (fun h => kf ((lg_gt x y).mp (by rw [Int32.lt_iff_toInt_lt]; rw [Int32.le_iff_toInt_le] at h; omega))))
theorem lc_eq (hx : p.tables.exec = Jvm.exec) (hb : c.code = cc) {x y : Int64} {off : Int} {tgt : Nat} (h1 : decode cc pc = .ok (.lcmp, 1)) (h2 : decode cc (pc + 1) = .ok (.ifCond .eq off, 3)) (ht : ((pc + 1 : Nat) : Int) + off = (tgt : Int)) (kt : x = y → W p l e R s m args below meth c H locs cells slots Q (F0 m tgt ls rest)) (kf : ¬ x = y → W p l e R s m args below meth c H locs cells slots Q (F0 m (pc + 4) ls rest)) : W p l e R s m args below meth c H locs cells slots Q (F0 m pc ls (.long y :: .long x :: rest)) :=
  W.lcmp hx hb h1 (lv_if_eq (tgt := tgt) hx hb h2 ht (fun h => kt ((lg_eq x y).mp h)) (fun h => kf (fun z => h ((lg_eq x y).mpr z))))
theorem lc_ne (hx : p.tables.exec = Jvm.exec) (hb : c.code = cc) {x y : Int64} {off : Int} {tgt : Nat} (h1 : decode cc pc = .ok (.lcmp, 1)) (h2 : decode cc (pc + 1) = .ok (.ifCond .ne off, 3)) (ht : ((pc + 1 : Nat) : Int) + off = (tgt : Int)) (kt : ¬ x = y → W p l e R s m args below meth c H locs cells slots Q (F0 m tgt ls rest)) (kf : x = y → W p l e R s m args below meth c H locs cells slots Q (F0 m (pc + 4) ls rest)) : W p l e R s m args below meth c H locs cells slots Q (F0 m pc ls (.long y :: .long x :: rest)) :=
  W.lcmp hx hb h1 (lv_if_ne (tgt := tgt) hx hb h2 ht (fun h => kt (fun z => h ((lg_eq x y).mpr z))) (fun h => kf ((lg_eq x y).mp h)))
/-- a table switch: each case, and the rest -/
theorem sw_out {x : Int32} {lo hi : Int} (h : ∀ k : Int, lo ≤ k → k ≤ hi → ¬ x.toInt = k) : x.toInt < lo ∨ hi < x.toInt := by
  by_cases h1 : x.toInt < lo
  · exact Or.inl h1
  · by_cases h2 : hi < x.toInt
    · exact Or.inr h2
    · exact absurd rfl (h x.toInt (by omega) (by omega))
end LC

/-! one list of words for all -/
theorem gdW {c0 : Cond} : GoodIn (c0 :: wsL_law) wsL_law := fun w h => ⟨List.mem_cons_of_mem _ h, good_of_word (List.all_eq_true.mp wsL_good w h)⟩
theorem gdN {c0 : Cond} {w : Cond} (h : w ∈ wsL_law) : GoodIn (c0 :: wsL_law) (w :: wsL_law) := fun z hz => (List.mem_cons.mp hz).elim (fun e => by rw [e]; exact gdW w h) (gdW z)
theorem gdV {c0 : Cond} {own C : String} {idx : Nat} {y : MethodName} {cd : Cond} (h1 : .methodLink own idx y ∈ wsL_law) (h2 : .instanceMethod y ∈ wsL_law) (h3 : .selects C y y ∈ wsL_law) (h4 : .initialized C ∈ wsL_law) (h5 : cd ∈ wsL_law) : GoodIn (c0 :: wsL_law) (wsV own idx C y (cd :: wsL_law)) := by
  intro w hw
  unfold wsV at hw
  rcases List.mem_append.mp hw with hw | hw
  · simp only [List.mem_cons, List.not_mem_nil, or_false] at hw
    rcases hw with rfl | rfl | rfl | rfl
    · exact gdW _ h1
    · exact gdW _ h2
    · exact gdW _ h3
    · exact gdW _ h4
  · exact gdN h5 w hw
theorem gdS {c0 : Cond} {own : String} {idx : Nat} {y : MethodName} {cd : Cond} (h1 : .methodLink own idx y ∈ wsL_law) (h2 : .static y ∈ wsL_law) (h4 : .initialized y.cls ∈ wsL_law) (h5 : cd ∈ wsL_law) : GoodIn (c0 :: wsL_law) (va_wsS own idx y (cd :: wsL_law)) := by
  intro w hw
  unfold va_wsS at hw
  rcases List.mem_append.mp hw with hw | hw
  · simp only [List.mem_cons, List.not_mem_nil, or_false] at hw
    rcases hw with rfl | rfl | rfl
    · exact gdW _ h1
    · exact gdW _ h2
    · exact gdW _ h4
  · exact gdN h5 w hw
/-! rows of rows, arrays of objects -/
def rfL (l : List Nat) : Nat → Option Nat := fun j => l[j]?
def updR {α : Type} (f : Nat → Nat → α) (k : Nat) (v : Nat → α) : Nat → Nat → α := fun r => if r = k then v else f r
theorem in_cases {x : Int32} {n : Nat} (h : vp_in x n) (hn : n < 2 ^ 31) : ∃ j : Nat, j < n ∧ x = nI j ∧ x.toNatClampNeg = j := by
  obtain ⟨j, hj, e⟩ := vp_in_of h hn
  exact ⟨j, hj, e, by rw [e]; exact nI_clamp (by omega)⟩
theorem in2 {x : Int32} (h : vp_in x 2) : x = 0 ∨ x = 1 := by
  obtain ⟨j, hj, e, -⟩ := in_cases h (by decide)
  rcases (show j = 0 ∨ j = 1 by omega) with rfl | rfl
  · exact Or.inl e
  · exact Or.inr e
theorem in4 {x : Int32} (h : vp_in x 4) : x = 0 ∨ x = 1 ∨ x = 2 ∨ x = 3 := by
  obtain ⟨j, hj, e, -⟩ := in_cases h (by decide)
  rcases (show j = 0 ∨ j = 1 ∨ j = 2 ∨ j = 3 by omega) with rfl | rfl | rfl | rfl
  · exact Or.inl e
  · exact Or.inr (Or.inl e)
  · exact Or.inr (Or.inr (Or.inl e))
  · exact Or.inr (Or.inr (Or.inr e))
theorem gr6 {x : Int32} (h : vp_in x 6) (P : Nat → Prop) (h0 : P 0) (h1 : P 1) (h2 : P 2) (h3 : P 3) (h4 : P 4) (h5 : P 5) : P x.toNatClampNeg := by
  obtain ⟨j, hj, -, e⟩ := in_cases h (by decide)
  rw [e]
  rcases (show j = 0 ∨ j = 1 ∨ j = 2 ∨ j = 3 ∨ j = 4 ∨ j = 5 by omega) with rfl | rfl | rfl | rfl | rfl | rfl
  · exact h0
  · exact h1
  · exact h2
  · exact h3
  · exact h4
  · exact h5
theorem gr7 {x : Int32} (h : vp_in x 7) (P : Nat → Prop) (h0 : P 0) (h1 : P 1) (h2 : P 2) (h3 : P 3) (h4 : P 4) (h5 : P 5) (h6 : P 6) : P x.toNatClampNeg := by
  obtain ⟨j, hj, -, e⟩ := in_cases h (by decide)
  rw [e]
  rcases (show j = 0 ∨ j = 1 ∨ j = 2 ∨ j = 3 ∨ j = 4 ∨ j = 5 ∨ j = 6 by omega) with rfl | rfl | rfl | rfl | rfl | rfl | rfl
  · exact h0
  · exact h1
  · exact h2
  · exact h3
  · exact h4
  · exact h5
  · exact h6
theorem lk_out2 {x : Int32} {a b o1 o2 d : Int} (h1 : ¬ x.toInt = a) (h2 : ¬ x.toInt = b) : Op.lookupswitch.offset [(a, o1), (b, o2)] d x.toInt = d := by
  rw [Op.lookupswitch.offset_cons, if_neg (fun z => h1 z.symm), Op.lookupswitch.offset_cons, if_neg (fun z => h2 z.symm), Op.lookupswitch.offset_nil]
section AALD
variable {p : Program} {l : Launch} {e : Env} {R : Room} {s : State} {m : MethodId} {args : Array Value} {below : List Frame} {meth : Method} {c : Code} {H : Heap} {locs : List Loc} {cells slots : Nat} {Q : State → Prop}
variable {cc : ByteArray} {pc : Nat} {ls : Array Slot} {rest : List Value} {D : va_G} {cl : List vw_C} {A : Nat → Prop} {a : Nat} {tys : List (ClassId × FieldType)} {ws : va_W}
theorem k_aald {ty : FieldType} {v : Value} (hexec : p.tables.exec = Jvm.exec) (hb : c.code = cc) (hK : va_K D cl tys s) (hP : va_P D cl ws H) (q0 t0 : Nat) {cA : ClassId} {n : Nat} {f : Nat → Option Nat} (ha : ws[q0]? = some (a, .inl (cA, n, .inr (.inr (.inr (.inr f)))))) (ht : tys[t0]? = some (cA, ty)) (hty : ty.isReference = true) {i : Int32} (hin : vp_in i n) (hv : va_rf (f i.toNatClampNeg) = v) (hdg : decode cc pc = .ok (.aaload, 1))
    (kk : W p l e R s m args below meth c H locs cells slots Q (F0 m (pc + 1) ls (v :: rest))) : W p l e R s m args below meth c H locs cells slots Q (F0 m pc ls (.int i :: .ref a :: rest)) := by
  have hlt : i.toNatClampNeg < n := Nat.not_le.mp fun q => hin (Or.inr q)
  rw [← hv] at kk
  exact W.aald (v := va_rf (f i.toNatClampNeg)) (ty := ty) hexec hb (hP q0 _ ha) ((hK.2 t0 _ ht).1 n (fun j => va_rf (f j))) hty (fun q => by cases q) (by show ¬ (i < 0 ∨ (arrV _ _ _).slots.size ≤ _); rw [arrV_size]; exact hin) (by show (arrV _ _ _).slots[_]? = _; rw [arrV_read _ _ hlt]) rfl rfl hdg kk
end AALD
theorem GF.tx {D : va_G} {g : gE} {A : Nat → Prop} {U : State} (h : GF D g A U) (i : Nat) (hi : i < 6) : vk_R "KnockWall$Reader" (kIx.getD i 0) (kTx.getD i "") (g.2.2.1 i) U := h.2.2.2.2.2.2.1 i hi
