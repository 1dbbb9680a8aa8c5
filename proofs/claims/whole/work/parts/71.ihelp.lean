/-! constructors: what is given beside the rest, contracts, rows for what is new -/
def nwL : List (String × Nat × MethodName) := [("KnockWall", 9, yX9_init), ("KnockWall", 18, yX6_init), ("KnockWall", 25, yX2_init), ("KnockWall", 42, yX7_init), ("KnockWall", 49, yX10_init), ("KnockWall", 56, yX1_init), ("KnockWall", 63, yX3_init), ("KnockWall", 74, yX0_init), ("KnockWall", 82, yX8_init), ("KnockWall$Code", 36, yX5_init)]
def GI (U : State) : Prop := (∀ q ∈ nwL, va_Nw (.methodLinkNest q.1 q.2.1 q.2.2 "KnockWall") U) ∧ va_AO "KnockWall$Image" U ∧ va_AO "KnockWall$Sheet" U ∧ va_AOA .long U ∧ va_AOA .int U
theorem GI.go {s U : State} (h : GI s) (hW : s.WarmedH U.vm) : GI U := ⟨fun q hq => va_Nw.warmM hW (h.1 q hq), h.2.1.moved hW.alike, h.2.2.1.moved hW.alike, h.2.2.2.1.moved hW.alike, h.2.2.2.2.moved hW.alike⟩
theorem GI.calling {U : State} (h : GI U) (f : JFrame) (mk : MethodId) (a : Array Value) : GI (U.calling f mk a) := by
  have e : U.vm.Alike (U.calling f mk a).vm := Vm.Alike.refl U.vm
  exact ⟨fun q hq => va_Nw.same rfl rfl (h.1 q hq), h.2.1.moved e, h.2.2.1.moved e, h.2.2.2.1.moved e, h.2.2.2.2.moved e⟩
def iPre (D : va_G) (g : gE) (Wd : va_W) (sz : Nat) : State → Prop := fun U => cPre D g Wd sz U ∧ GI U
theorem iPre.blind {D : va_G} {g : gE} {Wd : va_W} {sz : Nat} {av : List Value} : FrameBlind (va_Pc av (iPre D g Wd sz)) := fun a U f mk q => ⟨q.1, ⟨q.2.1.1, q.2.1.2.1, q.2.1.2.2.1.calling f mk a, q.2.1.2.2.2⟩, q.2.2.calling f mk a⟩
def CN (l : Launch) (D : va_G) (g : gE) (y : MethodName) (ws : List Cond) (rm : Room) (av : List Value) (Wd : va_W) (mc ms : Nat) (post : va_W → Prop) : Prop := ∀ sz : Nat, Met l y ws rm (va_Pc av (iPre D g Wd sz)) (va_Qv post (cB D (va_A Wd sz)) (va_A Wd sz)) mc ms (va_A Wd sz)
section OFN
variable {l : Launch} {D : va_G} {g : gE} {y : MethodName} {ws ws' : List Cond} {rm : Room} {av : List Value} {Wd : va_W} {cc : ByteArray} {maxL mc ms : Nat}
theorem CN.of {post : va_W → Prop} (hy : plainName y.cls = true) (hnm : y.name = "<init>") (hw : ws = Cond.code y cc maxL none :: ws') (hn : (lg_sl av).length ≤ maxL)
    (body : ∀ (p : Program) (e : Env) (s : State) (m : MethodId) (args : Array Value) (below : List Frame) (meth : Method) (c : Code) (A : Nat → Prop) (Q : State → Prop), p.tables.exec = Jvm.exec → c.code = cc → c.maxLocals = maxL → (∀ w ∈ ws, w.before args s = true) → s.vm.findClass y.cls = some m.cls → meth.name = "<init>" → (∀ q, s.heap.size ≤ q → A q) → ∀ (H : Heap) (locs : List Loc), va_P D vwCl Wd H → va_D A Wd → va_S A s.heap H locs → GF D g A s → GI s → ∀ ls : Array Slot, lv_has ls maxL (lv_args 0 av) →
      (∀ (W' : va_W) (H : Heap) (locs : List Loc) (pc : Nat) (ls : Array Slot), post W' → va_P D vwCl W' H → va_D A W' → va_S A s.heap H locs → decode cc pc = .ok (.return_, 1) → W p l e rm s m args below meth c H locs mc ms Q (F0 m pc ls [])) →
      W p l e rm s m args below meth c H locs 0 0 Q (F0 m 0 ls [])) : CN l D g y ws rm av Wd mc ms post := by
  intro sz
  refine Met.ofW (cc := cc) (maxL := maxL) (ret := none) hy hw ?_
  intro p e s m args below meth c s₁ B hml hv
  obtain ⟨rfl, ⟨hsz, hP, hG, hD0⟩, hI⟩ := hv
  subst hsz
  rw [lg_entry_eq]
  have hr := B.returns
  have hlocks := B.notSynchronized
  have hin : meth.name = "<init>" := ((name_of_methodNamed B.named B.method).1).trans hnm
  exact body p e s m av.toArray below meth c _ _ B.exec B.bytes hml (atoms_spec (ws := ws) B.pre) (findClass_of_methodNamed B.named) hin (fun q h => Or.inr h) s.heap [] hP hD0.self va_S.rf hG hI _ (lv_entry av hn) (fun W' H locs pc ls h hP hD hS hd => W.vret B.exec B.bytes hr (fun t ht hW => ⟨⟨W', rfl, h, by rw [ht]; exact hP, hD⟩, hS.F ht⟩) hS.2.2 hd)
end OFN
section NEW
variable {p : Program} {l : Launch} {e : Env} {R : Room} {s : State} {m : MethodId} {args : Array Value} {below : List Frame} {meth : Method} {c : Code} {H : Heap} {locs : List Loc} {cells slots : Nat} {Q : State → Prop}
variable {pc : Nat} {ls : Array Slot} {rest st0 As : List Value} {a : Array Value} {A : Nat → Prop} {D : va_G} {g : gE} {ws wc wr : va_W} {cc : ByteArray} {mc ms : Nat}
theorem k_n {post : va_W → Prop} (hA : ∀ q, s.heap.size ≤ q → A q) (hP : va_P D vwCl ws H) (hD : va_D A ws) (hS : va_S A s.heap H locs) (isC isR : List Nat) (hC : isC.map (fun i => ws[i]?) = wc.map some) (hR : isR.map (fun i => ws[i]?) = wr.map some) (hn : va_nd isR = true) (hdis : ∀ i ∈ isR, i ∉ isC)
    (hr : va_Run p l e R s m args below meth c H locs cells slots mc ms (F0 m pc ls st0) rest (va_Qv post (cB D (va_A wc H.size)) (va_A wc H.size) a) (va_A wc H.size))
    (kk : ∀ (W' : va_W) (H1 : Heap) (locs1 : List Loc), post W' → va_P D vwCl (wr ++ W') H1 → va_D A (wr ++ W') → va_S A s.heap H1 locs1 → W p l e R s m args below meth c H1 locs1 (cells + mc) (slots + ms) Q (F0 m (pc + 3) ls rest)) : W p l e R s m args below meth c H locs cells slots Q (F0 m pc ls st0) := by
  have hF := va_free hD hS hA isC hC
  refine va_callv hr hS (fun q _ h => hF q h) hF (fun u t H1 locs1 ht hvm hw hB hz hk hS1 => ?_)
  obtain ⟨hP1, hD1⟩ := hB
  rw [ht] at hP1
  obtain ⟨hP2, hD2⟩ := va_join hP hD isC isR hC hR hn hdis hk hF hP1 hD1
  exact kk u H1 locs1 hw hP2 hD2 hS1
theorem n_preS (hG : GF D g A s) (hI : GI s) (hA : ∀ q, s.heap.size ≤ q → A q) (hP : va_P D vwCl ws H) (hD : va_D A ws) (hS : va_S A s.heap H locs) (isC : List Nat) (hC : isC.map (fun i => ws[i]?) = wc.map some) (hnC : va_nd isC = true) : PreS s H (va_Pc As (iPre D g wc H.size)) As :=
  ⟨iPre.blind, fun U hU hW => ⟨rfl, k_pre hG hA hP hD hS isC hC hnC U hU hW, hI.go hW⟩⟩
theorem ty_eq {cl : List vw_C} {tys : List (ClassId × FieldType)} {U : State} {cA cB : ClassId} {ty : FieldType} (hK : va_K D cl tys U) {i j : Nat} (h1 : tys[i]? = some (cA, ty)) (h2 : tys[j]? = some (cB, ty)) : cA = cB := by
  have a := (hK.2 i _ h1).2
  have b := (hK.2 j _ h2).2
  dsimp only at a b
  unfold va_RA at a b
  cases ty with
  | object C =>
    dsimp only at a b
    obtain ⟨_, _, _, _, _, a⟩ := a
    obtain ⟨_, _, _, _, _, b⟩ := b
    rw [a] at b; exact Option.some.inj b
  | _ => dsimp only at a b; rw [a] at b; exact Option.some.inj b
theorem k_nI (hexec : p.tables.exec = Jvm.exec) (hb : c.code = cc) (harr : (Cond.arrayClass .int).before args s = true) (hG : GF D g A s) (hP : va_P D vwCl ws H) (hD : va_D A ws) (hS : va_S A s.heap H locs) (hA : ∀ q, s.heap.size ≤ q → A q) {n : Int32} (N' : Nat) (hn : ¬ n < 0) (hN : n.toNatClampNeg = N') (hby : N' * componentBytes .int ≤ 536870912) (hcells : cells + 1 ≤ R.cells) (hslots : slots + N' ≤ R.slots) (hdg : decode cc pc = .ok (.newarray .int, 2))
    (kk : ∀ (q : Nat) (H1 : Heap), va_P D vwCl (ws ++ [(q, .inl (g.1 1, N', .inl (fun _ => 0)))]) H1 → va_D A (ws ++ [(q, .inl (g.1 1, N', .inl (fun _ => 0)))]) → va_S A s.heap H1 locs → W p l e R s m args below meth c H1 locs (cells + 1) (slots + N') Q (F0 m (pc + 2) ls (.ref q :: rest))) : W p l e R s m args below meth c H locs cells slots Q (F0 m pc ls (.int n :: rest)) := by
  refine va_newa (atype := .int) (ty := .int) (a0 := (N', .inl (fun _ => 0))) hexec hb harr rfl hG.k hP hD hS hA (fun cA => rfl) hn hN hby hcells hslots hdg (fun q cA H1 hK hP hD hS => ?_)
  have ee : cA = g.1 1 := ty_eq hK (i := 8) (j := 1) rfl rfl
  subst ee
  exact kk q H1 hP hD hS
theorem k_nB (hexec : p.tables.exec = Jvm.exec) (hb : c.code = cc) (harr : (Cond.arrayClass .byte).before args s = true) (hG : GF D g A s) (hP : va_P D vwCl ws H) (hD : va_D A ws) (hS : va_S A s.heap H locs) (hA : ∀ q, s.heap.size ≤ q → A q) {n : Int32} (N' : Nat) (hn : ¬ n < 0) (hN : n.toNatClampNeg = N') (hby : N' * componentBytes .byte ≤ 536870912) (hcells : cells + 1 ≤ R.cells) (hslots : slots + N' ≤ R.slots) (hdg : decode cc pc = .ok (.newarray .byte, 2))
    (kk : ∀ (q : Nat) (H1 : Heap), va_P D vwCl (ws ++ [(q, .inl (g.1 0, N', .inl (fun _ => 0)))]) H1 → va_D A (ws ++ [(q, .inl (g.1 0, N', .inl (fun _ => 0)))]) → va_S A s.heap H1 locs → W p l e R s m args below meth c H1 locs (cells + 1) (slots + N') Q (F0 m (pc + 2) ls (.ref q :: rest))) : W p l e R s m args below meth c H locs cells slots Q (F0 m pc ls (.int n :: rest)) := by
  refine va_newa (atype := .byte) (ty := .byte) (a0 := (N', .inl (fun _ => 0))) hexec hb harr rfl hG.k hP hD hS hA (fun cA => rfl) hn hN hby hcells hslots hdg (fun q cA H1 hK hP hD hS => ?_)
  have ee : cA = g.1 0 := ty_eq hK (i := 8) (j := 0) rfl rfl
  subst ee
  exact kk q H1 hP hD hS
theorem k_nJ (hexec : p.tables.exec = Jvm.exec) (hb : c.code = cc) (harr : (Cond.arrayClass .long).before args s = true) (hG : GF D g A s) (hP : va_P D vwCl ws H) (hD : va_D A ws) (hS : va_S A s.heap H locs) (hA : ∀ q, s.heap.size ≤ q → A q) {n : Int32} (N' : Nat) (hn : ¬ n < 0) (hN : n.toNatClampNeg = N') (hby : N' * componentBytes .long ≤ 536870912) (hcells : cells + 1 ≤ R.cells) (hslots : slots + N' ≤ R.slots) (hdg : decode cc pc = .ok (.newarray .long, 2))
    (kk : ∀ (q : Nat) (H1 : Heap), va_P D vwCl (ws ++ [(q, .inl (g.1 2, N', .inr (.inl (fun _ => 0))))]) H1 → va_D A (ws ++ [(q, .inl (g.1 2, N', .inr (.inl (fun _ => 0))))]) → va_S A s.heap H1 locs → W p l e R s m args below meth c H1 locs (cells + 1) (slots + N') Q (F0 m (pc + 2) ls (.ref q :: rest))) : W p l e R s m args below meth c H locs cells slots Q (F0 m pc ls (.int n :: rest)) := by
  refine va_newa (atype := .long) (ty := .long) (a0 := (N', .inr (.inl (fun _ => 0)))) hexec hb harr rfl hG.k hP hD hS hA (fun cA => rfl) hn hN hby hcells hslots hdg (fun q cA H1 hK hP hD hS => ?_)
  have ee : cA = g.1 2 := ty_eq hK (i := 8) (j := 2) rfl rfl
  subst ee
  exact kk q H1 hP hD hS
theorem k_nZ (hexec : p.tables.exec = Jvm.exec) (hb : c.code = cc) (harr : (Cond.arrayClass .boolean).before args s = true) (hG : GF D g A s) (hP : va_P D vwCl ws H) (hD : va_D A ws) (hS : va_S A s.heap H locs) (hA : ∀ q, s.heap.size ≤ q → A q) {n : Int32} (N' : Nat) (hn : ¬ n < 0) (hN : n.toNatClampNeg = N') (hby : N' * componentBytes .boolean ≤ 536870912) (hcells : cells + 1 ≤ R.cells) (hslots : slots + N' ≤ R.slots) (hdg : decode cc pc = .ok (.newarray .boolean, 2))
    (kk : ∀ (q : Nat) (H1 : Heap), va_P D vwCl (ws ++ [(q, .inl (g.1 3, N', .inl (fun _ => 0)))]) H1 → va_D A (ws ++ [(q, .inl (g.1 3, N', .inl (fun _ => 0)))]) → va_S A s.heap H1 locs → W p l e R s m args below meth c H1 locs (cells + 1) (slots + N') Q (F0 m (pc + 2) ls (.ref q :: rest))) : W p l e R s m args below meth c H locs cells slots Q (F0 m pc ls (.int n :: rest)) := by
  refine va_newa (atype := .boolean) (ty := .boolean) (a0 := (N', .inl (fun _ => 0))) hexec hb harr rfl hG.k hP hD hS hA (fun cA => rfl) hn hN hby hcells hslots hdg (fun q cA H1 hK hP hD hS => ?_)
  have ee : cA = g.1 3 := ty_eq hK (i := 8) (j := 3) rfl rfl
  subst ee
  exact kk q H1 hP hD hS
theorem k_nQ {own C : String} {index : Nat} (hexec : p.tables.exec = Jvm.exec) (hb : c.code = cc) (hown : s.vm.findClass own = some m.cls) (hcl : (Cond.classLink own index C).before args s = true) (hov : va_AO C s) (hG : GF D g A s) (hP : va_P D vwCl ws H) (hD : va_D A ws) (hS : va_S A s.heap H locs) (hA : ∀ q, s.heap.size ≤ q → A q) {n : Int32} (N' j : Nat) (hj : (tysG g.1)[j]? = some (g.1 j, .object C)) (hn : ¬ n < 0) (hN : n.toNatClampNeg = N') (hby : N' * 4 ≤ 536870912) (hcells : cells + 1 ≤ R.cells) (hslots : slots + N' ≤ R.slots) (hdg : decode cc pc = .ok (.anewarray index, 3))
    (kk : ∀ (q : Nat) (H1 : Heap), va_P D vwCl (ws ++ [(q, .inl (g.1 j, N', .inr (.inr (.inr (.inr (fun _ => none))))))]) H1 → va_D A (ws ++ [(q, .inl (g.1 j, N', .inr (.inr (.inr (.inr (fun _ => none))))))]) → va_S A s.heap H1 locs → W p l e R s m args below meth c H1 locs (cells + 1) (slots + N') Q (F0 m (pc + 3) ls (.ref q :: rest))) : W p l e R s m args below meth c H locs cells slots Q (F0 m pc ls (.int n :: rest)) := by
  refine va_newq hexec hb hown hcl hov hG.k hP hD hS hA hn hN hby hcells hslots hdg (fun q cA H1 hK hP hD hS => ?_)
  have ee : cA = g.1 j := ty_eq hK (i := 8) (j := j) rfl (by rw [List.getElem?_append_left (by have := List.getElem?_eq_some_iff.mp hj; exact this.1)]; exact hj)
  subst ee
  exact kk q H1 hP hD hS
/-! contents by what they are below the length -/
theorem arrV_cg {cA : ClassId} {N : Nat} {f f' : Nat → Value} (h : ∀ j, j < N → f j = f' j) : arrV cA N f = arrV cA N f' := by
  unfold arrV
  congr 1
  apply Array.ext
  · simp
  · intro i h1 h2
    simp at h1
    simp [h i h1]
theorem vaP_to {ws' : va_W} (hP : va_P D vwCl ws H) (h : ∀ (k : Nat) (p' : Nat × va_E), ws'[k]? = some p' → ∃ q, ws[k]? = some q ∧ (va_at D vwCl q H → va_at D vwCl p' H)) : va_P D vwCl ws' H := fun k p' hp => by
  obtain ⟨q, h1, h2⟩ := h k p' hp
  exact h2 (hP k q h1)
theorem vaD_to {ws' : va_W} (hD : va_D A ws) (h : ws'.map Prod.fst = ws.map Prod.fst) : va_D A ws' := by
  have key : ∀ (k : Nat) (p' : Nat × va_E), ws'[k]? = some p' → ∃ q, ws[k]? = some q ∧ q.1 = p'.1 := fun k p' hp => by
    have e : (ws'.map Prod.fst)[k]? = some p'.1 := by rw [List.getElem?_map, hp]; rfl
    rw [h, List.getElem?_map] at e
    cases hq : ws[k]? with
    | none => rw [hq] at e; cases e
    | some q => rw [hq] at e; exact ⟨q, rfl, Option.some.inj e⟩
  refine ⟨fun i j p q h1 h2 e => ?_, fun k q hk => ?_⟩
  · obtain ⟨p1, a1, a2⟩ := key i p h1
    obtain ⟨q1, b1, b2⟩ := key j q h2
    exact hD.1 i j p1 q1 a1 b1 (by rw [a2, b2, e])
  · obtain ⟨q1, b1, b2⟩ := key k q hk
    rw [← b2]; exact hD.2 k q1 b1
theorem vaP_set {x : Nat × va_E} (i : Nat) (hi : i < ws.length) (hP : va_P D vwCl ws H) (h : ∀ q, ws[i]? = some q → va_at D vwCl q H → va_at D vwCl x H) : va_P D vwCl (ws.set i x) H := fun k p' hp => by
  rw [List.getElem?_set] at hp
  by_cases e : i = k
  · subst e
    rw [if_pos rfl, if_pos hi] at hp
    cases hp
    cases hq : ws[i]? with
    | none => rw [List.getElem?_eq_none_iff] at hq; omega
    | some q => exact h q hq (hP i q hq)
  · rw [if_neg e] at hp; exact hP k p' hp
end NEW
theorem va_rows {N : Nat} {r : Nat → Nat} {f : Nat → va_E} {v : va_E} : va_pl ([] ++ (List.range N).map r) (vr_up f ((List.range N).map r) v) = (List.range N).map (fun k => (r k, v)) := by
  unfold va_pl
  rw [List.nil_append, List.map_map]
  apply List.map_congr_left
  intro k hk
  show (r k, _) = (r k, v)
  rw [vr_up_in (List.mem_map.mpr ⟨k, hk, rfl⟩)]
theorem vq_cg {cA : ClassId} {N : Nat} {f f' : Nat → Option Nat} (h : ∀ j, j < N → f j = f' j) : vp_cell cA (N, .inr (.inr (.inr (.inr f)))) = vp_cell cA (N, .inr (.inr (.inr (.inr f')))) := by
  rw [vp_cell_q, vp_cell_q]
  exact arrV_cg (fun j hj => by rw [h j hj])
