/-! SHEETS -/
def RS (k : Nat) (la sz : Int32) (ce : Nat → Int32) (ml mn mc : Nat → Int32) : Prop := (la = -1 ∧ ml k = -4) ∨ ∃ L n, L < 3 ∧ n ≤ 40 ∧ la = nI L ∧ ml k = nI L ∧ sz = nI n ∧ mn k = nI n ∧ ∀ i, i < n → ce i = mc (40 * k + i)
theorem RS.mv {k : Nat} {la sz : Int32} {ce ml mn mc ml' mn' mc' : Nat → Int32} (h : RS k la sz ce ml mn mc) (h1 : ml' k = ml k) (h2 : mn' k = mn k) (h3 : ∀ i, i < 40 → mc' (40 * k + i) = mc (40 * k + i)) : RS k la sz ce ml' mn' mc' := by
  rcases h with h | ⟨L, n, a, b, c, e, f, g, i⟩
  · exact Or.inl ⟨h.1, h1.trans h.2⟩
  · exact Or.inr ⟨L, n, a, b, c, h1.trans e, f, h2.trans g, fun j hj => by rw [h3 j (by omega)]; exact i j hj⟩
def RSS (a0 z0 a1 z1 a2 z2 a3 z3 : Int32) (c3 c2 c1 c0 ml mn mc : Nat → Int32) : Prop := RS 0 a0 z0 c0 ml mn mc ∧ RS 1 a1 z1 c1 ml mn mc ∧ RS 2 a2 z2 c2 ml mn mc ∧ RS 3 a3 z3 c3 ml mn mc
theorem in3 {x : Int32} (h : vp_in x 3) : ∃ L, L < 3 ∧ x = nI L := vin_ex (by decide) h
theorem sp_fill {n : Nat} (hn : n < 2 ^ 31) {p0 : Nat → Int32} {x : Int32} {post : (Nat → Int32) → Prop} (h : ∀ p', (∀ j, j < n → p' j = x) → (∀ j, n ≤ j → p' j = p0 j) → post p') : wp_J7_fill_53178 n p0 x post := by
  unfold wp_J7_fill_53178
  refine fix_iv (fun i v => v.1 = nI i ∧ (∀ j, j < i → v.2 j = x) ∧ ∀ j, i ≤ j → v.2 j = p0 j) n (fun K i v hi hI hK => ?_) 0 (by omega) ⟨rfl, fun j hj => absurd hj (by omega), fun _ _ => rfl⟩
  obtain ⟨x2, s1⟩ := v
  obtain ⟨h1, h2, h3⟩ := hI
  dsimp only at h1 h2 h3
  subst h1
  unfold F_J7_fill_53178_5
  dsimp only
  rw [show Int32.ofNat n = nI n from rfl]
  simp (disch := omega) only [i1, nI_add, nI_leI, vin_n, nI_clamp]
  refine ⟨fun c => h s1 (fun j hj => h2 j (by omega)) (fun j hj => h3 j (by omega)), fun c => ⟨by omega, hK (by omega) _ ⟨rfl, fun j hj => ?_, fun j hj => ?_⟩⟩⟩
  · dsimp only
    rcases Nat.lt_or_ge j i with z | z
    · rw [pk_un (by omega)]; exact h2 j z
    · have : j = i := by omega
      subst this; rw [pk_us]
  · dsimp only; rw [pk_un (by omega)]; exact h3 j (by omega)
theorem sp_X8_renew {la sz : Int32} {ce : Nat → Int32} {n : Nat} {x : Int32} {post : Int32 → Int32 → (Nat → Int32) → Prop} (hn : n ≤ 40) (h : ∀ ce', (∀ j, j < 40 → ce' j = 0) → post x (nI n) ce') : wp_X8_renew la sz ce x (nI n) post := by
  unfold wp_X8_renew
  refine sp_fill (by decide) (fun p' h1 _ => ?_)
  have e : (if (0 : Int32) < (if (nI n : Int32) < 40 then nI n else 40) then (if (nI n : Int32) < 40 then nI n else 40) else 0) = nI n := by
    have e1 : (if (nI n : Int32) < 40 then nI n else 40) = nI n := by
      split
      · rfl
      · rename_i q; rw [i40, nI_ltI (by omega) (by omega)] at q; rw [show n = 40 by omega]; rfl
    rw [e1]; exact max0 (by omega)
  rw [e]; exact h p' h1
section
variable {a0 z0 a1 z1 a2 z2 a3 z3 : Int32} {c3 c2 c1 c0 ml mn mc : Nat → Int32}
theorem sp_X12_sheet {k L n : Nat} (hk : k < 4) (hL : L < 3) (hn : n ≤ 40) {post : Int32 → (Nat → Int32) → (Nat → Int32) → (Nat → Int32) → Prop} (h : ∀ mc', (∀ j, j < 40 → mc' (40 * k + j) = 0) → (∀ j, (j < 40 * k ∨ 40 * k + 40 ≤ j) → mc' j = mc j) → post 1 (upd ml k (nI L)) (upd mn k (nI n)) mc') : wp_X12_sheet ml mn mc (nI k) (nI L) (nI n) post := by
  unfold wp_X12_sheet
  refine sp_in0 (b := 3) (n := 4) (by decide) le_3 (fun q => absurd ((vin_n (by omega)).mpr hk) q) (fun _ => ⟨fun q => absurd q (by decide), fun _ => sp_in0 (b := 2) (n := 3) (by decide) le_2 (fun q => absurd ((vin_n (by omega)).mpr hL) q) (fun _ => ⟨fun q => absurd q (by decide), fun _ => ⟨fun _ => ⟨fun _ => ⟨(vin_n (by omega)).mpr hk, (vin_n (by omega)).mpr hk, ?_⟩, fun q => absurd (nI_nn (by omega)) q⟩, fun q => absurd ((nI_leI (b := 40) (by omega) (by decide)).mpr hn) q⟩⟩)⟩)
  rw [nI_clamp (by omega)]
  refine fix_iv (fun i v => v.1 = nI i ∧ (∀ j, j < i → v.2 (40 * k + j) = 0) ∧ ∀ j, (j < 40 * k ∨ 40 * k + i ≤ j) → v.2 j = mc j) 40 (fun K i v hi hI hK => ?_) 0 (by omega) ⟨rfl, fun j hj => absurd hj (by omega), fun _ _ => rfl⟩
  obtain ⟨x2, s1⟩ := v
  obtain ⟨h1, h2, h3⟩ := hI
  dsimp only at h1 h2 h3
  subst h1
  unfold F_X12_sheet_56
  dsimp only
  simp (disch := omega) only [i40, pk_mul, nI_1, nI_add, nI_leI, vin_n, nI_clamp]
  refine ⟨fun c => ?_, fun c => ⟨by omega, hK (by omega) _ ⟨rfl, fun j hj => ?_, fun j hj => ?_⟩⟩⟩
  · exact h s1 (fun j hj => h2 j (by omega)) (fun j hj => h3 j (by omega))
  · dsimp only
    rcases Nat.lt_or_ge j i with z | z
    · rw [pk_un (by omega)]; exact h2 j z
    · have : j = i := by omega
      subst this; rw [pk_us]
  · dsimp only; rw [pk_un (by omega)]; exact h3 j (by omega)
theorem sim_sheet (h : RSS a0 z0 a1 z1 a2 z2 a3 z3 c3 c2 c1 c0 ml mn mc) (x y z : Int32) : wp_X11_sheet a0 z0 a1 z1 a2 z2 a3 z3 c3 c2 c1 c0 x y z (fun r a0 z0 a1 z1 a2 z2 a3 z3 c3 c2 c1 c0 => wp_X12_sheet ml mn mc x y z (fun r' ml' mn' mc' => r = r' ∧ RSS a0 z0 a1 z1 a2 z2 a3 z3 c3 c2 c1 c0 ml' mn' mc')) := by
  unfold wp_X11_sheet
  refine sp_X11_isSheet (fun c => ⟨fun _ => ?_, fun q => absurd rfl q⟩) (fun c => ⟨fun q => absurd q (by decide), fun _ => sp_X11_isLane (fun c2 => ⟨fun _ => ?_, fun q => absurd rfl q⟩) (fun c2 => ⟨fun q => absurd q (by decide), fun _ => ⟨fun c3' => ⟨fun c4 => ⟨c, ?_⟩, fun c4 => ?_⟩, fun c3' => ?_⟩⟩)⟩)
  · unfold wp_X12_sheet
    exact sp_in0 (b := 3) (n := 4) (by decide) le_3 (fun _ => ⟨fun _ => ⟨rfl, h⟩, fun q => absurd rfl q⟩) (fun q => absurd q c)
  · unfold wp_X12_sheet
    exact sp_in0 (b := 3) (n := 4) (by decide) le_3 (fun q => absurd c q) (fun _ => ⟨fun q => absurd q (by decide), fun _ => sp_in0 (b := 2) (n := 3) (by decide) le_2 (fun _ => ⟨fun _ => ⟨rfl, h⟩, fun q => absurd rfl q⟩) (fun q => absurd q c2)⟩)
  · obtain ⟨L, hL, rfl⟩ := in3 c2
    obtain ⟨n, hn', rfl⟩ := nI_of (x := z) (by rw [T_lt]; rw [T_le] at c4; omega)
    have hn : n ≤ 40 := (nI_leI (b := 40) (by omega) (by decide)).mp c3'
    refine ⟨fun x0 => ?_, fun x1 => ?_, fun x2 => ?_, fun x3 => ?_⟩
    · subst x0
      refine sp_X8_renew hn (fun ce' hc' => ?_)
      refine sp_X12_sheet (k := 0) (by omega) hL hn (fun mc' m1 m2 => ⟨rfl, Or.inr ⟨L, n, hL, hn, rfl, pk_us, rfl, pk_us, fun i hi => by rw [hc' i (by omega), m1 i (by omega)]⟩, (h.2.1).mv (pk_un (by omega)) (pk_un (by omega)) (fun i hi => m2 _ (by omega)), (h.2.2.1).mv (pk_un (by omega)) (pk_un (by omega)) (fun i hi => m2 _ (by omega)), (h.2.2.2).mv (pk_un (by omega)) (pk_un (by omega)) (fun i hi => m2 _ (by omega))⟩)
    · subst x1
      refine sp_X8_renew hn (fun ce' hc' => ?_)
      refine sp_X12_sheet (k := 1) (by omega) hL hn (fun mc' m1 m2 => ⟨rfl, (h.1).mv (pk_un (by omega)) (pk_un (by omega)) (fun i hi => m2 _ (by omega)), Or.inr ⟨L, n, hL, hn, rfl, pk_us, rfl, pk_us, fun i hi => by rw [hc' i (by omega), m1 i (by omega)]⟩, (h.2.2.1).mv (pk_un (by omega)) (pk_un (by omega)) (fun i hi => m2 _ (by omega)), (h.2.2.2).mv (pk_un (by omega)) (pk_un (by omega)) (fun i hi => m2 _ (by omega))⟩)
    · subst x2
      refine sp_X8_renew hn (fun ce' hc' => ?_)
      refine sp_X12_sheet (k := 2) (by omega) hL hn (fun mc' m1 m2 => ⟨rfl, (h.1).mv (pk_un (by omega)) (pk_un (by omega)) (fun i hi => m2 _ (by omega)), (h.2.1).mv (pk_un (by omega)) (pk_un (by omega)) (fun i hi => m2 _ (by omega)), Or.inr ⟨L, n, hL, hn, rfl, pk_us, rfl, pk_us, fun i hi => by rw [hc' i (by omega), m1 i (by omega)]⟩, (h.2.2.2).mv (pk_un (by omega)) (pk_un (by omega)) (fun i hi => m2 _ (by omega))⟩)
    · subst x3
      refine sp_X8_renew hn (fun ce' hc' => ?_)
      refine sp_X12_sheet (k := 3) (by omega) hL hn (fun mc' m1 m2 => ⟨rfl, (h.1).mv (pk_un (by omega)) (pk_un (by omega)) (fun i hi => m2 _ (by omega)), (h.2.1).mv (pk_un (by omega)) (pk_un (by omega)) (fun i hi => m2 _ (by omega)), (h.2.2.1).mv (pk_un (by omega)) (pk_un (by omega)) (fun i hi => m2 _ (by omega)), Or.inr ⟨L, n, hL, hn, rfl, pk_us, rfl, pk_us, fun i hi => by rw [hc' i (by omega), m1 i (by omega)]⟩⟩)
  · unfold wp_X12_sheet
    exact sp_in0 (b := 3) (n := 4) (by decide) le_3 (fun q => absurd c q) (fun _ => ⟨fun q => absurd q (by decide), fun _ => sp_in0 (b := 2) (n := 3) (by decide) le_2 (fun q => absurd c2 q) (fun _ => ⟨fun q => absurd q (by decide), fun _ => ⟨fun _ => ⟨fun q => absurd q c4, fun _ => ⟨rfl, h⟩⟩, fun q => absurd c3' q⟩⟩)⟩)
  · unfold wp_X12_sheet
    exact sp_in0 (b := 3) (n := 4) (by decide) le_3 (fun q => absurd c q) (fun _ => ⟨fun q => absurd q (by decide), fun _ => sp_in0 (b := 2) (n := 3) (by decide) le_2 (fun q => absurd c2 q) (fun _ => ⟨fun q => absurd q (by decide), fun _ => ⟨fun q => absurd q c3', fun _ => ⟨rfl, h⟩⟩⟩)⟩)
theorem shl8 (x : Int32) : (x <<< ((24 : Int32) &&& 31)) >>> ((24 : Int32) &&& 31) = x.toInt8.toInt32 := by
  apply Int32.toBitVec_inj.1
  apply BitVec.eq_of_getLsbD_eq
  intro i hi
  simp [BitVec.getLsbD_sshiftRight, BitVec.getLsbD_signExtend, Int32.toBitVec_shiftLeft, Int32.toBitVec_shiftRight]
  grind
theorem shl16 (x : Int32) : (x <<< ((16 : Int32) &&& 31)) >>> ((16 : Int32) &&& 31) = x.toInt16.toInt32 := by
  apply Int32.toBitVec_inj.1
  apply BitVec.eq_of_getLsbD_eq
  intro i hi
  simp [BitVec.getLsbD_sshiftRight, BitVec.getLsbD_signExtend, Int32.toBitVec_shiftLeft, Int32.toBitVec_shiftRight]
  grind
def cut (L : Nat) (v : Int32) : Int32 := if L = 0 then v.toInt8.toInt32 else if L = 1 then v.toInt16.toInt32 else v
theorem sp_faultAt {L n : Nat} {x : Int32} {post : Int32 → Prop} (hL : L < 3) (hn : n ≤ 40) (h0 : ∀ i, i < n → x = nI i → post 0) (h2 : ¬ vp_in x n → post 2) : wp_X8_faultAt (nI L) (nI n) x post := by
  have e : vp_in x n ↔ 0 ≤ x ∧ x < nI n := vin_I (by omega)
  unfold wp_X8_faultAt
  refine ⟨fun _ => ⟨fun c => h2 (fun z => ?_), fun c => ⟨fun c2 => h2 (fun z => ?_), fun c2 => ?_⟩⟩, fun q => absurd (nI_nn (by omega)) q⟩
  · have := (e.mp z).1; rw [T_le] at this; rw [T_lt] at c; omega
  · have := (e.mp z).2; rw [T_lt] at this; rw [T_le] at c2; omega
  · have hin : vp_in x n := e.mpr (by rw [T_le, T_lt]; rw [T_lt] at c; rw [T_le] at c2; omega)
    obtain ⟨i, hi, ex⟩ := vin_ex (by omega) hin
    exact h0 i hi ex
theorem sp_faultAt1 {sz x : Int32} {post : Int32 → Prop} (h : post 1) : wp_X8_faultAt (-1) sz x post := by
  unfold wp_X8_faultAt
  exact ⟨fun q => absurd q (by decide), fun _ => h⟩
theorem sp_X8_put {L n i : Nat} {ce : Nat → Int32} {v : Int32} {post : (Nat → Int32) → Prop} (hL : L < 3) (hn : n ≤ 40) (hi : i < n) (h : post (upd ce i (cut L v))) : wp_X8_put (nI L) (nI n) ce (nI i) v post := by
  unfold wp_X8_put
  refine sp_faultAt hL hn (fun j hj _ => ⟨fun _ => ?_, fun q => absurd rfl q⟩) (fun q => absurd ((vin_n (by omega)).mpr hi) q)
  rw [nI_clamp (by omega)]
  have hin : vp_in (nI i) 40 := (vin_n (by omega)).mpr (by omega)
  unfold cut at h
  rcases (show L = 0 ∨ L = 1 ∨ L = 2 by omega) with rfl | rfl | rfl
  · exact ⟨fun _ => ⟨hin, h⟩, fun q => absurd q (by decide), fun q => absurd rfl q⟩
  · exact ⟨fun q => absurd q (by decide), fun _ => ⟨hin, h⟩, fun _ q => absurd rfl q⟩
  · exact ⟨fun q => absurd q (by decide), fun q => absurd q (by decide), fun _ _ => ⟨hin, h⟩⟩
theorem sp_X12_lay {k L n : Nat} {x v : Int32} (hk : k < 4) (hL : L < 3) (hn : n ≤ 40) (h1 : ml k = nI L) (h2 : mn k = nI n) {post : Int32 → (Nat → Int32) → Prop} (h : ∀ i, i < n → x = nI i → post 1 (upd mc (40 * k + i) (cut L v))) (hb : ¬ vp_in x n → post (-12) mc) : wp_X12_lay ml mn mc (nI k) x v post := by
  have hin : vp_in (nI k) 4 := (vin_n (by omega)).mpr hk
  unfold wp_X12_lay
  rw [nI_clamp (by omega), h1, h2]
  refine sp_in0 (b := 3) (n := 4) (by decide) le_3 (fun q => absurd hin q) (fun _ => ⟨fun _ => ⟨hin, fun _ => ⟨hin, ?_⟩, fun q => absurd q (nI_ne_ng (b := 4) (by omega) (by decide) (by decide))⟩, fun q => absurd q (by decide)⟩)
  refine sp_in0 (n := n) (by omega) (le_nI1 (by omega)) (fun c => ⟨fun q => absurd rfl q, fun _ => hb c⟩) (fun c => ⟨fun _ => ⟨hin, ?_⟩, fun q => absurd q (by decide)⟩)
  obtain ⟨i, hi, rfl⟩ := vin_ex (by omega) c
  have hz := h i hi rfl
  rw [i40, pk_mul, nI_add, nI_clamp (by omega), shl8, shl16]
  have hin2 : vp_in (nI (40 * k + i)) 160 := (vin_n (by omega)).mpr (by omega)
  unfold cut at hz
  rcases (show L = 0 ∨ L = 1 ∨ L = 2 by omega) with rfl | rfl | rfl
  · exact ⟨fun q => absurd rfl q, fun _ => ⟨hin2, hz⟩⟩
  · exact ⟨fun _ => ⟨hin, fun q => absurd rfl q, fun _ => ⟨hin2, hz⟩⟩, fun q => absurd q (by decide)⟩
  · exact ⟨fun _ => ⟨hin, fun _ => ⟨hin2, hz⟩, fun q => absurd q (by decide)⟩, fun q => absurd q (by decide)⟩
theorem sp_X12_lay1 {k : Nat} {x v : Int32} (hk : k < 4) (h1 : ml k = -4) {post : Int32 → (Nat → Int32) → Prop} (h : post (-11) mc) : wp_X12_lay ml mn mc (nI k) x v post := by
  have hin : vp_in (nI k) 4 := (vin_n (by omega)).mpr hk
  unfold wp_X12_lay
  rw [nI_clamp (by omega), h1]
  exact sp_in0 (b := 3) (n := 4) (by decide) le_3 (fun q => absurd hin q) (fun _ => ⟨fun _ => ⟨hin, fun q => absurd rfl q, fun _ => h⟩, fun q => absurd q (by decide)⟩)
theorem sim_lay (h : RSS a0 z0 a1 z1 a2 z2 a3 z3 c3 c2 c1 c0 ml mn mc) (x y z : Int32) : wp_X11_lay a0 z0 a1 z1 a2 z2 a3 z3 c3 c2 c1 c0 x y z (fun r c3' c2' c1' c0' => wp_X12_lay ml mn mc x y z (fun r' mc' => r = r' ∧ RSS a0 z0 a1 z1 a2 z2 a3 z3 c3' c2' c1' c0' ml mn mc')) := by
  unfold wp_X11_lay
  refine sp_X11_isSheet (fun c => ⟨fun q => absurd rfl q, fun _ => ?_⟩) (fun c => ⟨fun _ => ⟨c, fun x0 => ?_, fun x1 => ?_, fun x2 => ?_, fun x3 => ?_⟩, fun q => absurd q (by decide)⟩)
  · unfold wp_X12_lay
    exact sp_in0 (b := 3) (n := 4) (by decide) le_3 (fun _ => ⟨fun q => absurd rfl q, fun _ => ⟨rfl, h⟩⟩) (fun q => absurd q c)
  · subst x0
    rcases h.1 with ⟨e1, e2⟩ | ⟨L, n, hL, hn, e1, e2, e3, e4, e5⟩
    · subst e1
      exact sp_faultAt1 ⟨fun q => absurd q (by decide), fun _ => sp_X12_lay1 (k := 0) (by omega) e2 ⟨rfl, h⟩⟩
    · subst e1; subst e3
      refine sp_faultAt hL hn (fun i hi ey => ⟨fun _ => ?_, fun q => absurd rfl q⟩) (fun q => ⟨fun q => absurd q (by decide), fun _ => sp_X12_lay (k := 0) (by omega) hL hn e2 e4 (fun i hi z => absurd (by rw [z]; exact (vin_n (by omega)).mpr hi) q) (fun _ => ⟨rfl, h⟩)⟩)
      subst ey
      refine sp_X8_put hL hn hi (sp_X12_lay (k := 0) (by omega) hL hn e2 e4 (fun i' hi' z => ?_) (fun q => absurd ((vin_n (by omega)).mpr hi) q))
      have : i' = i := ((nI_eq (by omega) (by omega)).mp z).symm
      subst this
      refine ⟨rfl, Or.inr ⟨L, n, hL, hn, rfl, e2, rfl, e4, fun j hj => by
        by_cases q : j = i'
        · rw [q, pk_us, pk_us]
        · rw [pk_un q, pk_un (by omega)]; exact e5 j hj⟩, (h.2.1).mv rfl rfl (fun i9 hi9 => pk_un (by omega)), (h.2.2.1).mv rfl rfl (fun i9 hi9 => pk_un (by omega)), (h.2.2.2).mv rfl rfl (fun i9 hi9 => pk_un (by omega))⟩
  · subst x1
    rcases h.2.1 with ⟨e1, e2⟩ | ⟨L, n, hL, hn, e1, e2, e3, e4, e5⟩
    · subst e1
      exact sp_faultAt1 ⟨fun q => absurd q (by decide), fun _ => sp_X12_lay1 (k := 1) (by omega) e2 ⟨rfl, h⟩⟩
    · subst e1; subst e3
      refine sp_faultAt hL hn (fun i hi ey => ⟨fun _ => ?_, fun q => absurd rfl q⟩) (fun q => ⟨fun q => absurd q (by decide), fun _ => sp_X12_lay (k := 1) (by omega) hL hn e2 e4 (fun i hi z => absurd (by rw [z]; exact (vin_n (by omega)).mpr hi) q) (fun _ => ⟨rfl, h⟩)⟩)
      subst ey
      refine sp_X8_put hL hn hi (sp_X12_lay (k := 1) (by omega) hL hn e2 e4 (fun i' hi' z => ?_) (fun q => absurd ((vin_n (by omega)).mpr hi) q))
      have : i' = i := ((nI_eq (by omega) (by omega)).mp z).symm
      subst this
      refine ⟨rfl, (h.1).mv rfl rfl (fun i9 hi9 => pk_un (by omega)), Or.inr ⟨L, n, hL, hn, rfl, e2, rfl, e4, fun j hj => by
        by_cases q : j = i'
        · rw [q, pk_us, pk_us]
        · rw [pk_un q, pk_un (by omega)]; exact e5 j hj⟩, (h.2.2.1).mv rfl rfl (fun i9 hi9 => pk_un (by omega)), (h.2.2.2).mv rfl rfl (fun i9 hi9 => pk_un (by omega))⟩
  · subst x2
    rcases h.2.2.1 with ⟨e1, e2⟩ | ⟨L, n, hL, hn, e1, e2, e3, e4, e5⟩
    · subst e1
      exact sp_faultAt1 ⟨fun q => absurd q (by decide), fun _ => sp_X12_lay1 (k := 2) (by omega) e2 ⟨rfl, h⟩⟩
    · subst e1; subst e3
      refine sp_faultAt hL hn (fun i hi ey => ⟨fun _ => ?_, fun q => absurd rfl q⟩) (fun q => ⟨fun q => absurd q (by decide), fun _ => sp_X12_lay (k := 2) (by omega) hL hn e2 e4 (fun i hi z => absurd (by rw [z]; exact (vin_n (by omega)).mpr hi) q) (fun _ => ⟨rfl, h⟩)⟩)
      subst ey
      refine sp_X8_put hL hn hi (sp_X12_lay (k := 2) (by omega) hL hn e2 e4 (fun i' hi' z => ?_) (fun q => absurd ((vin_n (by omega)).mpr hi) q))
      have : i' = i := ((nI_eq (by omega) (by omega)).mp z).symm
      subst this
      refine ⟨rfl, (h.1).mv rfl rfl (fun i9 hi9 => pk_un (by omega)), (h.2.1).mv rfl rfl (fun i9 hi9 => pk_un (by omega)), Or.inr ⟨L, n, hL, hn, rfl, e2, rfl, e4, fun j hj => by
        by_cases q : j = i'
        · rw [q, pk_us, pk_us]
        · rw [pk_un q, pk_un (by omega)]; exact e5 j hj⟩, (h.2.2.2).mv rfl rfl (fun i9 hi9 => pk_un (by omega))⟩
  · subst x3
    rcases h.2.2.2 with ⟨e1, e2⟩ | ⟨L, n, hL, hn, e1, e2, e3, e4, e5⟩
    · subst e1
      exact sp_faultAt1 ⟨fun q => absurd q (by decide), fun _ => sp_X12_lay1 (k := 3) (by omega) e2 ⟨rfl, h⟩⟩
    · subst e1; subst e3
      refine sp_faultAt hL hn (fun i hi ey => ⟨fun _ => ?_, fun q => absurd rfl q⟩) (fun q => ⟨fun q => absurd q (by decide), fun _ => sp_X12_lay (k := 3) (by omega) hL hn e2 e4 (fun i hi z => absurd (by rw [z]; exact (vin_n (by omega)).mpr hi) q) (fun _ => ⟨rfl, h⟩)⟩)
      subst ey
      refine sp_X8_put hL hn hi (sp_X12_lay (k := 3) (by omega) hL hn e2 e4 (fun i' hi' z => ?_) (fun q => absurd ((vin_n (by omega)).mpr hi) q))
      have : i' = i := ((nI_eq (by omega) (by omega)).mp z).symm
      subst this
      refine ⟨rfl, (h.1).mv rfl rfl (fun i9 hi9 => pk_un (by omega)), (h.2.1).mv rfl rfl (fun i9 hi9 => pk_un (by omega)), (h.2.2.1).mv rfl rfl (fun i9 hi9 => pk_un (by omega)), Or.inr ⟨L, n, hL, hn, rfl, e2, rfl, e4, fun j hj => by
        by_cases q : j = i'
        · rw [q, pk_us, pk_us]
        · rw [pk_un q, pk_un (by omega)]; exact e5 j hj⟩⟩
end
