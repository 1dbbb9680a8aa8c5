/-! read -/
def isC (v : Int32) : Bool := decide (0 ≤ v ∧ v < 7)
theorem isC_in {v : Int32} : isC v = true ↔ vp_in v 7 := by
  unfold isC; rw [decide_eq_true_iff]; exact (vin_I (n := 7) (by decide)).symm
def rdo (ft : Nat → Nat) (cv : Nat → Int32) (hn i : Nat) : Bool := ft i == 0 && (isC (cv i) && decide (hn + i < 24))
def rdm (ft : Nat → Nat) (cv : Nat → Int32) (hn n : Nat) : Nat := fnd (fun i => !rdo ft cv hn i) n
theorem rdm_le (ft : Nat → Nat) (cv : Nat → Int32) (hn n : Nat) : rdm ft cv hn n ≤ n := fnd_le _ _
theorem rdm_ok {ft : Nat → Nat} {cv : Nat → Int32} {hn n i : Nat} (h : i < rdm ft cv hn n) : ft i = 0 ∧ vp_in (cv i) 7 ∧ hn + i < 24 := by
  have := fnd_no (fun i => !rdo ft cv hn i) n i h
  simp only [rdo, Bool.not_eq_false', Bool.and_eq_true, beq_iff_eq, decide_eq_true_eq] at this
  exact ⟨this.1, isC_in.mp this.2.1, this.2.2⟩
theorem rdm_end {ft : Nat → Nat} {cv : Nat → Int32} {hn n : Nat} (h : rdm ft cv hn n < n) : ft (rdm ft cv hn n) ≠ 0 ∨ ¬ vp_in (cv (rdm ft cv hn n)) 7 ∨ 24 ≤ hn + rdm ft cv hn n := by
  have := fnd_yes (fun i => !rdo ft cv hn i) n h
  unfold rdm at *
  generalize fnd (fun i => !rdo ft cv hn i) n = m at *
  by_cases a : ft m = 0
  · by_cases b : vp_in (cv m) 7
    · right; right
      rw [← isC_in] at b
      simp [rdo, a, b] at this
      omega
    · exact Or.inr (Or.inl b)
  · exact Or.inl a
/-- what a read comes to: answer, FAULT, how many came -/
def rdR (ft : Nat → Nat) (cv : Nat → Int32) (hn n : Nat) (P : Int32 → Option Nat → Nat → Prop) : Prop :=
  (rdm ft cv hn n = n → P (nI n) (some 0) n) ∧ (rdm ft cv hn n < n → (ft (rdm ft cv hn n) ≠ 0 → P (nI (rdm ft cv hn n)) (some (ft (rdm ft cv hn n))) (rdm ft cv hn n)) ∧ (ft (rdm ft cv hn n) = 0 → (¬ vp_in (cv (rdm ft cv hn n)) 7 → P (-20 - nI (rdm ft cv hn n)) none 0) ∧ (vp_in (cv (rdm ft cv hn n)) 7 → P (-3) none 0)))
def tornV (t0 : Int32) (o : Option Nat) : Int32 := match o with
  | some k => nI k
  | none => t0
theorem sp_readX {la sz y f torn : Int32} {ce hc : Nat → Int32} {hn n : Nat} {ft : Nat → Nat} {cv : Nat → Int32} (hn24 : hn ≤ 24) (n24 : n ≤ 24) (hf4 : ∀ i, ft i < 4)
    (hF : ∀ i, i < 24 → ∀ P : Int32 → Prop, P (nI (ft i)) → wp_X8_faultOf la sz y (f + nI i) P) (hC : ∀ i, i < 24 → ft i = 0 → ∀ P : Int32 → Prop, P (cv i) → wp_X8_cellAt la sz ce (f + nI i) P)
    {post : Int32 → Int32 → Int32 → (Nat → Int32) → Prop} (h : rdR ft cv hn n (fun r o m => ∀ hc', (∀ j, j < hn → hc' j = hc j) → (∀ j, j < m → hc' (hn + j) = cv j) → post r (tornV torn o) (nI (hn + m)) hc')) : ∃ k, fixN (F_X11_read_45 la sz ce y f (nI n) torn (nI hn) post) k (0, 0, 0, hc) := by
  have hl := rdm_le ft cv hn n
  refine fix_iv (fun i v => v.1 = 0 ∧ v.2.1 = nI i ∧ v.2.2.1 = nI i ∧ (∀ j, j < hn → v.2.2.2 j = hc j) ∧ ∀ j, j < i → v.2.2.2 (hn + j) = cv j) (rdm ft cv hn n) (fun K i v hi hI hK => ?_) 0 (by omega) ⟨rfl, rfl, rfl, fun _ _ => rfl, fun j hj => absurd hj (by omega)⟩
  obtain ⟨v1, v2, v3, v4⟩ := v
  obtain ⟨e1, e2, e3, e4, e5⟩ := hI
  dsimp only at e1 e2 e3 e4 e5
  subst e1; subst e2; subst e3
  unfold F_X11_read_45 B_X11_read_144
  dsimp only
  rw [nI_leI (by omega) (by omega)]
  refine ⟨fun c => ?_, fun c => hF i (by omega) _ ?_⟩
  · have em : rdm ft cv hn n = n := by omega
    have ei : i = n := by omega
    subst ei
    rw [nI_add]
    exact h.1 em v4 e4 e5
  · rcases Nat.lt_or_ge i (rdm ft cv hn n) with q | q
    · obtain ⟨o1, o2, o3⟩ := rdm_ok q
      rw [o1]
      refine ⟨fun _ => hC i (by omega) o1 _ (sp_X11_isHearable (fun z => absurd o2 z) (fun _ => ⟨fun _ => ⟨fun _ => ?_, fun z => ?_⟩, fun z => absurd z (by decide)⟩)), fun z => absurd rfl z⟩
      · rw [nI_add, nI_clamp (by omega), nI_1]
        refine ⟨(vin_n (by omega)).mpr o3, hK q _ ⟨rfl, rfl, rfl, fun j hj => ?_, fun j hj => ?_⟩⟩
        · dsimp only; rw [pk_un (by omega)]; exact e4 j hj
        · dsimp only
          rcases Nat.lt_or_ge j i with w | w
          · rw [pk_un (by omega)]; exact e5 j w
          · have : j = i := by omega
            subst this; rw [pk_us]
      · exact absurd (by rw [nI_add, i24, nI_ltI (by omega) (by omega)]; exact o3) z
    · have ei : i = rdm ft cv hn n := by omega
      have hm := h.2 (by omega)
      rw [← ei] at hm
      have f4 := hf4 i
      by_cases a : ft i = 0
      · rw [a]
        refine ⟨fun _ => hC i (by omega) a _ ?_, fun z => absurd rfl z⟩
        have hm := hm.2 a
        have hend := rdm_end (ft := ft) (cv := cv) (hn := hn) (n := n) (by omega)
        rw [← ei] at hend
        refine sp_X11_isHearable (fun z => ⟨fun w => absurd rfl w, fun _ => ?_⟩) (fun z => ⟨fun _ => ⟨fun w => ?_, fun w => ?_⟩, fun w => absurd w (by decide)⟩)
        · have := hm.1 z v4 e4 (fun j hj => absurd hj (by omega)); exact this
        · rw [nI_add, i24, nI_ltI (by omega) (by omega)] at w
          rcases hend with q1 | q1 | q1
          · exact absurd a q1
          · exact absurd z q1
          · omega
        · have := hm.2 z v4 e4 (fun j hj => absurd hj (by omega)); exact this
      · refine ⟨fun z => absurd z ?_, fun _ => ?_⟩
        · rw [i0, nI_eq (by omega) (by omega)]; exact a
        · rw [nI_add]
          have := hm.1 a v4 e4 (fun j hj => e5 j hj)
          exact this
theorem sp_readM {f y torn : Int32} {st mc ml mn : Nat → Int32} {k hn n : Nat} {ft : Nat → Nat} {cv : Nat → Int32} (hk : k < 4) (hn24 : hn ≤ 24) (n24 : n ≤ 24) (hf4 : ∀ i, ft i < 4) (e49 : st 49 = nI hn)
    (hB : ∀ i, i < 24 → ∀ (x6 : Int32) (P : Int32 → Int32 → Int32 → (Nat → Int32) → Prop) (K : (Int32 × Int32 × Int32) → Prop), B_X12_read_120 mc (nI k) f x6 (nI i) 1 torn st (nI (ft i)) P K → (vp_in (nI k) 4 ∧ ((¬ (ml (nI k).toNatClampNeg : Int32) = ((-4)) → (vp_in (nI k) 4 ∧ (((ml (nI k).toNatClampNeg : Int32) = y → (vp_in (nI k) 4 ∧ (wp_X12_in (f.toInt64 + (nI i).toInt64) 0 (((mn (nI k).toNatClampNeg) - 1).toInt64) (fun r21 => ((¬ (r21 : Int32) = 0 → (B_X12_read_120 mc (nI k) f x6 (nI i) 1 torn st 0 P K)) ∧ ((r21 : Int32) = 0 → (B_X12_read_120 mc (nI k) f x6 (nI i) 1 torn st 2 P K))))))) ∧ (¬ (ml (nI k).toNatClampNeg : Int32) = y → (B_X12_read_120 mc (nI k) f x6 (nI i) 1 torn st 3 P K))))) ∧ ((ml (nI k).toNatClampNeg : Int32) = ((-4)) → (B_X12_read_120 mc (nI k) f x6 (nI i) 1 torn st 1 P K)))))
    (hC : ∀ i, i < 24 → ft i = 0 → vp_in (((40 * nI k) + f) + nI i) 160 ∧ mc (((40 * nI k) + f) + nI i).toNatClampNeg = cv i)
    {post : Int32 → Int32 → Int32 → (Nat → Int32) → Prop} (h : rdR ft cv hn n (fun r o m => ∀ st', (∀ j, (j < 25 + hn ∨ 25 + hn + m ≤ j) → j ≠ 49 → st' j = st j) → (∀ j, j < m → st' (25 + hn + j) = cv j) → st' 49 = nI (hn + m) → post r 1 (tornV torn o) st')) : ∃ q, fixN (F_X12_read_52 mc ml mn (nI k) y f (nI n) 1 torn st post) q (0, 0, 0) := by
  have hl := rdm_le ft cv hn n
  -- the second loop
  have two : ∀ (m : Nat) (t : Int32), m ≤ rdm ft cv hn n → hn + m ≤ 24 → (∀ st', (∀ j, (j < 25 + hn ∨ 25 + hn + m ≤ j) → j ≠ 49 → st' j = st j) → (∀ j, j < m → st' (25 + hn + j) = cv j) → st' 49 = nI (hn + m) → post (nI m) 1 t st') → ∃ q, fixN (F_X12_read_183 mc (nI k) f t (nI m) 1 post) q (0, st) := by
    intro m t hm hm2 hp
    refine fix_iv (fun i v => v.1 = nI i ∧ (∀ j, (j < 25 + hn ∨ 25 + hn + i ≤ j) → j ≠ 49 → v.2 j = st j) ∧ (∀ j, j < i → v.2 (25 + hn + j) = cv j) ∧ v.2 49 = nI (hn + i)) m (fun K i v hi hI hK => ?_) 0 (by omega) ⟨rfl, fun _ _ _ => rfl, fun j hj => absurd hj (by omega), e49⟩
    obtain ⟨v1, v2⟩ := v
    obtain ⟨e1, e2, e3, e4⟩ := hI
    dsimp only at e1 e2 e3 e4
    subst e1
    unfold F_X12_read_183
    dsimp only
    rw [nI_leI (by omega) (by omega), show (49 : Int32).toNatClampNeg = 49 from rfl, e4]
    refine ⟨fun c => ?_, fun c => ?_⟩
    · have : i = m := by omega
      subst this
      exact hp v2 e2 e3 e4
    · have hc := hC i (by omega) (rdm_ok (show i < rdm ft cv hn n by omega)).1
      rw [hc.2, i25, nI_add, nI_clamp (by omega)]
      refine ⟨by unfold vp_in; decide, hc.1, (vin_n (by omega)).mpr (by omega), by unfold vp_in; decide, by unfold vp_in; decide, ?_⟩
      rw [show upd v2 (25 + (hn + i)) (cv i) 49 = nI (hn + i) by rw [pk_un (by omega)]; exact e4, nI_1, nI_1]
      refine hK (by omega) _ ⟨rfl, fun j hj hj2 => ?_, fun j hj => ?_, ?_⟩
      · dsimp only; rw [pk_un hj2, pk_un (by omega)]; exact e2 j (by omega) hj2
      · dsimp only
        rw [pk_un (by omega)]
        rcases Nat.lt_or_ge j i with w | w
        · rw [pk_un (by omega)]; exact e3 j w
        · have : j = i := by omega
          subst this; rw [show 25 + hn + j = 25 + (hn + j) by omega, pk_us]
      · dsimp only; rw [pk_us]; rfl
  -- the first
  refine fix_iv (fun i v => (i ≤ rdm ft cv hn n ∧ v.1 = 0 ∧ v.2.1 = nI i ∧ v.2.2 = nI i) ∨ (i = rdm ft cv hn n + 1 ∧ rdm ft cv hn n < n ∧ ft (rdm ft cv hn n) ≠ 0 ∧ v.1 = nI (ft (rdm ft cv hn n)) ∧ v.2.1 = nI (rdm ft cv hn n) ∧ v.2.2 = nI i)) (rdm ft cv hn n + 1) (fun K i v hi hI hK => ?_) 0 (by omega) (Or.inl ⟨by omega, rfl, rfl, rfl⟩)
  obtain ⟨v1, v2, v3⟩ := v
  dsimp only at hI
  have hn_m : hn + rdm ft cv hn n ≤ 24 := by
    rcases Nat.eq_zero_or_pos (rdm ft cv hn n) with q | q
    · omega
    · have := (rdm_ok (ft := ft) (cv := cv) (hn := hn) (n := n) (i := rdm ft cv hn n - 1) (by omega)).2.2; omega
  unfold F_X12_read_52
  dsimp only
  rcases hI with ⟨hi2, e1, e2, e3⟩ | ⟨ei, hlt, hne, e1, e2, e3⟩
  · subst e1; subst e2; subst e3
    rw [nI_leI (by omega) (by omega)]
    refine ⟨fun c => ?_, fun c => ⟨fun z => absurd rfl z, fun _ => hB i (by omega) _ _ _ ?_⟩⟩
    · have em : rdm ft cv hn n = n := by omega
      have ei : i = n := by omega
      subst ei
      exact two i 0 (by omega) (by omega) (fun st' a b c' => h.1 em st' a b c')
    · unfold B_X12_read_120
      rw [show (49 : Int32).toNatClampNeg = 49 from rfl, e49]
      rcases Nat.lt_or_ge i (rdm ft cv hn n) with q | q
      · obtain ⟨o1, o2, o3⟩ := rdm_ok q
        have hc := hC i (by omega) o1
        rw [o1]
        refine ⟨fun z => absurd rfl z, fun _ => ⟨hc.1, ?_⟩⟩
        rw [hc.2]
        refine sp_X12_isCount (fun z => absurd o2 z) (fun _ => ⟨fun _ => ⟨by unfold vp_in; decide, fun _ => ?_, fun z => ?_⟩, fun z => absurd z (by decide)⟩)
        · rw [nI_1]; exact hK (by omega) _ (Or.inl ⟨by omega, rfl, rfl, rfl⟩)
        · rw [nI_add, i24, nI_eq (by omega) (by omega)] at z; omega
      · have ei : i = rdm ft cv hn n := by omega
        have hm := h.2 (by omega)
        rw [← ei] at hm
        have f4 := hf4 i
        by_cases a : ft i = 0
        · rw [a]
          have hc := hC i (by omega) a
          have hm := hm.2 a
          have hend := rdm_end (ft := ft) (cv := cv) (hn := hn) (n := n) (by omega)
          rw [← ei] at hend
          refine ⟨fun z => absurd rfl z, fun _ => ⟨hc.1, ?_⟩⟩
          rw [hc.2]
          refine sp_X12_isCount (fun z => ⟨fun w => absurd rfl w, fun _ => ?_⟩) (fun z => ⟨fun _ => ⟨by unfold vp_in; decide, fun w => ?_, fun w => ?_⟩, fun w => absurd w (by decide)⟩)
          · have := hm.1 z st (fun _ _ _ => rfl) (fun j hj => absurd hj (by omega)) e49; exact this
          · exfalso
            rw [nI_add, i24, nI_eq (by omega) (by omega)] at w
            rcases hend with q1 | q1 | q1
            · exact absurd a q1
            · exact absurd z q1
            · omega
          · have := hm.2 z st (fun _ _ _ => rfl) (fun j hj => absurd hj (by omega)) e49; exact this
        · refine ⟨fun _ => ?_, fun z => absurd z ?_⟩
          · rw [nI_1]
            exact hK (by omega) _ (Or.inr ⟨by omega, by omega, by rw [← ei]; exact a, by rw [← ei], by rw [← ei], rfl⟩)
          · rw [i0, nI_eq (by omega) (by omega)]; exact a
  · subst e1; subst e2; subst e3
    have f4 := hf4 (rdm ft cv hn n)
    have fin : ∃ q, fixN (F_X12_read_183 mc (nI k) f (nI (ft (rdm ft cv hn n))) (nI (rdm ft cv hn n)) 1 post) q (0, st) := two _ _ (Nat.le_refl _) hn_m (fun st' a b c' => (h.2 hlt).1 hne st' a b c')
    refine ⟨fun _ => fin, fun _ => ⟨fun _ => fin, fun z => absurd z ?_⟩⟩
    rw [i0, nI_eq (by omega) (by omega)]; exact hne
