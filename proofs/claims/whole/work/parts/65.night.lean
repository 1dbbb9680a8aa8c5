/-! NIGHT -/
def bN (b : Bool) : Int32 := if b then 1 else 0
theorem bN_0 {b : Bool} : bN b = 0 ↔ b = false := by cases b <;> decide
theorem bN_1 {b : Bool} : bN b = 1 ↔ b = true := by cases b <;> decide
def stl (d : PD) (m : Nat) : Nat → Bool
  | 0 => false
  | n + 1 => stl d m n || decide (d 8 n ≤ m ∧ m < d 8 n + d 9 n)
def stil (d : PD) (m : Nat) : Bool := stl d m (ngd d)
def MG (d : PD) (ru gd : Nat → Int32) : Prop := ru 7 = nI (ngd d) ∧ ∀ g, g < ngd d → gd (2 * g) = nI (d 8 g) ∧ gd (2 * g + 1) = nI (d 9 g)
def XG (d : PD) (wa : Nat → Int32) : Prop := ∀ m, m < 600 → wa m = bN (stil d m)
section
variable {d : PD} {ru gd wa : Nat → Int32} {post : Int32 → Prop}
theorem sp_X12_isStill (hd : okP d) (hM : MG d ru gd) {m : Nat} (hm : m < 600) (h : post (bN (stil d m))) : wp_X12_isStill ru gd (nI m) post := by
  have h6 := hd.2.2.1
  unfold wp_X12_isStill
  refine fix_0 (fun k => (bN (stl d m k), nI k)) (ngd d) (by rfl) ?_
  intro K k hk hK
  unfold F_X12_isStill_4
  dsimp only
  rw [show (7 : Int32).toNatClampNeg = 7 from rfl, hM.1, nI_leI (by omega) (by omega)]
  refine ⟨by unfold vp_in; decide, fun c => ?_, fun c => ⟨fun q => ?_, fun q => ?_⟩⟩
  · have : k = ngd d := by omega
    subst this
    exact ⟨by cases stl d m (ngd d) <;> decide, h⟩
  · have hk' : k < ngd d := by omega
    have e : stl d m k = true := by cases z : stl d m k with
      | false => rw [z] at q; exact absurd rfl q
      | true => rfl
    have := hK hk'
    rw [show stl d m (k + 1) = true by rw [stl, e]; rfl] at this
    rw [nI_1]; exact this
  · have hk' : k < ngd d := by omega
    rw [bN_0] at q
    have g1 := (hM.2 k hk').1
    have g2 := (hM.2 k hk').2
    have g3 := hd.2.2.2.2.2.2.2.2 k hk'
    simp (disch := omega) only [i2, i1, pk_mul, nI_add, nI_clamp, vin_n, g1, g2, nI_eq]
    refine ⟨by omega, by omega, by omega, ?_⟩
    rw [pk_sub (by omega)]
    have step : ∀ b : Bool, b = decide (d 8 k ≤ m ∧ m < d 8 k + d 9 k) → K (bN b, nI (k + 1)) := fun b hb => by
      have := hK hk'
      rw [show stl d m (k + 1) = b by rw [stl, q, hb]; rfl] at this
      exact this
    refine sp_X12_in (fun c => ⟨fun _ => step false ?_, fun q => absurd rfl q⟩) (fun c => ⟨fun q => absurd q (by decide), fun _ => step true ?_⟩)
    · rw [nI_leI (by omega) (by omega), nI_leI (by omega) (by omega)] at c
      rw [eq_comm, decide_eq_false_iff_not]; omega
    · rw [nI_leI (by omega) (by omega), nI_leI (by omega) (by omega)] at c
      rw [eq_comm, decide_eq_true_iff]; omega
/-- the first minute from m on of that kind -/
def ffr (d : PD) (m : Nat) (w : Bool) : Nat := fnd (fun j => stil d (m + j) == w) (600 - m)
theorem sp_X5_firstFrom (hX : XG d wa) {m : Nat} (hm : m < 600) {w : Bool} (h : post (if m + ffr d m w < 600 then nI (m + ffr d m w) else -1)) : wp_X5_firstFrom wa (nI m) (bN w) post := by
  have hl := fnd_le (fun j => stil d (m + j) == w) (600 - m)
  have hno := fnd_no (fun j => stil d (m + j) == w) (600 - m)
  have hyes := fnd_yes (fun j => stil d (m + j) == w) (600 - m)
  unfold wp_X5_firstFrom
  rw [show (if (0 : Int32) < nI m then nI m else 0) = nI m by
    split
    · rfl
    · rename_i q; rw [show (0 : Int32) = nI 0 from rfl, nI_ltI (by omega) (by omega)] at q; rw [show m = 0 by omega]; rfl]
  refine fix_at (fun k => nI k) m (m + ffr d m w) (by omega) rfl ?_
  intro K k hk0 hk hK
  unfold ffr at *
  unfold F_X5_firstFrom_6
  dsimp only
  simp (disch := omega) only [i600, nI_leI, vin_n, nI_clamp, nI_1]
  refine ⟨fun c => ?_, fun c => ⟨by omega, ?_⟩⟩
  · rw [if_neg (by omega)] at h; exact h
  · rw [hX k (by omega)]
    rcases Nat.lt_or_ge k (m + fnd (fun j => stil d (m + j) == w) (600 - m)) with q | q
    · have e := hno (k - m) (by omega)
      rw [show m + (k - m) = k by omega] at e
      refine ⟨fun _ => hK q, fun z => ?_⟩
      exfalso
      revert e z; cases stil d k <;> cases w <;> decide
    · have ek : k = m + fnd (fun j => stil d (m + j) == w) (600 - m) := by omega
      have e := hyes (by omega)
      rw [← ek] at e h
      rw [if_pos (by omega)] at h
      refine ⟨fun z => ?_, fun _ => h⟩
      exfalso
      revert e z; cases stil d k <;> cases w <;> decide
theorem sim_still (hd : okP d) (hX : XG d wa) (hM : MG d ru gd) (x y : Int32) : wp_X11_still wa x y (fun r => wp_X12_still ru gd x y (fun r' => r = r')) := by
  have e : vp_in y 3 ↔ 0 ≤ y ∧ y < 3 := vin_I (by decide)
  have key : ∀ r, (¬ vp_in x 600 → r = -1) → (vp_in x 600 → ¬ vp_in y 3 → r = -1) → (∀ m, m < 600 → x = nI m → y = 0 → r = bN (stil d m)) → (∀ m (w : Bool), m < 600 → x = nI m → y = 1 + bN w → r = if m + ffr d m w < 600 then nI (m + ffr d m w) else -4) → wp_X12_still ru gd x y (fun r' => r = r') := by
    intro r r1 r2 r3 r4
    unfold wp_X12_still
    refine sp_in0 (b := 599) (n := 600) (by decide) le_599 (fun c => ⟨fun _ => r1 c, fun q => absurd rfl q⟩) (fun c => ⟨fun q => absurd q (by decide), fun _ => ?_⟩)
    refine sp_in0 (b := 2) (n := 3) (by decide) le_2 (fun c2 => ⟨fun q => absurd rfl q, fun _ => r2 c c2⟩) (fun c2 => ⟨fun _ => ?_, fun q => absurd q (by decide)⟩)
    obtain ⟨m, hm, rfl⟩ := vin_ex (by decide) c
    refine ⟨fun y0 => ?_, fun y0 => sp_X12_isStill hd hM hm ?_⟩
    · -- from m on
      have hw : ∃ w : Bool, y = 1 + bN w := by
        obtain ⟨j, hj, rfl⟩ := vin_ex (by decide) c2
        rcases (show j = 0 ∨ j = 1 ∨ j = 2 by omega) with rfl | rfl | rfl
        · exact absurd rfl y0
        · exact ⟨false, rfl⟩
        · exact ⟨true, rfl⟩
      obtain ⟨w, rfl⟩ := hw
      have h := r4 m w hm rfl rfl
      have hl := fnd_le (fun j => stil d (m + j) == w) (600 - m)
      have hno := fnd_no (fun j => stil d (m + j) == w) (600 - m)
      have hyes := fnd_yes (fun j => stil d (m + j) == w) (600 - m)
      refine fix_at (fun k => nI k) m (m + ffr d m w) (by omega) rfl ?_
      intro K k hk0 hk hK
      unfold ffr at *
      unfold F_X12_still_46
      dsimp only
      simp (disch := omega) only [i600, nI_leI, nI_1]
      refine ⟨fun c => ?_, fun c => sp_X12_isStill hd hM (by omega) ?_⟩
      · rw [if_neg (by omega)] at h; exact h
      · rcases Nat.lt_or_ge k (m + fnd (fun j => stil d (m + j) == w) (600 - m)) with q | q
        · have e := hno (k - m) (by omega)
          rw [show m + (k - m) = k by omega] at e
          have := hK q
          revert e; cases stil d k <;> cases w <;> intro e
          · exact absurd e (by decide)
          · exact ⟨fun z => absurd rfl z, fun _ => ⟨fun _ => this, fun z => absurd z (by decide)⟩⟩
          · exact ⟨fun _ => ⟨fun _ => this, fun z => absurd z (by decide)⟩, fun z => absurd z (by decide)⟩
          · exact absurd e (by decide)
        · have ek : k = m + fnd (fun j => stil d (m + j) == w) (600 - m) := by omega
          have e := hyes (by omega)
          rw [← ek] at e h
          rw [if_pos (by omega)] at h
          revert e; cases stil d k <;> cases w <;> intro e
          · exact ⟨fun _ => ⟨fun z => absurd rfl z, fun _ => h⟩, fun z => absurd z (by decide)⟩
          · exact absurd e (by decide)
          · exact absurd e (by decide)
          · exact ⟨fun z => absurd rfl z, fun _ => ⟨fun z => absurd rfl z, fun _ => h⟩⟩
    · have := r3 m hm rfl y0
      rw [bN_0]
      refine ⟨fun q => by rw [this, q]; rfl, fun q => ?_⟩
      rw [this]
      revert q; cases stil d m <;> intro q
      · exact absurd rfl q
      · rfl
  unfold wp_X11_still
  refine sp_X11_isMinute (fun c => ⟨fun _ => key _ (fun _ => rfl) (fun _ _ => rfl) (fun m hm z => absurd (by rw [z]; exact (vin_n (by omega)).mpr hm) c) (fun m w hm z => absurd (by rw [z]; exact (vin_n (by omega)).mpr hm) c), fun q => absurd rfl q⟩) (fun c => ⟨fun q => absurd q (by decide), fun _ => ⟨fun c2 => ?_, fun c2 => ⟨fun c3 => ?_, fun c3 => ?_⟩⟩⟩)
  · refine key _ (fun _ => rfl) (fun _ _ => rfl) (fun m hm _ z => ?_) (fun m w hm _ z => ?_)
    · rw [z] at c2; exact absurd c2 (by decide)
    · rw [z] at c2; cases w <;> exact absurd c2 (by decide)
  · obtain ⟨m, hm, rfl⟩ := vin_ex (by decide) c
    have hin : vp_in y 3 := e.mpr (by grind)
    have hmm : ∀ m', nI m = nI m' → m' < 600 → m' = m := fun m' z hm' => ((nI_eq (by omega) (by omega)).mp z).symm
    refine ⟨fun y0 => ?_, fun y0 => ⟨c, ?_⟩⟩
    · have hw : ∃ w : Bool, y = 1 + bN w := by
        obtain ⟨j, hj, rfl⟩ := vin_ex (by decide) hin
        rcases (show j = 0 ∨ j = 1 ∨ j = 2 by omega) with rfl | rfl | rfl
        · exact absurd rfl y0
        · exact ⟨false, rfl⟩
        · exact ⟨true, rfl⟩
      obtain ⟨w, rfl⟩ := hw
      rw [show (1 + bN w) - 1 = bN w by cases w <;> decide]
      have hw1 : ∀ w' : Bool, 1 + bN w = 1 + bN w' → w' = w := by cases w <;> intro w' <;> cases w' <;> decide
      refine sp_X5_firstFrom hX hm ?_
      by_cases q : m + ffr d m w < 600
      · rw [if_pos q]
        refine ⟨fun _ => key _ (fun z => absurd c z) (fun _ z => absurd hin z) (fun _ _ _ z => absurd z y0) (fun m' w' hm' z z2 => ?_), fun z => absurd (nI_nn (by omega)) z⟩
        rw [hmm m' z hm', hw1 w' z2, if_pos q]
      · rw [if_neg q]
        refine ⟨fun z => absurd z (by decide), fun _ => key _ (fun z => absurd c z) (fun _ z => absurd hin z) (fun _ _ _ z => absurd z y0) (fun m' w' hm' z z2 => ?_)⟩
        rw [hmm m' z hm', hw1 w' z2, if_neg q]
    · rw [nI_clamp (by omega), hX m hm]
      refine key _ (fun z => absurd c z) (fun _ z => absurd hin z) (fun m' hm' z _ => by rw [hmm m' z hm']) (fun m' w hm' _ z => ?_)
      rw [y0] at z; cases w <;> exact absurd z (by decide)
  · refine key _ (fun _ => rfl) (fun _ _ => rfl) (fun m hm _ z => ?_) (fun m w hm _ z => ?_)
    · rw [z] at c3; exact absurd (by decide) c3
    · rw [z] at c3; cases w <;> exact absurd (by decide) c3
/-- how many minutes in a row are free, ahead of minute m + i, counted from m on -/
def rwf (d : PD) (m : Nat) : Nat → Nat
  | 0 => 0
  | i + 1 => if stil d (m + i) then 0 else rwf d m i + 1
theorem rwf_le (d : PD) (m : Nat) : ∀ i, rwf d m i ≤ i
  | 0 => Nat.le_refl 0
  | i + 1 => by have := rwf_le d m i; unfold rwf; split <;> omega
def frw (d : PD) (m n : Nat) : Nat := fnd (fun i => rwf d m (i + 1) == n) (600 - m)
theorem max0 {m : Nat} (hm : m < 2 ^ 31) : (if (0 : Int32) < nI m then nI m else 0) = nI m := by
  split
  · rfl
  · rename_i q; rw [show (0 : Int32) = nI 0 from rfl, nI_ltI (by omega) (by omega)] at q; rw [show m = 0 by omega]; rfl
theorem sp_X5_firstRow (hX : XG d wa) {m n : Nat} (hm : m < 600) (hn : 1 ≤ n) (hn2 : n ≤ 600) (h : post (if m + frw d m n < 600 then nI (m + frw d m n) - nI n + 1 else -1)) : wp_X5_firstRow wa (nI m) (nI n) post := by
  have hl := fnd_le (fun i => rwf d m (i + 1) == n) (600 - m)
  have hno := fnd_no (fun i => rwf d m (i + 1) == n) (600 - m)
  have hyes := fnd_yes (fun i => rwf d m (i + 1) == n) (600 - m)
  unfold wp_X5_firstRow
  rw [max0 (by omega)]
  refine fix_0 (fun i => (nI (rwf d m i), nI (m + i))) (frw d m n) rfl ?_
  intro K i hi hK
  unfold frw at *
  have hr := rwf_le d m i
  have hr1 := rwf_le d m (i + 1)
  unfold F_X5_firstRow_9
  dsimp only
  simp (disch := omega) only [i600, nI_leI, vin_n, nI_clamp, nI_1]
  refine ⟨fun c => ?_, fun c => ⟨by omega, ?_⟩⟩
  · rw [if_neg (by omega)] at h; exact h
  · have fin : ∀ z, z = rwf d m (i + 1) → B_X5_firstRow_34 (nI n) (nI (m + i)) (nI z) post K := by
      intro z hz
      subst hz
      unfold B_X5_firstRow_34
      rw [nI_eq (by omega) (by omega), nI_1]
      rcases Nat.lt_or_ge i (fnd (fun i => rwf d m (i + 1) == n) (600 - m)) with q | q
      · have e := hno i q
        simp only [beq_eq_false_iff_ne, ne_eq] at e
        exact ⟨fun _ => hK q, fun z => absurd z e⟩
      · have ei : i = fnd (fun i => rwf d m (i + 1) == n) (600 - m) := by omega
        have e := hyes (by omega)
        rw [← ei] at e h
        rw [if_pos (by omega)] at h
        simp only [beq_iff_eq] at e
        exact ⟨fun z => absurd e z, fun _ => h⟩
    rw [hX (m + i) (by omega), bN_0]
    refine ⟨fun q => fin 0 (by rw [rwf, if_pos (by simpa using q)]), fun q => fin _ (by rw [rwf, q]; rfl)⟩
theorem sp_X12_begin {m n : Nat} (hd : okP d) (hM : MG d ru gd) (hm : m < 600) (hn : 1 ≤ n) (hn2 : n ≤ 600) (h : post (if m + frw d m n < 600 then nI (m + frw d m n) - nI n + 1 else -4)) : ∃ k, fixN (F_X12_begin_31 ru gd (nI n) post) k (0, nI m) := by
  have hl := fnd_le (fun i => rwf d m (i + 1) == n) (600 - m)
  have hno := fnd_no (fun i => rwf d m (i + 1) == n) (600 - m)
  have hyes := fnd_yes (fun i => rwf d m (i + 1) == n) (600 - m)
  refine fix_0 (fun i => (nI (rwf d m i), nI (m + i))) (frw d m n) rfl ?_
  intro K i hi hK
  unfold frw at *
  have hr := rwf_le d m i
  have hr1 := rwf_le d m (i + 1)
  unfold F_X12_begin_31
  dsimp only
  simp (disch := omega) only [i600, nI_leI, nI_1]
  refine ⟨fun c => ?_, fun c => sp_X12_isStill hd hM (by omega) ?_⟩
  · rw [if_neg (by omega)] at h; exact h
  · have fin : ∀ z, z = rwf d m (i + 1) → B_X12_begin_55 (nI n) (nI (m + i)) (nI z) post K := by
      intro z hz
      subst hz
      unfold B_X12_begin_55
      rw [nI_eq (by omega) (by omega), nI_1]
      rcases Nat.lt_or_ge i (fnd (fun i => rwf d m (i + 1) == n) (600 - m)) with q | q
      · have e := hno i q
        simp only [beq_eq_false_iff_ne, ne_eq] at e
        exact ⟨fun _ => hK q, fun z => absurd z e⟩
      · have ei : i = fnd (fun i => rwf d m (i + 1) == n) (600 - m) := by omega
        have e := hyes (by omega)
        rw [← ei] at e h
        rw [if_pos (by omega)] at h
        simp only [beq_iff_eq] at e
        exact ⟨fun z => absurd e z, fun _ => h⟩
    rw [bN_0]
    refine ⟨fun q => fin _ (by rw [rwf, q]; rfl), fun q => fin 0 (by rw [rwf, if_pos (by simpa using q)])⟩
end
