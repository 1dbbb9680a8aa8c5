theorem vin1_ex {x : Int32} {n : Nat} (hn : n < 2 ^ 30) (h : vp_in (x - 1) n) : ∃ k, 1 ≤ k ∧ k ≤ n ∧ x = nI k := by
  obtain ⟨k, hk, e⟩ := vin_ex (by omega) h
  refine ⟨k + 1, by omega, by omega, ?_⟩
  rw [← nI_1, ← e]; grind
theorem maxI {a b : Nat} (ha : a < 2 ^ 31) (hb : b < 2 ^ 31) : (if nI a < nI b then nI b else nI a) = nI (max a b) := by
  split
  · rename_i q; rw [nI_ltI ha hb] at q; rw [Nat.max_eq_right (by omega)]
  · rename_i q; rw [nI_ltI ha hb] at q; rw [Nat.max_eq_left (by omega)]
theorem minI {a b : Nat} (ha : a < 2 ^ 31) (hb : b < 2 ^ 31) : (if nI b < nI a then nI b else nI a) = nI (min a b) := by
  split
  · rename_i q; rw [nI_ltI hb ha] at q; rw [Nat.min_eq_right (by omega)]
  · rename_i q; rw [nI_ltI hb ha] at q; rw [Nat.min_eq_left (by omega)]
section
variable {d : PD} {ru gd wa : Nat → Int32} {post : Int32 → Prop}
theorem sim_begin (hd : okP d) (hX : XG d wa) (hM : MG d ru gd) (x y : Int32) : wp_X11_begin wa x y (fun r => wp_X12_begin ru gd x y (fun r' => r = r')) := by
  unfold wp_X11_begin wp_X12_begin
  refine sp_X11_isMinute (fun c => ⟨fun _ => ?_, fun q => absurd rfl q⟩) (fun c => ⟨fun q => absurd q (by decide), fun _ => sp_X11_isRowLength (fun c2 => ⟨fun q => absurd rfl q, fun _ => ?_⟩) (fun c2 => ⟨fun _ => ?_, fun q => absurd q (by decide)⟩)⟩)
  · exact sp_in0 (b := 599) (n := 600) (by decide) le_599 (fun _ => ⟨fun _ => rfl, fun q => absurd rfl q⟩) (fun q => absurd q c)
  · exact sp_in0 (b := 599) (n := 600) (by decide) le_599 (fun q => absurd c q) (fun _ => ⟨fun q => absurd q (by decide), fun _ => sp_in1 (n := 600) (b := 600) (by decide) rfl (fun _ => ⟨fun q => absurd rfl q, fun _ => rfl⟩) (fun q => absurd q c2)⟩)
  · obtain ⟨m, hm, rfl⟩ := vin_ex (by decide) c
    obtain ⟨n, hn1, hn2, rfl⟩ := vin1_ex (by decide) c2
    have hgo : ∀ r, r = (if m + frw d m n < 600 then nI (m + frw d m n) - nI n + 1 else -4) → wp_X12_in (nI m).toInt64 0 599 (fun r1 => (((r1 : Int32) = 0 → r = -1) ∧ (¬ (r1 : Int32) = 0 → (wp_X12_in (nI n).toInt64 1 600 (fun r3 => ((¬ (r3 : Int32) = 0 → (∃ n_1, fixN (F_X12_begin_31 ru gd (nI n) (fun r' => r = r')) n_1 (0, nI m))) ∧ ((r3 : Int32) = 0 → r = -1))))))) := fun r hr =>
      sp_in0 (b := 599) (n := 600) (by decide) le_599 (fun q => absurd c q) (fun _ => ⟨fun q => absurd q (by decide), fun _ => sp_in1 (n := 600) (b := 600) (by decide) rfl (fun q => absurd c2 q) (fun _ => ⟨fun _ => sp_X12_begin hd hM hm hn1 hn2 hr, fun q => absurd q (by decide)⟩)⟩)
    refine sp_X5_firstRow hX hm hn1 hn2 ?_
    by_cases q : m + frw d m n < 600
    · rw [if_pos q]
      have hyes := fnd_yes (fun i => rwf d m (i + 1) == n) (600 - m) (by unfold frw at q; omega)
      simp only [beq_iff_eq] at hyes
      have hle := rwf_le d m (frw d m n + 1)
      unfold frw at *
      rw [hyes] at hle
      have e : nI (m + fnd (fun i => rwf d m (i + 1) == n) (600 - m)) - nI n + 1 = nI (m + fnd (fun i => rwf d m (i + 1) == n) (600 - m) + 1 - n) := by
        rw [show nI (m + fnd (fun i => rwf d m (i + 1) == n) (600 - m)) - nI n + 1 = (nI (m + fnd (fun i => rwf d m (i + 1) == n) (600 - m)) + 1) - nI n by grind, nI_1, pk_sub (by omega)]
      refine ⟨fun _ => hgo _ (by rw [if_pos q]), fun z => absurd ?_ z⟩
      rw [e]; exact nI_nn (by omega)
    · rw [if_neg q]
      exact ⟨fun z => absurd z (by decide), fun _ => hgo _ (by rw [if_neg q])⟩
/-- rows held: (rows, row) ahead of minute i -/
def rhd (d : PD) (n : Nat) : Nat → Nat × Nat
  | 0 => (0, 0)
  | i + 1 => let z := if stil d i then 0 else (rhd d n i).2 + 1
    if z = n then ((rhd d n i).1 + 1, 0) else ((rhd d n i).1, z)
theorem rhd_le (d : PD) (n : Nat) : ∀ i, (rhd d n i).1 ≤ i ∧ (rhd d n i).2 ≤ i
  | 0 => ⟨Nat.le_refl 0, Nat.le_refl 0⟩
  | i + 1 => by
    have := rhd_le d n i
    unfold rhd
    dsimp only
    split <;> split <;> dsimp only <;> omega
theorem sp_X5_rowsHeld (hX : XG d wa) {n : Nat} (hn2 : n ≤ 600) (h : post (nI (rhd d n 600).1)) : wp_X5_rowsHeld wa (nI n) post := by
  unfold wp_X5_rowsHeld
  refine fix_0 (fun i => (nI (rhd d n i).1, nI (rhd d n i).2, nI i)) 600 rfl ?_
  intro K i hi hK
  have hr := rhd_le d n i
  unfold F_X5_rowsHeld_7
  dsimp only
  simp (disch := omega) only [i600, nI_leI, vin_n, nI_clamp, nI_1]
  refine ⟨fun c => ?_, fun c => ⟨by omega, ?_⟩⟩
  · have : i = 600 := by omega
    subst this; exact h
  · have hK := hK (by omega)
    have fin : ∀ z, z ≤ 601 → z = (if stil d i then 0 else (rhd d n i).2 + 1) → B_X5_rowsHeld_32 (nI n) (nI (rhd d n i).1) (nI i) (nI z) K := by
      intro z hz1 hz
      unfold B_X5_rowsHeld_32
      rw [nI_eq (by omega) (by omega), nI_1, nI_1]
      rw [rhd] at hK
      try dsimp only at hK
      rw [← hz] at hK
      refine ⟨fun q => by rw [if_neg q] at hK; exact hK, fun q => by rw [if_pos q] at hK; exact hK⟩
    rw [hX i (by omega), bN_0]
    refine ⟨fun q => fin 0 (by omega) (by rw [if_pos (by simpa using q)]), fun q => fin _ (by omega) (by rw [q]; rfl)⟩
theorem sim_nights (hd : okP d) (hX : XG d wa) (hM : MG d ru gd) (x : Int32) : wp_X11_nights wa x (fun r => wp_X12_nights ru gd x (fun r' => r = r')) := by
  unfold wp_X11_nights wp_X12_nights
  refine sp_X11_isRowLength (fun c => ⟨fun _ => ?_, fun q => absurd rfl q⟩) (fun c => ⟨fun q => absurd q (by decide), fun _ => ?_⟩)
  · exact sp_in1 (n := 600) (b := 600) (by decide) rfl (fun _ => ⟨fun q => absurd rfl q, fun _ => rfl⟩) (fun q => absurd q c)
  · obtain ⟨n, hn1, hn2, rfl⟩ := vin1_ex (by decide) c
    refine sp_X5_rowsHeld hX hn2 (sp_in1 (n := 600) (b := 600) (by decide) rfl (fun q => absurd c q) (fun _ => ⟨fun _ => ?_, fun q => absurd q (by decide)⟩))
    refine fix_0 (fun i => (nI (rhd d n i).2, nI (rhd d n i).1, nI i)) 600 rfl ?_
    intro K i hi hK
    have hr := rhd_le d n i
    unfold F_X12_nights_21
    dsimp only
    simp (disch := omega) only [i600, nI_leI, nI_1]
    refine ⟨fun c => ?_, fun c => sp_X12_isStill hd hM (by omega) ?_⟩
    · have : i = 600 := by omega
      subst this; rfl
    · have hK := hK (by omega)
      have fin : ∀ z, z ≤ 601 → z = (if stil d i then 0 else (rhd d n i).2 + 1) → B_X12_nights_45 (nI n) (nI (rhd d n i).1) (nI i) (nI z) K := by
        intro z hz1 hz
        unfold B_X12_nights_45
        rw [nI_eq (by omega) (by omega), nI_1, nI_1]
        rw [rhd] at hK
        try dsimp only at hK
        rw [← hz] at hK
        refine ⟨fun q => by rw [if_neg q] at hK; exact hK, fun q => by rw [if_pos q] at hK; exact hK⟩
      rw [bN_0]
      refine ⟨fun q => fin _ (by omega) (by rw [q]; rfl), fun q => fin 0 (by omega) (by rw [if_pos (by simpa using q)])⟩
/-- the longest row ahead of minute i -/
def mxr (d : PD) : Nat → Nat
  | 0 => 0
  | i + 1 => max (mxr d i) (rwf d 0 (i + 1))
theorem mxr_le (d : PD) : ∀ i, mxr d i ≤ i
  | 0 => Nat.le_refl 0
  | i + 1 => by have := mxr_le d i; have := rwf_le d 0 (i + 1); unfold mxr; omega
theorem mxr_ge (d : PD) : ∀ i j, j < i → rwf d 0 (j + 1) ≤ mxr d i
  | 0, j, h => absurd h (by omega)
  | i + 1, j, h => by
    have := mxr_ge d i j
    unfold mxr
    rcases Nat.lt_or_ge j i with q | q
    · have := this q; omega
    · have : j = i := by omega
      subst this; omega
theorem sp_X5_longestRow (hX : XG d wa) (h : post (nI (mxr d 600))) : wp_X5_longestRow wa post := by
  unfold wp_X5_longestRow
  refine fix_0 (fun i => (nI (mxr d i), nI (rwf d 0 i), nI i)) 600 rfl ?_
  intro K i hi hK
  have hr := rwf_le d 0 i
  have hm := mxr_le d i
  have hr1 := rwf_le d 0 (i + 1)
  unfold F_X5_longestRow_6
  dsimp only
  simp (disch := omega) only [i600, nI_leI, vin_n, nI_clamp, nI_1]
  refine ⟨fun c => ?_, fun c => ⟨by omega, ?_⟩⟩
  · have : i = 600 := by omega
    subst this; exact h
  · have hK := hK (by omega)
    have fin : ∀ z, z = rwf d 0 (i + 1) → B_X5_longestRow_29 (nI (mxr d i)) (nI i) (nI z) K := by
      intro z hz
      subst hz
      unfold B_X5_longestRow_29
      rw [maxI (by omega) (by omega), nI_1]
      rw [mxr] at hK
      exact hK
    rw [hX i (by omega), bN_0]
    refine ⟨fun q => fin 0 (by rw [rwf, Nat.zero_add, if_pos (by simpa using q)]), fun q => fin _ (by rw [rwf, Nat.zero_add, q]; rfl)⟩
/-- where the longest row ahead of minute i first ended -/
def mxa (d : PD) : Nat → Nat
  | 0 => 0
  | i + 1 => if mxr d i < rwf d 0 (i + 1) then i else mxa d i
theorem mxa_ok (d : PD) : ∀ i, 0 < mxr d i → mxa d i < i ∧ rwf d 0 (mxa d i + 1) = mxr d i ∧ ∀ j, j < mxa d i → rwf d 0 (j + 1) < mxr d i
  | 0, h => absurd h (by unfold mxr; omega)
  | i + 1, h => by
    have ih := mxa_ok d i
    have hg := mxr_ge d i
    unfold mxa
    by_cases q : mxr d i < rwf d 0 (i + 1)
    · rw [if_pos q]
      have e : mxr d (i + 1) = rwf d 0 (i + 1) := by unfold mxr; omega
      rw [e]
      exact ⟨by omega, rfl, fun j hj => by have := hg j hj; omega⟩
    · rw [if_neg q]
      have e : mxr d (i + 1) = mxr d i := by rw [mxr]; omega
      rw [e] at h ⊢
      have := ih h
      exact ⟨by omega, this.2⟩
theorem sim_longest (hd : okP d) (hX : XG d wa) (hM : MG d ru gd) (x : Int32) : wp_X11_longest wa x (fun r => wp_X12_longest ru gd x (fun r' => r = r')) := by
  have hm := mxr_le d 600
  have ha := mxa_ok d 600
  have key : ∀ r, (x = 0 → r = nI (mxr d 600)) → (x = 1 → r = if mxr d 600 = 0 then -4 else nI (mxa d 600) - nI (mxr d 600) + 1) → vp_in x 2 → wp_X12_longest ru gd x (fun r' => r = r') := by
    intro r r1 r2 c
    unfold wp_X12_longest
    refine sp_in0 (b := 1) (n := 2) (by decide) le_1 (fun q => absurd c q) (fun _ => ⟨fun _ => ?_, fun q => absurd q (by decide)⟩)
    refine fix_0 (fun i => (nI (rwf d 0 i), nI (mxr d i), (if mxr d i = 0 then -4 else nI (mxa d i) - nI (mxr d i) + 1), nI i)) 600 rfl ?_
    intro K i hi hK
    have hr := rwf_le d 0 i
    have hm := mxr_le d i
    have hr1 := rwf_le d 0 (i + 1)
    unfold F_X12_longest_23
    dsimp only
    simp (disch := omega) only [i600, nI_leI, nI_1]
    refine ⟨fun c' => ?_, fun c' => sp_X12_isStill hd hM (by omega) ?_⟩
    · have : i = 600 := by omega
      subst this
      refine ⟨fun x0 => r2 ?_, fun x0 => r1 x0⟩
      rcases in2 c with q | q
      · exact absurd q x0
      · exact q
    · have hK := hK (by omega)
      have fin : ∀ z, z = rwf d 0 (i + 1) → B_X12_longest_47 (nI (mxr d i)) (if mxr d i = 0 then -4 else nI (mxa d i) - nI (mxr d i) + 1) (nI i) (nI z) K := by
        intro z hz
        subst hz
        unfold B_X12_longest_47 B_X12_longest_64
        rw [nI_leI (by omega) (by omega), nI_1]
        rw [mxr, mxa] at hK
        refine ⟨fun q => ⟨fun _ => ?_, fun z => absurd q z⟩, fun q => ⟨fun z => absurd z q, fun _ => ?_⟩⟩
        · rw [Nat.max_eq_left q, if_neg (show ¬ mxr d i < rwf d 0 (i + 1) by omega)] at hK
          exact hK
        · rw [Nat.max_eq_right (by omega), if_pos (show mxr d i < rwf d 0 (i + 1) by omega), if_neg (show ¬ rwf d 0 (i + 1) = 0 by omega)] at hK
          exact hK
      rw [bN_0]
      refine ⟨fun q => fin _ (by rw [rwf, Nat.zero_add, q]; rfl), fun q => fin 0 (by rw [rwf, Nat.zero_add, if_pos (by simpa using q)])⟩
  unfold wp_X11_longest
  refine sp_X11_isHalf (fun c => ⟨fun q => absurd rfl q, fun _ => ?_⟩) (fun c => ⟨fun _ => sp_X5_longestRow hX ⟨fun x0 => ⟨fun q => ?_, fun q => ?_⟩, fun x0 => key _ (fun _ => rfl) (fun q => absurd (x0.symm.trans q) (by decide)) c⟩, fun q => absurd q (by decide)⟩)
  · unfold wp_X12_longest
    exact sp_in0 (b := 1) (n := 2) (by decide) le_1 (fun _ => ⟨fun q => absurd rfl q, fun _ => rfl⟩) (fun q => absurd q c)
  · rw [i0, nI_eq (by omega) (by omega)] at q
    have ha := ha (by omega)
    have ef : frw d 0 (mxr d 600) = mxa d 600 := by
      unfold frw
      refine fnd_at (by omega) (by simp [ha.2.1]) (fun k hk => ?_)
      have := ha.2.2 k hk
      simp only [beq_eq_false_iff_ne, ne_eq]; omega
    refine sp_X5_firstRow (m := 0) hX (by omega) (by omega) (by omega) ?_
    rw [ef, Nat.zero_add, if_pos (by omega)]
    exact key _ (fun q => absurd q x0) (fun _ => by rw [if_neg q]) c
  · rw [i0, nI_eq (by omega) (by omega)] at q
    exact key _ (fun z => absurd z x0) (fun _ => by rw [if_pos q]) c
end
