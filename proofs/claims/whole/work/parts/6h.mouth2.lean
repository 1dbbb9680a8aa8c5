section
variable {d : PD} {gu le mo kk pa ga : Int32} {ru : Nat → Int32} {nx wy mo1 th1 : Nat → Int64}
theorem lx_10 (y : Int32) : y ≤ 10 ↔ y < nI 11 := le_10 y
theorem sim_mouths (hd : okP d) (hX : XS d gu le mo kk pa ga) (hM : MS d ru) (x y z w : Int32) : wp_X11_mouths le mo nx wy x y z w (fun r _ _ => wp_X12_mouths mo1 th1 ru x y z w (fun r' _ _ => r = r')) := by
  have l9 := hd.2.2.2.1
  have m9 := hd.2.2.2.2.1
  rw [hX.2.1, hX.2.2.1]
  have ez : vp_in z 11 ↔ 0 ≤ z ∧ z < 11 := vin_I (by decide)
  have no : ¬ (vp_in (x - 1) 5 ∧ vp_in (y - 1) 5 ∧ vp_in z 11 ∧ vp_in w 2) → wp_X12_mouths mo1 th1 ru x y z w (fun r' _ _ => -1 = r') := fun c => by
    unfold wp_X12_mouths
    exact sp_in1 (n := 5) (b := 5) (by decide) rfl (fun _ => ⟨fun _ => rfl, fun q => absurd rfl q⟩) (fun q1 => ⟨fun q => absurd q (by decide), fun _ => sp_in1 (n := 5) (b := 5) (by decide) rfl (fun _ => ⟨fun _ => rfl, fun q => absurd rfl q⟩) (fun q2 => ⟨fun q => absurd q (by decide), fun _ => sp_in0 (b := 10) (n := 11) (by decide) le_10 (fun _ => ⟨fun _ => rfl, fun q => absurd rfl q⟩) (fun q3 => ⟨fun q => absurd q (by decide), fun _ => sp_in0 (b := 1) (n := 2) (by decide) le_1 (fun _ => ⟨fun q => absurd rfl q, fun _ => rfl⟩) (fun q4 => absurd ⟨q1, q2, q3, q4⟩ c)⟩)⟩)⟩)
  unfold wp_X11_mouths
  refine sp_X11_isKnockable (fun c => ⟨fun _ => no (fun q => c q.1), fun q => absurd rfl q⟩) (fun c => ⟨fun q => absurd q (by decide), fun _ => sp_X11_isKnockable (fun c2 => ⟨fun _ => no (fun q => c2 q.2.1), fun q => absurd rfl q⟩) (fun c2 => ⟨fun q => absurd q (by decide), fun _ => ⟨fun c3 => no (fun q => ?_), fun c3 => ⟨fun c4 => no (fun q => ?_), fun c4 => sp_X11_isHalf (fun c5 => ⟨fun q => absurd rfl q, fun _ => no (fun q => c5 q.2.2.2)⟩) (fun c5 => ⟨fun _ => ?_, fun q => absurd q (by decide)⟩)⟩⟩⟩)⟩)
  · have := (ez.mp q.2.2.1).1; rw [T_le] at this; rw [T_lt] at c3; omega
  · have := (ez.mp q.2.2.1).2; rw [T_lt] at this c4; have a1 : (11 : Int32).toInt = 11 := rfl; have a2 : (10 : Int32).toInt = 10 := rfl; omega
  · obtain ⟨n, hn1, hn5, rfl⟩ := vin1_ex (by decide) c
    obtain ⟨a, ha1, ha5, rfl⟩ := vin1_ex (by decide) c2
    obtain ⟨k, hk', rfl⟩ := nI_of c3
    have hk : k ≤ 10 := by rw [show (10 : Int32) = nI 10 from rfl, nI_ltI (by omega) (by omega)] at c4; omega
    have hz : vp_in (nI k) 11 := (vin_n (by omega)).mpr (by omega)
    have hle := MWs_le (l := lss d) (m := mre d) (n := n) (k := k) (j := a - 1) (by omega) hn1 hn5 (by omega)
    have hq := p20_lt (n := k) (by omega)
    refine sp_X3_pass l9 m9 hn1 hn5 hk (fun nx' wy' hw => ⟨c2, sp_X11_power (b := 20) (by omega) ?_⟩)
    rw [show nI a - 1 = nI (a - 1) by rw [i1, pk_sub ha1], nI_clamp (by omega), hw _ (by omega)]
    refine sp_X11_lowest (by omega) (by omega) (p20_pos k) ?_
    unfold wp_X12_mouths
    refine sp_in1 (n := 5) (b := 5) (by decide) rfl (fun q => absurd c q) (fun _ => ⟨fun q => absurd q (by decide), fun _ => sp_in1 (n := 5) (b := 5) (by decide) rfl (fun q => absurd c2 q) (fun _ => ⟨fun q => absurd q (by decide), fun _ => sp_in0 (b := 10) (n := 11) (by decide) le_10 (fun q => absurd hz q) (fun _ => ⟨fun q => absurd q (by decide), fun _ => sp_in0 (b := 1) (n := 2) (by decide) le_1 (fun q => absurd c5 q) (fun _ => ⟨fun _ => ?_, fun q => absurd q (by decide)⟩)⟩)⟩)⟩)
    refine sp_X12_layMouths (l := lss d) (m := mre d) hM.1 hM.2.1 l9 m9 hn1 hn5 hk (fun mo' th' hw' => ⟨(vin_n (by omega)).mpr (by omega), sp_X12_twenties (by omega) ?_⟩)
    have e := hw' (a - 1) (by omega)
    rw [show a - 1 + 1 = a by omega] at e
    rw [nI_clamp (by omega), e]
    exact sp_X12_lowest (by omega) (by omega) (p20_pos k) rfl
theorem div5 {p : Nat} (h : p < 25) : nI p / 5 + 1 = nI (p / 5 + 1) ∧ (nI p - nI p / 5 * 5) + 1 = nI (p % 5 + 1) ∧ nI p / 5 = nI (p / 5) ∧ nI p - nI p / 5 * 5 = nI (p % 5) := by
  have e1 : nI p / 5 = nI (p / 5) := by rw [i5, pk_div (by omega) (by omega) (by omega)]
  have e2 : nI p - nI p / 5 * 5 = nI (p % 5) := by rw [i5, pk_rem (by omega) (by omega) (by omega)]
  exact ⟨by rw [e1, nI_1], by rw [e2, nI_1], e1, e2⟩
def byP (d : PD) (p as k : Nat) : Nat := MWs (lss d) (mre d) (p / 5 + 1) k (as / 5) * MWs (lss d) (mre d) (p % 5 + 1) k (as % 5)
theorem byP_le (hd : okP d) {p as k : Nat} (hp : p < 25) (ha : as < 25) (hk : k ≤ 5) : byP d p as k ≤ 20 ^ 10 := by
  have l9 := hd.2.2.2.1
  have m9 := hd.2.2.2.2.1
  have h1 := MWs_le (l := lss d) (m := mre d) (n := p / 5 + 1) (k := k) (j := as / 5) (by omega) (by omega) (by omega) (by omega)
  have h2 := MWs_le (l := lss d) (m := mre d) (n := p % 5 + 1) (k := k) (j := as % 5) (by omega) (by omega) (by omega) (by omega)
  have h3 : 20 ^ k ≤ 20 ^ 5 := Nat.pow_le_pow_right (by omega) hk
  exact Nat.le_trans (Nat.mul_le_mul (Nat.le_trans h1 h3) (Nat.le_trans h2 h3)) (by decide)
theorem sp_X12_becomesBy (hd : okP d) (hM : MS d ru) {p as k : Nat} {mo2 th2 : Nat → Int64} (hp : p < 25) (ha : as < 25) (hk : k ≤ 5) {post : Int64 → (Nat → Int64) → (Nat → Int64) → Prop} (h : ∀ mo' th', post (lN (byP d p as k)) mo' th') : wp_X12_becomesBy mo2 th2 ru (nI p) (nI as) (nI k) post := by
  have l9 := hd.2.2.2.1
  have m9 := hd.2.2.2.2.1
  unfold wp_X12_becomesBy
  rw [(div5 hp).1, (div5 hp).2.1, (div5 ha).1, (div5 ha).2.1]
  refine sp_X12_layMouths (l := lss d) (m := mre d) hM.1 hM.2.1 l9 m9 (by omega) (by omega) (by omega) (fun m1 t1 h1 => ⟨(vin_n (by omega)).mpr (by omega), sp_X12_layMouths (l := lss d) (m := mre d) hM.1 hM.2.1 l9 m9 (by omega) (by omega) (by omega) (fun m2 t2 h2 => ⟨(vin_n (by omega)).mpr (by omega), ?_⟩)⟩)
  rw [nI_clamp (by omega), nI_clamp (by omega), h1 _ (by omega), h2 _ (by omega), lN_mul]
  exact h m2 t2
theorem sim_letter (hd : okP d) (hX : XS d gu le mo kk pa ga) (hM : MS d ru) (x y z w : Int32) : wp_X11_letter le mo nx wy x y z w (fun r _ _ => wp_X12_letter mo1 th1 ru x y z w (fun r' _ _ => r = r')) := by
  have l9 := hd.2.2.2.1
  have m9 := hd.2.2.2.2.1
  rw [hX.2.1, hX.2.2.1]
  have ez : vp_in z 6 ↔ 0 ≤ z ∧ z < 6 := vin_I (by decide)
  have no : ¬ (vp_in x 25 ∧ vp_in y 25 ∧ vp_in z 6 ∧ vp_in w 2) → wp_X12_letter mo1 th1 ru x y z w (fun r' _ _ => -1 = r') := fun c => by
    unfold wp_X12_letter
    exact sp_X12_isPlace (fun _ => ⟨fun _ => rfl, fun q => absurd rfl q⟩) (fun q1 => ⟨fun q => absurd q (by decide), fun _ => sp_X12_isPlace (fun _ => ⟨fun _ => rfl, fun q => absurd rfl q⟩) (fun q2 => ⟨fun q => absurd q (by decide), fun _ => sp_in0 (b := 5) (n := 6) (by decide) le_5 (fun _ => ⟨fun _ => rfl, fun q => absurd rfl q⟩) (fun q3 => ⟨fun q => absurd q (by decide), fun _ => sp_in0 (b := 1) (n := 2) (by decide) le_1 (fun _ => ⟨fun q => absurd rfl q, fun _ => rfl⟩) (fun q4 => absurd ⟨q1, q2, q3, q4⟩ c)⟩)⟩)⟩)
  unfold wp_X11_letter
  refine sp_X11_isPlace (fun c => ⟨fun _ => no (fun q => c q.1), fun q => absurd rfl q⟩) (fun c => ⟨fun q => absurd q (by decide), fun _ => sp_X11_isPlace (fun c2 => ⟨fun _ => no (fun q => c2 q.2.1), fun q => absurd rfl q⟩) (fun c2 => ⟨fun q => absurd q (by decide), fun _ => ⟨fun c3 => no (fun q => ?_), fun c3 => ⟨fun c4 => no (fun q => ?_), fun c4 => sp_X11_isHalf (fun c5 => ⟨fun q => absurd rfl q, fun _ => no (fun q => c5 q.2.2.2)⟩) (fun c5 => ⟨fun _ => ?_, fun q => absurd q (by decide)⟩)⟩⟩⟩)⟩)
  · have := (ez.mp q.2.2.1).1; rw [T_le] at this; rw [T_lt] at c3; omega
  · have := (ez.mp q.2.2.1).2; rw [T_lt] at this c4; have a1 : (6 : Int32).toInt = 6 := rfl; have a2 : (5 : Int32).toInt = 5 := rfl; omega
  · obtain ⟨p, hp, rfl⟩ := vin_ex (by decide) c
    obtain ⟨a, ha, rfl⟩ := vin_ex (by decide) c2
    obtain ⟨k, hk', rfl⟩ := nI_of c3
    have hk : k ≤ 5 := by rw [show (5 : Int32) = nI 5 from rfl, nI_ltI (by omega) (by omega)] at c4; omega
    have hz : vp_in (nI k) 6 := (vin_n (by omega)).mpr (by omega)
    have hby := byP_le hd hp ha hk
    have h10 : (20 : Nat) ^ 10 < 7540113804746346429 := by decide
    have hq := p20_lt (n := 2 * k) (by omega)
    rw [(div5 hp).1, (div5 hp).2.1, (div5 ha).2.2.2, (div5 ha).2.2.1]
    refine sp_X3_pass l9 m9 (by omega) (by omega) (by omega) (fun n1 w1 h1 => ⟨(vin_n (by omega)).mpr (by omega), sp_X3_pass l9 m9 (by omega) (by omega) (by omega) (fun n2 w2 h2 => ⟨(vin_n (by omega)).mpr (by omega), ?_⟩)⟩)
    rw [i2, pk_mul, nI_clamp (by omega), nI_clamp (by omega), h1 _ (by omega), h2 _ (by omega), lN_mul]
    refine sp_X11_power (b := 20) (by omega) (sp_X11_lowest (t := byP d p a k) (by omega) (by omega) (p20_pos _) ?_)
    unfold wp_X12_letter
    refine sp_X12_isPlace (fun q => absurd c q) (fun _ => ⟨fun q => absurd q (by decide), fun _ => sp_X12_isPlace (fun q => absurd c2 q) (fun _ => ⟨fun q => absurd q (by decide), fun _ => sp_in0 (b := 5) (n := 6) (by decide) le_5 (fun q => absurd hz q) (fun _ => ⟨fun q => absurd q (by decide), fun _ => sp_in0 (b := 1) (n := 2) (by decide) le_1 (fun q => absurd c5 q) (fun _ => ⟨fun _ => sp_X12_becomesBy hd hM hp ha hk (fun m' t' => ?_), fun q => absurd q (by decide)⟩)⟩)⟩)⟩)
    rw [i2, pk_mul]
    exact sp_X12_twenties (by omega) (sp_X12_lowest (by omega) (by omega) (p20_pos _) rfl)
/-! the likeliest -/
def amx (W : Nat → Nat) : Nat → Nat
  | 0 => 0
  | i + 1 => if W (amx W i) < W (i + 1) then i + 1 else amx W i
theorem amx_le (W : Nat → Nat) : ∀ n, amx W n ≤ n
  | 0 => Nat.le_refl 0
  | i + 1 => by have := amx_le W i; unfold amx; split <;> omega
theorem amx_ge (W : Nat → Nat) : ∀ n j, j ≤ n → W j ≤ W (amx W n)
  | 0, j, h => by rw [show j = 0 by omega]; exact Nat.le_refl _
  | i + 1, j, h => by
    have ih := amx_ge W i j
    unfold amx
    split
    · rcases Nat.lt_or_ge j (i + 1) with q | q
      · have := ih (by omega); omega
      · rw [show j = i + 1 by omega]; exact Nat.le_refl _
    · rcases Nat.lt_or_ge j (i + 1) with q | q
      · exact ih (by omega)
      · rw [show j = i + 1 by omega]; omega
theorem amx_lt (W : Nat → Nat) : ∀ n j, j < amx W n → W j < W (amx W n)
  | 0, j, h => absurd h (by unfold amx; omega)
  | i + 1, j, h => by
    have ih := amx_lt W i j
    have hg := amx_ge W i j
    unfold amx at h ⊢
    split at h
    · rename_i q; rw [if_pos q]; have := hg (by omega); omega
    · rename_i q; rw [if_neg q]; exact ih h
theorem amx_eq {W : Nat → Nat} {n p : Nat} (hp : p ≤ n) (h1 : ∀ j, j ≤ n → W j ≤ W p) (h2 : ∀ j, j < p → W j < W p) : amx W n = p := by
  have a := amx_le W n
  have b := amx_ge W n p hp
  have c := amx_lt W n p
  have e := h1 (amx W n) a
  rcases Nat.lt_trichotomy (amx W n) p with q | q | q
  · have := h2 _ q; omega
  · exact q
  · have := c q; omega
theorem sp_X3_mostWays {W : Nat → Nat} {wy' : Nat → Int64} (hb : ∀ j, j < 5 → W j < 2 ^ 63) (hw : ∀ j, j < 5 → wy' j = lN (W j)) {post : Int32 → Prop} (h : post (nI (amx W 4))) : wp_X3_mostWays wy' post := by
  unfold wp_X3_mostWays
  refine fix_0 (fun i => (nI (amx W i), nI (i + 1))) 4 rfl ?_
  intro K i hi hK
  have ha := amx_le W i
  unfold F_X3_mostWays_4
  dsimp only
  rw [i5, nI_leI (by omega) (by omega)]
  refine ⟨fun c => ?_, fun c => ?_⟩
  · have : i = 4 := by omega
    subst this; exact h
  · have hK := hK (by omega)
    rw [nI_clamp (by omega), nI_clamp (by omega), hw _ (by omega), hw _ (by omega), pk_lLT (hb _ (by omega)) (hb _ (by omega)), nI_1]
    rw [amx] at hK
    exact ⟨(vin_n (by omega)).mpr (by omega), (vin_n (by omega)).mpr (by omega), fun q => by rw [if_neg q] at hK; exact hK, fun q => by rw [if_pos q] at hK; exact hK⟩
theorem amx_pos {W : Nat → Nat} {s : Nat} (hs : 0 < s) (h : W 0 + W 1 + W 2 + W 3 + W 4 = s) : 0 < W (amx W 4) := by
  have a0 := amx_ge W 4 0 (by omega); have a1 := amx_ge W 4 1 (by omega); have a2 := amx_ge W 4 2 (by omega); have a3 := amx_ge W 4 3 (by omega); have a4 := amx_ge W 4 4 (by omega)
  omega
theorem amx_prod {R C : Nat → Nat} (hR : 0 < R (amx R 4)) (hC : 0 < C (amx C 4)) : amx (fun a => R (a / 5) * C (a % 5)) 24 = 5 * amx R 4 + amx C 4 := by
  have r4 := amx_le R 4
  have c4 := amx_le C 4
  have e1 : (5 * amx R 4 + amx C 4) / 5 = amx R 4 := by omega
  have e2 : (5 * amx R 4 + amx C 4) % 5 = amx C 4 := by omega
  refine amx_eq (by omega) (fun j hj => ?_) (fun j hj => ?_)
  · show R (j / 5) * C (j % 5) ≤ R ((5 * amx R 4 + amx C 4) / 5) * C ((5 * amx R 4 + amx C 4) % 5)
    rw [e1, e2]
    exact Nat.mul_le_mul (amx_ge R 4 _ (by omega)) (amx_ge C 4 _ (by omega))
  · show R (j / 5) * C (j % 5) < R ((5 * amx R 4 + amx C 4) / 5) * C ((5 * amx R 4 + amx C 4) % 5)
    rw [e1, e2]
    rcases Nat.lt_or_ge (j / 5) (amx R 4) with q | q
    · exact Nat.lt_of_le_of_lt (Nat.mul_le_mul_left _ (amx_ge C 4 _ (by omega))) (Nat.mul_lt_mul_of_pos_right (amx_lt R 4 _ q) hC)
    · have e : j / 5 = amx R 4 := by omega
      rw [e]
      exact Nat.mul_lt_mul_of_pos_left (amx_lt C 4 _ (by omega)) hR
theorem sim_becomes (hd : okP d) (hX : XS d gu le mo kk pa ga) (hM : MS d ru) (x y : Int32) : wp_X11_becomes le mo nx wy x y (fun r _ _ => wp_X12_becomes mo1 th1 ru x y (fun r' _ _ => r = r')) := by
  have l9 := hd.2.2.2.1
  have m9 := hd.2.2.2.2.1
  rw [hX.2.1, hX.2.2.1]
  have ez : vp_in y 6 ↔ 0 ≤ y ∧ y < 6 := vin_I (by decide)
  have no : ¬ (vp_in x 25 ∧ vp_in y 6) → wp_X12_becomes mo1 th1 ru x y (fun r' _ _ => -1 = r') := fun c => by
    unfold wp_X12_becomes
    exact sp_X12_isPlace (fun _ => ⟨fun _ => rfl, fun q => absurd rfl q⟩) (fun q1 => ⟨fun q => absurd q (by decide), fun _ => sp_in0 (b := 5) (n := 6) (by decide) le_5 (fun _ => ⟨fun q => absurd rfl q, fun _ => rfl⟩) (fun q2 => absurd ⟨q1, q2⟩ c)⟩)
  unfold wp_X11_becomes
  refine sp_X11_isPlace (fun c => ⟨fun _ => no (fun q => c q.1), fun q => absurd rfl q⟩) (fun c => ⟨fun q => absurd q (by decide), fun _ => ⟨fun c2 => no (fun q => ?_), fun c2 => ⟨fun c3 => ?_, fun c3 => no (fun q => ?_)⟩⟩⟩)
  · have := (ez.mp q.2).1; rw [T_le] at this; rw [T_lt] at c2; omega
  · obtain ⟨p, hp, rfl⟩ := vin_ex (by decide) c
    obtain ⟨k, hk', rfl⟩ := nI_of c2
    have hk : k ≤ 5 := by rw [show (5 : Int32) = nI 5 from rfl, nI_leI (by omega) (by omega)] at c3; omega
    have hz : vp_in (nI k) 6 := (vin_n (by omega)).mpr (by omega)
    have h10 : (20 : Nat) ^ 10 < 2 ^ 62 := by decide
    have hby := fun a ha => byP_le hd hp (as := a) ha hk
    have hq := p20_lt (n := k) (by omega)
    have sR := MWs_sum (lss d) (mre d) (p / 5 + 1) (by omega) (by omega) (by omega) k
    have sC := MWs_sum (lss d) (mre d) (p % 5 + 1) (by omega) (by omega) (by omega) k
    have bR : ∀ j, j < 5 → MWs (lss d) (mre d) (p / 5 + 1) k j < 2 ^ 63 := fun j hj => by have := MWs_le (l := lss d) (m := mre d) (n := p / 5 + 1) (k := k) (j := j) (by omega) (by omega) (by omega) hj; omega
    have bC : ∀ j, j < 5 → MWs (lss d) (mre d) (p % 5 + 1) k j < 2 ^ 63 := fun j hj => by have := MWs_le (l := lss d) (m := mre d) (n := p % 5 + 1) (k := k) (j := j) (by omega) (by omega) (by omega) hj; omega
    have e := amx_prod (amx_pos (p20_pos k) sR) (amx_pos (p20_pos k) sC)
    have r4 := amx_le (MWs (lss d) (mre d) (p / 5 + 1) k) 4
    have c4 := amx_le (MWs (lss d) (mre d) (p % 5 + 1) k) 4
    rw [(div5 hp).1, (div5 hp).2.1]
    refine sp_X3_pass l9 m9 (by omega) (by omega) (by omega) (fun n1 w1 h1 => sp_X3_mostWays bR h1 (sp_X3_pass l9 m9 (by omega) (by omega) (by omega) (fun n2 w2 h2 => sp_X3_mostWays bC h2 ?_)))
    rw [i5, pk_mul, nI_add, ← e]
    unfold wp_X12_becomes
    refine sp_X12_isPlace (fun q => absurd c q) (fun _ => ⟨fun q => absurd q (by decide), fun _ => sp_in0 (b := 5) (n := 6) (by decide) le_5 (fun q => absurd hz q) (fun _ => ⟨fun _ => ?_, fun q => absurd q (by decide)⟩)⟩)
    refine fix_iv (fun i v => v.2.2.1 = nI i ∧ ((i = 0 ∧ v.1 = 0 ∧ v.2.1 = -1) ∨ (1 ≤ i ∧ v.1 = nI (amx (fun a => byP d p a k) (i - 1)) ∧ v.2.1 = lN (byP d p (amx (fun a => byP d p a k) (i - 1)) k)))) 25 (fun K i v hi hI hK => ?_) 0 (by omega) ⟨rfl, Or.inl ⟨rfl, rfl, rfl⟩⟩
    obtain ⟨v1, v2, v3, v4, v5⟩ := v
    dsimp only at hI
    obtain ⟨e3, hI⟩ := hI
    subst e3
    unfold F_X12_becomes_31
    dsimp only
    rw [i25, nI_leI (by omega) (by omega)]
    refine ⟨fun q => ?_, fun q => sp_X12_becomesBy hd hM hp (by omega) hk (fun m' t' => ?_)⟩
    · have : i = 25 := by omega
      subst this
      rcases hI with ⟨z, -⟩ | ⟨-, z, -⟩
      · exact absurd z (by omega)
      · rw [z]; rfl
    · have hK := hK (by omega)
      unfold B_X12_becomes_62
      rw [nI_1]
      have hbi := hby i (by omega)
      rcases hI with ⟨z, z1, z2⟩ | ⟨z, z1, z2⟩
      · subst z; subst z1; subst z2
        have lt : (-1 : Int64) < lN (byP d p 0 k) := by
          rw [Int64.lt_iff_toInt_lt, lN_T (by omega)]; exact Int.lt_of_lt_of_le (by decide) (Int.natCast_nonneg _)
        exact ⟨fun q => absurd lt q, fun _ => ⟨fun q => absurd lt q, fun _ => hK _ ⟨rfl, Or.inr ⟨by omega, rfl, rfl⟩⟩⟩⟩
      · subst z1; subst z2
        have ha := amx_le (fun a => byP d p a k) (i - 1)
        have hba := hby (amx (fun a => byP d p a k) (i - 1)) (by omega)
        rw [pk_lLT (by omega) (by omega)]
        have es : amx (fun a => byP d p a k) (i + 1 - 1) = if byP d p (amx (fun a => byP d p a k) (i - 1)) k < byP d p i k then i else amx (fun a => byP d p a k) (i - 1) := by
          rw [show i + 1 - 1 = (i - 1) + 1 by omega, amx, show i - 1 + 1 = i by omega]
        refine ⟨fun w => ⟨fun _ => hK _ ⟨rfl, Or.inr ⟨by omega, ?_, ?_⟩⟩, fun w2 => absurd w2 w⟩, fun w => ⟨fun w2 => absurd w w2, fun _ => hK _ ⟨rfl, Or.inr ⟨by omega, ?_, ?_⟩⟩⟩⟩
        · dsimp only; rw [es, if_neg w]
        · dsimp only; rw [es, if_neg w]
        · dsimp only; rw [es, if_pos w]
        · dsimp only; rw [es, if_pos w]
  · have := (ez.mp q.2).2; rw [T_lt] at this; rw [T_le] at c3; have a1 : (6 : Int32).toInt = 6 := rfl; have a2 : (5 : Int32).toInt = 5 := rfl; omega
end
