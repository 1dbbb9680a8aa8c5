section
variable {d : PD} {T : Nat → Nat} {w L : Nat} {gu le mo kk pa ga width size hs aw : Int32} {ru wo st lens lets wts ln pl hc kn may : Nat → Int32} {D : Nat → Nat → Int64} {Kn : Nat → Nat → Int32}
theorem sp_X12_chanceBy (hd : okP d) (hR : MS d ru) (hM : MW d ru wo) (hst : MT 0 T st) (hT : okT T) (hcv : cov d T) {m : Nat → Nat} {v : Nat} (hv : v < nw d) (hvw : wl d v = wl d w) (hw3 : wl d w ≤ 3) (hL : L ≤ 6) (hm : ∀ c, c < L → may c = nI (m c) ∧ m c ≤ 7) {post : Int64 → Prop} (h : post (lN (prv d T w m v L))) : wp_X12_chanceBy wo st may ru (nI v) (nI L) post := by
  have h10 := hd.1
  have h8 := hd.2.2.2.2.2.2.1 v hv
  unfold wp_X12_chanceBy
  refine fix_0 (fun i => (lN (prv d T w m v i), nI i)) L rfl ?_
  intro K i hi hK
  unfold F_X12_chanceBy_5
  dsimp only
  rw [nI_leI (by omega) (by omega)]
  refine ⟨fun c => ?_, fun c => sp_X12_size hd hM hv ?_⟩
  · have : i = L := by omega
    subst this; exact h
  · have hml := Nat.mod_lt i (show 0 < 2 * wl d w by omega)
    have hK := hK (by omega)
    have hmi := hm i (by omega)
    have hc5 := cnt_rng hcv hv (c := i % (2 * wl d w)) (by omega)
    have hle := hrs_le (l := lss d) (m := mre d) (c := cnt d T v (i % (2 * wl d w))) (x := m i) hd.2.2.2.1 hd.2.2.2.2.1
    rw [i2, pk_mul, hvw, i0, nI_eq (by omega) (by omega), pk_rem (by omega) (by omega) (by omega), nI_clamp (by omega), hmi.1]
    refine ⟨by omega, sp_X12_cnt hd hM hst hT hcv hv (by omega) ⟨(vin_n (by omega)).mpr (by omega), sp_hrs (l := lss d) (m := mre d) hR.1 hR.2.1 hd.2.2.2.1 hd.2.2.2.2.1 (by omega) (by omega) ?_⟩⟩
    rw [nI_l (by omega), lN_mul, nI_1]
    exact hK
theorem prv_le (hd : okP d) {m : Nat → Nat} {v n : Nat} (hn : n ≤ 6) : prv d T w m v n ≤ 20 ^ 6 := by
  have h2 := prodN_le (f := fun c => hrs (lss d) (mre d) (cnt d T v (c % (2 * wl d w))) (m c)) (b := 20) n (fun k _ => hrs_le hd.2.2.2.1 hd.2.2.2.2.1)
  exact Nat.le_trans h2 (Nat.pow_le_pow_right (by omega) hn)
/-- the first that is greatest, told by comparing -/
def bt (f : Nat → Nat) (w n : Nat) : Prop := 0 < f w ∧ ∀ v, v < n → v ≠ w → f v < f w ∨ (f v = f w ∧ w < v)
theorem tpN_ge (f : Nat → Nat) : ∀ n v, v < n → f v ≤ (tpN f n).2
  | 0, v, h => absurd h (by omega)
  | n + 1, v, h => by
    have ih := tpN_ge f n v
    unfold tpN; split
    · rename_i q
      rcases Nat.lt_or_ge v n with z | z
      · have := ih z; simp only; omega
      · rw [show v = n by omega]; exact Nat.le_refl _
    · rename_i q
      rcases Nat.lt_or_ge v n with z | z
      · exact ih z
      · rw [show v = n by omega]; omega
theorem tpN_lt (f : Nat → Nat) : ∀ n v, v + 1 < (tpN f n).1 → f v < (tpN f n).2
  | 0, v, h => absurd h (by unfold tpN; simp only; omega)
  | n + 1, v, h => by
    have ih := tpN_lt f n v
    have hg := tpN_ge f n v
    unfold tpN at h ⊢
    split at h
    · rename_i q; rw [if_pos q]
      have := hg (by simp only at h; omega); simp only; omega
    · rename_i q; rw [if_neg q]; exact ih h
theorem bt_iff {f : Nat → Nat} {w n : Nat} (hw : w < n) : (tpN f n).1 = w + 1 ↔ bt f w n := by
  have h2 := tpN_2 f n
  have hle := tpN_le f n
  constructor
  · intro e
    rcases h2 with z | z
    · omega
    · have e2 : (tpN f n).2 = f w := by rw [z.2.1, e]; rfl
      refine ⟨by omega, fun v hv hvw => ?_⟩
      have g := tpN_ge f n v hv
      rcases Nat.lt_or_ge v w with q | q
      · have := tpN_lt f n v (by omega); left; omega
      · omega
  · intro ⟨b1, b2⟩
    have gw := tpN_ge f n w hw
    rcases h2 with z | z
    · omega
    · obtain ⟨t, ht⟩ : ∃ t, t = (tpN f n).1 - 1 := ⟨_, rfl⟩
      rw [← ht] at z
      by_cases q : t = w
      · omega
      · have := b2 t (by omega) q
        have l := tpN_lt f n w
        omega
theorem sp_X12_isRead (hd : okP d) (hR : MS d ru) (hM : MW d ru wo) (hst : MT 0 T st) (hT : okT T) (hcv : cov d T) {m : Nat → Nat} (hw : w < nw d) (hw3 : wl d w ≤ 3) (hL : L ≤ 6) (hm : ∀ c, c < L → may c = nI (m c) ∧ m c ≤ 7) {post : Int32 → Prop} (h0 : ¬ (tpN (vlp d T w L m) (nw d)).1 = w + 1 → post 0) (h1 : (tpN (vlp d T w L m) (nw d)).1 = w + 1 → post 1) : wp_X12_isRead wo st may ru (nI w) (nI L) post := by
  rw [bt_iff hw] at h0 h1
  have h10 := hd.1
  have h8 := hd.2.2.2.2.2.2.1 w hw
  have v5 : vp_in 5 8 := by unfold vp_in; decide
  have hp := prv_le (T := T) (w := w) (m := m) (v := w) hd hL
  unfold wp_X12_isRead
  refine sp_X12_chanceBy hd hR hM hst hT hcv hw rfl hw3 hL hm ?_
  have ev : vlp d T w L m w = prv d T w m w L * ww d w := by unfold vlp; rw [if_pos rfl, Nat.mul_comm]
  have hb := vlp_le (T := T) (w := w) (m := m) hd hw hL
  rw [i10, i9, pk_mul, nI_add, nI_clamp (by omega), (hM.2 w hw).2.1, nI_l (by omega), lN_mul, ← ev, j0, pk_lLT (by decide) (by omega)]
  have key : ∀ b : Nat, (b = 0 ∨ b = 1) → (b = 1 ↔ 0 < vlp d T w L m w) → ∃ n, fixN (F_X12_isRead_37 wo st may ru (nI w) (nI L) (lN (vlp d T w L m w)) post) n (nI b, 0) := fun b hb01 hb0 => by
    refine fix_iv (fun i v => v.2 = nI i ∧ ∃ a : Nat, v.1 = nI a ∧ (a = 0 ∨ a = 1) ∧ (a = 1 ↔ (0 < vlp d T w L m w ∧ ∀ v, v < i → v ≠ w → vlp d T w L m v < vlp d T w L m w ∨ (vlp d T w L m v = vlp d T w L m w ∧ w < v)))) (nw d) (fun K i v hi hI hK => ?_) 0 (by omega) ⟨rfl, b, rfl, hb01, by rw [hb0]; exact ⟨fun q => ⟨q, fun v hv => absurd hv (by omega)⟩, fun q => q.1⟩⟩
    obtain ⟨x5, x6⟩ := v
    obtain ⟨e1, a, e2, a01, ha⟩ := hI
    dsimp only at e1 e2
    subst e1; subst e2
    unfold F_X12_isRead_37
    dsimp only
    rw [show (5 : Int32).toNatClampNeg = 5 from rfl, hM.1, nI_leI (by omega) (by omega)]
    refine ⟨v5, fun q => ?_, fun q => ?_⟩
    · have : i = nw d := by omega
      subst this
      rcases a01 with rfl | rfl
      · exact ⟨Or.inl rfl, h0 (fun z => absurd (ha.mpr z) (by decide))⟩
      · exact ⟨Or.inr rfl, h1 (ha.mp rfl)⟩
    · have hK := hK (by omega)
      have h8i := hd.2.2.2.2.2.2.1 i (by omega)
      have step : ∀ a', (a' = 0 ∨ a' = 1) → (a' = 1 ↔ (a = 1 ∧ (i ≠ w → vlp d T w L m i < vlp d T w L m w ∨ (vlp d T w L m i = vlp d T w L m w ∧ w < i)))) → K (nI a', nI (i + 1)) := fun a' a'01 ha' => hK _ ⟨rfl, a', rfl, a'01, by
        rw [ha', ha]
        constructor
        · rintro ⟨⟨z1, z2⟩, z3⟩
          refine ⟨z1, fun v hv hvw => ?_⟩
          rcases Nat.lt_or_ge v i with q | q
          · exact z2 v q hvw
          · have : v = i := by omega
            subst this; exact z3 hvw
        · rintro ⟨z1, z2⟩
          exact ⟨⟨z1, fun v hv hvw => z2 v (by omega) hvw⟩, fun hvw => z2 i (by omega) hvw⟩⟩
      refine sp_X12_size hd hM (by omega) (sp_X12_size hd hM hw ?_)
      rw [nI_eq (by omega) (by omega), nI_eq (by omega) (by omega), nI_1]
      refine ⟨fun z => step a a01 ?_, fun z => ⟨fun z2 => step a a01 ?_, fun z2 => sp_X12_chanceBy hd hR hM hst hT hcv (by omega) z hw3 hL hm ?_⟩⟩
      · have e0 : vlp d T w L m i = 0 := by unfold vlp; rw [if_neg z]
        refine ⟨fun q => ⟨q, fun _ => Or.inl ?_⟩, fun q => q.1⟩
        have := (ha.mp q).1; omega
      · exact ⟨fun q => ⟨q, fun z3 => absurd z2 z3⟩, fun q => q.1⟩
      · have evi : vlp d T w L m i = prv d T w m i L * ww d i := by unfold vlp; rw [if_pos z, Nat.mul_comm]
        have hbi := vlp_le (T := T) (w := w) (m := m) hd (show i < nw d by omega) hL
        rw [i10, i9, pk_mul, nI_add, nI_clamp (by omega), (hM.2 i (by omega)).2.1, nI_l (by omega), lN_mul, ← evi, pk_lLT (by omega) (by omega), pk_lEQ (by omega) (by omega), nI_leI (by omega) (by omega), i0, nI_eq (by omega) (by omega)]
        refine ⟨(vin_n (by omega)).mpr (by omega), fun q0 => step 0 (Or.inl rfl) (by omega), fun q0 => ⟨fun q1 => step 1 (Or.inr rfl) (by omega), fun q1 => ⟨fun q2 => step 0 (Or.inl rfl) (by omega), fun q2 => ⟨fun q3 => step 0 (Or.inl rfl) (by omega), fun q3 => step 1 (Or.inr rfl) (by omega)⟩⟩⟩⟩
  exact ⟨(vin_n (by omega)).mpr (by omega), fun q => key 0 (Or.inl rfl) (by omega), fun q => key 1 (Or.inr rfl) (by omega)⟩
def gm (d : PD) (T : Nat → Nat) (w L : Nat) (m : Nat → Nat) : Nat := if (tpN (vlp d T w L m) (nw d)).1 = w + 1 then prv d T w m w L else 0
theorem gd_gm (m : Nat → Nat) : gd d T w L m = ww d w * gm d T w L m := by
  unfold gd gm
  split
  · unfold vlp; rw [if_pos rfl]
  · rw [Nat.mul_zero]
theorem sumN_mul {f : Nat → Nat} {k : Nat} : ∀ n, sumN (fun i => k * f i) n = k * sumN f n
  | 0 => rfl
  | n + 1 => by rw [sumN, sumN, sumN_mul n, Nat.mul_add]
def Gm (d : PD) (T : Nat → Nat) (w L : Nat) : Nat := sumN (fun i => gm d T w L (ext d T w L 0 (fun _ => 0) i)) (3 ^ L)
theorem Gs_Gm : Gs d T w L L 0 (fun _ => 0) = ww d w * Gm d T w L := by
  unfold Gs Gm
  rw [← sumN_mul]
  exact sumN_cong _ (fun i _ => gd_gm _)
theorem gm_le (hd : okP d) (hL : L ≤ 6) (m : Nat → Nat) : gm d T w L m ≤ 20 ^ 6 := by
  unfold gm; split
  · exact prv_le hd hL
  · exact Nat.zero_le _
theorem p3 {n : Nat} (h : n ≤ 6) : 3 ^ n ≤ 729 := Nat.le_trans (Nat.pow_le_pow_right (by omega) h) (by decide)
theorem Gm_le (hd : okP d) (hL : L ≤ 6) : Gm d T w L ≤ 729 * 20 ^ 6 :=
  Nat.le_trans (sumN_le (b := 20 ^ 6) _ (fun i _ => gm_le hd hL _)) (Nat.mul_le_mul_right _ (p3 hL))
theorem sim_right (hd : okP d) (hS : XS d gu le mo kk pa ga) (hX : XW d width size lens lets wts) (hR : MS d ru) (hM : MW d ru wo) (h : RI d aw st ln pl hs hc kn) (x y z : Int32) : wp_X11_right 10 80 le mo width size lens D Kn lets pl wts x y z (fun r _ _ => wp_X12_right aw st ru wo may x y z (fun r' aw' st' _ => r = r' ∧ RI d aw' st' ln pl hs hc kn ∧ KS st st' aw aw')) := by
  have h10 := hd.1
  obtain ⟨T, H, N, hn, h1, h2, h3, h4, h5⟩ := h
  unfold wp_X11_right
  have hsz := hX.1.2.1
  have ez : vp_in (y - 1) 3 ↔ 0 ≤ y - 1 ∧ y - 1 < 3 := vin_I (by decide)
  rw [show wp_X11_isWord size = wp_X11_isWord (nI (nw d)) by rw [hsz]]
  have noy : vp_in x (nw d) → ¬ vp_in (y - 1) 3 → wp_X12_right aw st ru wo may x y z (fun r' aw' st' _ => -1 = r' ∧ RI d aw' st' ln pl hs hc kn ∧ KS st st' aw aw') := fun c c2 => by
    unfold wp_X12_right
    exact aw2 h1 h2 h3 h4 h5 (fun st' m1 m2 m3 m4 m5 => sp_X12_isWord (by omega) hM.1 (fun q => absurd c q) (fun _ => ⟨fun q => absurd q (by decide), fun _ => sp_in1 (n := 3) (b := 3) (by decide) rfl (fun _ => ⟨fun _ => ⟨rfl, m4, m5⟩, fun q => absurd rfl q⟩) (fun q => absurd q c2)⟩))
  refine sp_X11_isWord (by omega) (fun c => ⟨fun _ => ?_, fun q => absurd rfl q⟩) (fun c => ⟨fun q => absurd q (by decide), fun _ => ⟨fun y1 => noy c (by rw [ez]; grind), fun y1 => ⟨fun y2 => noy c (by rw [ez]; grind), fun y2 => sp_X11_isHalf (fun c3 => ⟨fun q => absurd rfl q, fun _ => ?_⟩) (fun c3 => ⟨fun _ => ?_, fun q => absurd q (by decide)⟩)⟩⟩⟩)
  · unfold wp_X12_right
    exact aw2 h1 h2 h3 h4 h5 (fun st' m1 m2 m3 m4 m5 => sp_X12_isWord (by omega) hM.1 (fun _ => ⟨fun _ => ⟨rfl, m4, m5⟩, fun q => absurd rfl q⟩) (fun q => absurd q c))
  · have c2 : vp_in (y - 1) 3 := by rw [ez]; grind
    unfold wp_X12_right
    exact aw2 h1 h2 h3 h4 h5 (fun st' m1 m2 m3 m4 m5 => sp_X12_isWord (by omega) hM.1 (fun q => absurd c q) (fun _ => ⟨fun q => absurd q (by decide), fun _ => sp_in1 (n := 3) (b := 3) (by decide) rfl (fun q => absurd c2 q) (fun _ => ⟨fun q => absurd q (by decide), fun _ => sp_in0 (b := 1) (n := 2) (by decide) le_1 (fun _ => ⟨fun q => absurd rfl q, fun _ => ⟨rfl, m4, m5⟩⟩) (fun q => absurd q c3)⟩)⟩))
  · have c2 : vp_in (y - 1) 3 := by rw [ez]; grind
    obtain ⟨w, hw, rfl⟩ := vin_ex (by omega) c
    obtain ⟨n, hn1, hn3, rfl⟩ := vin1_ex (by decide) c2
    have h8 := hd.2.2.2.2.2.2.1 w hw
    have hwn : wl d w * n ≤ 8 * 3 := Nat.mul_le_mul h8.2.1 hn3
    have pre : ∀ r, (∀ st' : Nat → Int32, MT 0 T st' → RI d 1 st' ln pl hs hc kn → KS st st' aw 1 → ((wl d w * n ≤ 3 → wp_X12_size wo (nI w) (fun r10 => (∃ n', fixN (F_X12_right_73 ru wo (nI w) z ((2 * r10) * nI n) 1 st' may (fun r' aw' st' _ => r = r' ∧ RI d aw' st' ln pl hs hc kn ∧ KS st st' aw aw')) n' (1, 1, 0)))) ∧ (¬ wl d w * n ≤ 3 → r = -2))) → wp_X12_right aw st ru wo may (nI w) (nI n) z (fun r' aw' st' _ => r = r' ∧ RI d aw' st' ln pl hs hc kn ∧ KS st st' aw aw') := fun r hr => by
      unfold wp_X12_right
      refine aw2 h1 h2 h3 h4 h5 (fun st' m1 m2 m3 m4 m5 => sp_X12_isWord (by omega) hM.1 (fun q => absurd c q) (fun _ => ⟨fun q => absurd q (by decide), fun _ => sp_in1 (n := 3) (b := 3) (by decide) rfl (fun q => absurd c2 q) (fun _ => ⟨fun q => absurd q (by decide), fun _ => sp_in0 (b := 1) (n := 2) (by decide) le_1 (fun q => absurd c3 q) (fun _ => ⟨fun _ => sp_X12_size hd hM hw ?_, fun q => absurd q (by decide)⟩)⟩)⟩))
      rw [pk_mul, i3, nI_leI (by omega) (by omega)]
      exact ⟨fun q => (hr st' m1 m4 m5).1 q, fun q => ⟨(hr st' m1 m4 m5).2 q, m4, m5⟩⟩
    refine sp_X4_lengthOf hX.1 hw ?_
    rw [pk_mul, i3, nI_leI (by omega) (by omega)]
    refine ⟨fun q => ?_, fun q => pre _ (fun st' _ _ _ => ⟨fun q2 => absurd q2 q, fun _ => rfl⟩)⟩
    have hwn1 : wl d w ≤ wl d w * n := Nat.le_mul_of_pos_right _ (by omega)
    have hL6 : 2 * wl d w * n ≤ 6 := by rw [Nat.mul_assoc]; omega
    have hGm := Gm_le (T := T) (w := w) hd hL6
    have hGw := Nat.mul_le_mul h8.2.2.2.1 hGm
    have h20 : 20 ^ (2 * wl d w * n) ≤ 20 ^ 6 := Nat.pow_le_pow_right (by omega) hL6
    have h20w := Nat.mul_le_mul h8.2.2.2.1 h20
    have h20p := p20_pos (2 * wl d w * n)
    refine sp_X1_readRight hd hS hX h3.2.1 h2 hw hn1 hn3 q (fun D' K' => ⟨(vin_n (by omega)).mpr (by omega), ?_⟩)
    rw [i2, pk_mul, nI_clamp (by omega), hX.2 w hw, nI_l (by omega), Gs_Gm, ← Nat.mul_assoc]
    refine sp_X11_power (b := 20) (by omega) ?_
    rw [lN_mul]
    refine sp_X11_lowest (by omega) (by omega) (Nat.mul_pos (by omega) h20p) (pre _ (fun st' m1 m4 m5 => ⟨fun _ => sp_X12_size hd hM hw ?_, fun q2 => absurd q q2⟩))
    rw [low_mul (by omega), i2, pk_mul, pk_mul]
    generalize hLe : 2 * wl d w * n = L at *
    have h3L := p3 hL6
    refine fix_0 (fun i => (nI (3 ^ i), lN (20 ^ i), nI i)) L rfl ?_
    intro K i hi hK
    unfold F_X12_right_73
    dsimp only
    rw [nI_leI (by omega) (by omega)]
    refine ⟨fun q => ?_, fun q => by rw [i3, pk_mul, show (20 : Int64) = lN 20 from rfl, lN_mul, nI_1, ← Nat.pow_succ, ← Nat.pow_succ]; exact hK (by omega)⟩
    have : i = L := by omega
    subst this
    refine fix_iv (fun j v => v.1 = lN (sumN (fun i' => gm d T w i (ext d T w i 0 (fun _ => 0) i')) j) ∧ v.2.1 = nI j) (3 ^ i) (fun K' j v hj hI hK' => ?_) 0 (Nat.zero_le _) ⟨rfl, rfl⟩
    obtain ⟨x8, x10, may1⟩ := v
    obtain ⟨e1, e2⟩ := hI
    dsimp only at e1 e2
    subst e1; subst e2
    unfold F_X12_right_106
    dsimp only
    rw [nI_leI (by omega) (by omega)]
    refine ⟨fun q => ?_, fun q => ?_⟩
    · have : j = 3 ^ i := by omega
      subst this
      exact sp_X12_lowest (t := Gm d T w i) (by omega) (by omega) h20p ⟨rfl, m4, m5⟩
    · refine fix_iv (fun c v => v.2.1 = nI c ∧ ∃ (mm : Nat → Nat) (t : Nat), v.1 = nI t ∧ t < 729 ∧ (∀ c', c' < c → v.2.2 c' = nI (mm c') ∧ mm c' ≤ 7) ∧ ext d T w (i - c) c mm t = ext d T w i 0 (fun _ => 0) j) i (fun K2 c v hc hI hK2 => ?_) 0 (by omega) ⟨rfl, fun _ => 0, j, rfl, by omega, fun c' hc' => absurd hc' (by omega), rfl⟩
      obtain ⟨x11, x12, may2⟩ := v
      obtain ⟨f1, mm, t, f2, f3, f4, f5⟩ := hI
      dsimp only at f1 f2 f4
      subst f1; subst f2
      unfold F_X12_right_120
      dsimp only
      rw [nI_leI (by omega) (by omega)]
      refine ⟨fun q2 => ?_, fun q2 => sp_X12_size hd hM hw ?_⟩
      · have : c = i := by omega
        subst this
        rw [Nat.sub_self] at f5
        have f5 : mm = _ := f5
        rw [nI_1]
        have hs : sumN (fun i' => gm d T w c (ext d T w c 0 (fun _ => 0) i')) (j + 1) = sumN (fun i' => gm d T w c (ext d T w c 0 (fun _ => 0) i')) j + gm d T w c mm := by rw [f5]; rfl
        refine sp_X12_isRead hd hR hM m1 h1.1 h2 hw (by omega) hL6 f4 (fun z0 => ⟨fun _ => hK' (by omega) _ ⟨?_, rfl⟩, fun q => absurd rfl q⟩) (fun z0 => ⟨fun q => absurd q (by decide), fun _ => sp_X12_chanceBy hd hR hM m1 h1.1 h2 hw rfl (by omega) hL6 f4 (hK' (by omega) _ ⟨?_, rfl⟩)⟩)
        · dsimp only; rw [hs]; unfold gm; rw [if_neg z0]; exact Int64.add_zero _
        · dsimp only; rw [hs, lN_add]; unfold gm; rw [if_pos z0]
      · have hml := Nat.mod_lt c (show 0 < 2 * wl d w by omega)
        have hc5 : 1 ≤ cw d T w c ∧ cw d T w c ≤ 5 := cnt_rng h2 hw hml
        rw [i2, pk_mul, i0, nI_eq (by omega) (by omega), pk_rem (by omega) (by omega) (by omega), i3, pk_rem (by omega) (by omega) (by omega), pk_div (by omega) (by omega) (by omega), nI_clamp (by omega), nI_1]
        refine ⟨by omega, sp_X12_cnt hd hM m1 h1.1 h2 hw hml ⟨(vin_n (by omega)).mpr (by omega), hK2 (by omega) _ ⟨rfl, upN mm c (cw d T w c + t % 3 - 1), t / 3, rfl, by omega, fun c' hc' => ?_, ?_⟩⟩⟩
        · dsimp only
          rcases Nat.lt_or_ge c' c with z0 | z0
          · rw [pk_un (by omega), upN_n (by omega)]; exact f4 c' z0
          · have : c' = c := by omega
            subst this
            rw [pk_us, upN_s]
            refine ⟨?_, by omega⟩
            show nI (cw d T w c') + nI (t % 3) - 1 = _
            rw [nI_add, i1, pk_sub (by omega)]
        · rw [← f5, show i - c = (i - (c + 1)) + 1 by omega]; rfl
end
