section
variable {d : PD} {T H N : Nat → Nat} {hn : Nat} {aw width size hs : Int32} {ru wo st lens lets wts le pl hc kn ms wk : Nat → Int32}
theorem bit_J {n k : Nat} (hn : n < 2 ^ 31) (hk : k < 32) : ((nI n >>> (nI k &&& 31)) &&& 1 : Int32) = 1 ↔ n.testBit k = true := by
  rw [pk_shrN hn (nI k &&& 31) k (s_l k (by omega)), pk_andN (n := n / 2 ^ k) (Nat.lt_of_le_of_lt (Nat.div_le_self _ _) (by omega)) (m := 1) 1 rfl, i1, nI_eq (by omega) (by omega), Nat.testBit_eq_decide_div_mod_eq, decide_eq_true_iff]
theorem p10 (hd : okP d) : 2 ^ nw d ≤ 1024 := Nat.le_trans (Nat.pow_le_pow_right (by omega) hd.1) (by decide)
/-- what stands after the choices below c -/
def tch (d : PD) (T : Nat → Nat) (c : Nat) (x3 x4 : Int32) : Prop := (x3 = 0 ∧ x4 = -4 ∧ ∀ c', c' < c → ¬ Lc d c' (nw d) = alm d) ∨ ∃ b, b < c ∧ Lc d b (nw d) = alm d ∧ x3 = nI b ∧ x4 = nI (Kc d T b (nw d)) ∧ ∀ c', c' < c → Lc d c' (nw d) = alm d → Pk d T b ≤ Pk d T c'
theorem B142 {x2 : Int32} {x3 x4 x5 x6 x7 z0 : Int32} {K : (Int32 × Int32 × Int32) → Prop} (h0 : (¬ x6 = x2 ∨ z0 = 0) → K (x3, x4, x5 + 1)) (h1 : x6 = x2 → ¬ z0 = 0 → K (x5, x7, x5 + 1)) : B_X12_teach_142 x2 x3 x4 x5 x6 x7 z0 K := by
  unfold B_X12_teach_142
  exact ⟨fun q => h0 (Or.inl q), fun q => ⟨fun q2 => h0 (Or.inr q2), fun q2 => h1 q q2⟩⟩
theorem tch_skip {c : Nat} {x3 x4 : Int32} (h : tch d T c x3 x4) (hc : ¬ Lc d c (nw d) = alm d) : tch d T (c + 1) x3 x4 := by
  have up : ∀ c', c' < c + 1 → Lc d c' (nw d) = alm d → c' < c := fun c' h1 h2 => by
    rcases Nat.lt_or_ge c' c with z | z
    · exact z
    · rw [show c' = c by omega] at h2; exact absurd h2 hc
  rcases h with ⟨a, b, h⟩ | ⟨b, h1, h2, h3, h4, h5⟩
  · exact Or.inl ⟨a, b, fun c' hc' z => h c' (up c' hc' z) z⟩
  · exact Or.inr ⟨b, by omega, h2, h3, h4, fun c' hc' z => h5 c' (up c' hc' z) z⟩
theorem tch_keep {b c : Nat} (h1 : b < c) (h2 : Lc d b (nw d) = alm d) (h5 : ∀ c', c' < c → Lc d c' (nw d) = alm d → Pk d T b ≤ Pk d T c') (hle : Pk d T b ≤ Pk d T c) : tch d T (c + 1) (nI b) (nI (Kc d T b (nw d))) := by
  refine Or.inr ⟨b, by omega, h2, rfl, rfl, fun c' hc' z => ?_⟩
  rcases Nat.lt_or_ge c' c with y | y
  · exact h5 c' y z
  · rw [show c' = c by omega]; exact hle
theorem tch_take {c : Nat} (h2 : Lc d c (nw d) = alm d) (h5 : ∀ c', c' < c → Lc d c' (nw d) = alm d → Pk d T c ≤ Pk d T c') : tch d T (c + 1) (nI c) (nI (Kc d T c (nw d))) := by
  refine Or.inr ⟨c, by omega, h2, rfl, rfl, fun c' hc' z => ?_⟩
  rcases Nat.lt_or_ge c' c with y | y
  · exact h5 c' y z
  · rw [show c' = c by omega]; exact Nat.le_refl _
theorem sp_teach54 (hd : okP d) (hM : MW d ru wo) (hst : MT 0 T st) (hT : okT T) (hcv : cov d T) {c : Nat} (hc : c < 2 ^ nw d) {x3 x4 : Int32} (h : tch d T c x3 x4) {K : (Int32 × Int32 × Int32) → Prop} (hK : ∀ y3 y4, tch d T (c + 1) y3 y4 → K (y3, y4, nI (c + 1))) : ∃ n, fixN (F_X12_teach_54 ru wo (nI (alm d)) x3 x4 (nI c) st K) n (0, 0, 0) := by
  have h10 := hd.1
  have h1024 := p10 hd
  have hal := alm_lt hd
  have v5 : vp_in 5 8 := by unfold vp_in; decide
  have llt : ∀ n, n ≤ nw d → Lc d c n < 2 ^ 26 := fun n hn => orN_lt n (fun w hw => by
    show (if c.testBit w then wm d w else 0) < _
    split
    · exact wm_lt hd (by omega)
    · decide)
  refine fix_0 (fun w => (nI (Lc d c w), nI (Kc d T c w), nI w)) (nw d) rfl ?_
  intro K' w hw hK'
  unfold F_X12_teach_54
  dsimp only
  rw [show (5 : Int32).toNatClampNeg = 5 from rfl, hM.1, nI_leI (by omega) (by omega)]
  refine ⟨v5, fun q => ?_, fun q => ?_⟩
  · have : w = nw d := by omega
    subst this
    have hL := llt (nw d) (Nat.le_refl _)
    have hKc := Kc_le (T := T) hd hcv c (Nat.le_refl (nw d))
    have eqL : nI (Lc d c (nw d)) = nI (alm d) ↔ Lc d c (nw d) = alm d := nI_eq (by omega) (by omega)
    unfold B_X12_teach_137 B_X12_teach_141
    have no : ¬ Lc d c (nw d) = alm d → ∀ z0, B_X12_teach_142 (nI (alm d)) x3 x4 (nI c) (nI (Lc d c (nw d))) (nI (Kc d T c (nw d))) z0 K := fun z z0 => B142 (fun _ => by rw [nI_1]; exact hK _ _ (tch_skip h z)) (fun z2 => absurd (eqL.mp z2) z)
    by_cases z : Lc d c (nw d) = alm d
    · have yes : tch d T (c + 1) (nI c) (nI (Kc d T c (nw d))) → B_X12_teach_142 (nI (alm d)) x3 x4 (nI c) (nI (Lc d c (nw d))) (nI (Kc d T c (nw d))) 1 K := fun t => B142 (fun w => by rcases w with w | w; exact absurd (eqL.mpr z) w; exact absurd w (by decide)) (fun _ _ => by rw [nI_1]; exact hK _ _ t)
      have kee : tch d T (c + 1) x3 x4 → B_X12_teach_142 (nI (alm d)) x3 x4 (nI c) (nI (Lc d c (nw d))) (nI (Kc d T c (nw d))) 0 K := fun t => B142 (fun _ => by rw [nI_1]; exact hK _ _ t) (fun _ w => absurd rfl w)
      rcases h with ⟨a1, a2, a3⟩ | ⟨b, h1, h2, h3, h4, h5⟩
      · refine ⟨fun _ => yes (tch_take z (fun c' hc' y => absurd y (a3 c' hc'))), fun y => absurd a2 y⟩
      · have hKb := Kc_le (T := T) hd hcv b (Nat.le_refl (nw d))
        subst h3; subst h4
        have pb := pc_le b 26
        have pcc := pc_le c 26
        have e1 : Pk d T b = Kc d T b (nw d) * 1048576 + pc b 26 * 4096 + b := rfl
        have e2 : Pk d T c = Kc d T c (nw d) * 1048576 + pc c 26 * 4096 + c := rfl
        rw [nI_ltI (by omega) (by omega), nI_eq (a := Kc d T c (nw d)) (by omega) (by omega)]
        have take : Pk d T c ≤ Pk d T b → tch d T (c + 1) (nI c) (nI (Kc d T c (nw d))) := fun t => tch_take z (fun c' hc' y => Nat.le_trans t (h5 c' hc' y))
        refine ⟨fun y => absurd y (nI_ne_ng (b := 4) (by omega) (by decide) (by decide)), fun _ => ⟨fun y => yes (take (by omega)), fun y => ⟨fun y2 => kee (tch_keep h1 h2 h5 (by omega)), fun y2 => sp_X12_bitsOf (by omega) (sp_X12_bitsOf (by omega) ?_)⟩⟩⟩
        rw [nI_leI (by omega) (by omega)]
        exact ⟨fun y3 => kee (tch_keep h1 h2 h5 (by omega)), fun y3 => yes (take (by omega))⟩
    · refine ⟨fun _ => no z 1, fun _ => ⟨fun _ => no z 1, fun _ => ⟨fun _ => no z 0, fun y => sp_X12_bitsOf (by omega) ?_⟩⟩⟩
      rcases h with ⟨a1, a2, a3⟩ | ⟨b, h1, h2, h3, h4, h5⟩
      · exfalso; rw [a2] at y; exact nI_ne_ng (b := 4) (by omega) (by decide) (by decide) y
      · subst h3
        exact sp_X12_bitsOf (by omega) ⟨fun _ => no z 0, fun _ => no z 1⟩
  · rw [bit_J (by omega) (by omega), nI_1]
    have hK' := hK' (by omega)
    have eL : Lc d c (w + 1) = Lc d c w ||| (if c.testBit w then wm d w else 0) := rfl
    have eK : Kc d T c (w + 1) = Kc d T c w + (if c.testBit w then kw d T w else 0) := rfl
    rw [eL, eK] at hK'
    refine ⟨fun z => ?_, fun z => sp_X12_lettersOf hd hM (by omega) (sp_X12_knocksOf hd hM hst hT hcv (by omega) ?_)⟩
    · rw [if_neg z, if_neg z, Nat.or_zero, Nat.add_zero] at hK'; exact hK'
    · rw [if_pos z, if_pos z] at hK'; rw [nI_or, nI_add]; exact hK'
theorem sim_teach (hd : okP d) (hX : XW d width size lens lets wts) (hXM : XM d ms) (hM : MW d ru wo) (h : RI d aw st le pl hs hc kn) (x : Int32) : wp_X11_teach 10 10 80 width size wk ms lens lets pl x (fun r _ => wp_X12_teach aw st ru wo x (fun r' aw' st' => r = r' ∧ RI d aw' st' le pl hs hc kn ∧ KS st st' aw aw')) := by
  have h10 := hd.1
  have h1024 := p10 hd
  have hal := alm_lt hd
  have v5 : vp_in 5 8 := by unfold vp_in; decide
  obtain ⟨T, H, N, hn, h1, h2, h3, h4, h5⟩ := h
  have ez : vp_in x 3 ↔ 0 ≤ x ∧ x < 3 := vin_I (by decide)
  have no : ¬ vp_in x 3 → wp_X12_teach aw st ru wo x (fun r' aw' st' => -1 = r' ∧ RI d aw' st' le pl hs hc kn ∧ KS st st' aw aw') := fun c => by
    unfold wp_X12_teach
    exact aw2 h1 h2 h3 h4 h5 (fun st' m1 m2 m3 m4 m5 => sp_in0 (b := 2) (n := 3) (by decide) le_2 (fun _ => ⟨fun q => absurd rfl q, fun _ => ⟨rfl, m4, m5⟩⟩) (fun q => absurd q c))
  unfold wp_X11_teach
  refine ⟨fun q => no (by rw [ez]; grind), fun q => ⟨fun q2 => ?_, fun q2 => no (by rw [ez]; grind)⟩⟩
  have c3 : vp_in x 3 := by rw [ez]; grind
  refine fix_iv (fun w v => v.1 = nI w ∧ ∀ u, u < w → v.2 u = nI (kw d T u)) (nw d) (fun K w v hw hI hK => ?_) 0 (by omega) ⟨rfl, fun u hu => absurd hu (by omega)⟩
  obtain ⟨x2, k1⟩ := v
  obtain ⟨e1, e2⟩ := hI
  dsimp only at e1 e2
  subst e1
  unfold F_X11_teach_13
  dsimp only
  rw [show (size ≤ nI w) = (nI (nw d) ≤ nI w) by rw [hX.1.2.1], nI_leI (by omega) (by omega)]
  refine ⟨fun c => ?_, fun c => sp_X2_kw hd hX h3.2.1 h2 (by omega) ⟨(vin_n (by omega)).mpr (by omega), ?_⟩⟩
  · have : w = nw d := by omega
    subst this
    rw [hX.1.2.1]
    refine sp_X4_allLetters hd hXM ?_
    have lt0 := sp_least hd h2 hXM e2 (nw d) 12 (alm d) 0
    rw [Nat.sub_self] at lt0
    refine lt0 _ (Nat.le_refl _) (by omega) hal (by have := Nat.mul_le_mul_right 134217728 h10; omega) ?_
    obtain ⟨hmin, c0, g1, g2, g3⟩ := ls_min (T := T) hd h2
    -- the reference's run
    have model : ∀ r, (∀ b, b < 2 ^ nw d → Pk d T b = ls d T (nw d) (alm d) 0 → (x = 0 → r = nI (Kc d T b (nw d))) ∧ (x = 1 → r = nI (pc b 26)) ∧ (¬ x = 0 → ¬ x = 1 → r = nI b)) → wp_X12_teach aw st ru wo x (fun r' aw' st' => r = r' ∧ RI d aw' st' le pl hs hc kn ∧ KS st st' aw aw') := fun r hr => by
      unfold wp_X12_teach
      refine aw2 h1 h2 h3 h4 h5 (fun st' m1 m2 m3 m4 m5 => sp_in0 (b := 2) (n := 3) (by decide) le_2 (fun q => absurd c3 q) (fun _ => ⟨fun _ => sp_X12_allLetters hd hM ?_, fun q => absurd q (by decide)⟩))
      refine fix_iv (fun c v => v.2.2 = nI c ∧ tch d T c v.1 v.2.1) (2 ^ nw d) (fun K c v hc hI hK => ?_) 0 (Nat.zero_le _) ⟨rfl, Or.inl ⟨rfl, rfl, fun c' hc' => absurd hc' (Nat.not_lt_zero c')⟩⟩
      obtain ⟨x3, x4, x5⟩ := v
      obtain ⟨f1, f2⟩ := hI
      dsimp only at f1 f2
      subst f1
      unfold F_X12_teach_32
      dsimp only
      rw [show (5 : Int32).toNatClampNeg = 5 from rfl, hM.1, one_shl (by omega), nI_leI (by omega) (by omega)]
      refine ⟨v5, fun z => ?_, fun z => sp_teach54 hd hM m1 h1.1 h2 (by omega) f2 (fun y3 y4 t => hK (by omega) _ ⟨rfl, t⟩)⟩
      have : c = 2 ^ nw d := by omega
      rw [this] at f2
      rcases f2 with ⟨a1, a2, a3⟩ | ⟨b, b1, b2, b3, b4, b5⟩
      · exact absurd g2 (a3 c0 g1)
      · subst b3; subst b4
        have ePk : Pk d T b = ls d T (nw d) (alm d) 0 := Nat.le_antisymm (by rw [g3]; exact b5 c0 g1 g2) (hmin b b1 b2)
        have hrb := hr b b1 ePk
        refine ⟨fun y => ⟨fun y1 => ⟨hrb.2.2 y y1, m4, m5⟩, fun y1 => sp_X12_bitsOf (by omega) ⟨hrb.2.1 y1, m4, m5⟩⟩, fun y => ⟨hrb.1 y, m4, m5⟩⟩
    have hPb : ∀ b, b < 2 ^ nw d → Pk d T b = ls d T (nw d) (alm d) 0 → ls d T (nw d) (alm d) 0 / 2 ^ 20 = Kc d T b (nw d) ∧ ls d T (nw d) (alm d) 0 % 1024 = b := fun b hb e => by
      have := pc_le b 26
      rw [← e]; unfold Pk; omega
    have hKc := Kc_le (T := T) hd h2 c0 (Nat.le_refl (nw d))
    have hpc := pc_le c0 26
    have hlt : ls d T (nw d) (alm d) 0 < 2 ^ 63 := by rw [g3]; unfold Pk; omega
    rw [shr20 _ hlt, and1023 _ hlt]
    refine ⟨fun y => model _ (fun b hb e => ⟨fun _ => by rw [(hPb b hb e).1], fun y1 => by rw [y] at y1; exact absurd y1 (by decide), fun y0 => absurd y y0⟩), fun y => sp_bitCount (by omega) (model _ (fun b hb e => ⟨fun y0 => by rw [y] at y0; exact absurd y0 (by decide), fun _ => by rw [(hPb b hb e).2], fun _ y1 => absurd y y1⟩)), fun y y1 => model _ (fun b hb e => ⟨fun y0 => absurd y0 y, fun y2 => absurd y2 y1, fun _ _ => by rw [(hPb b hb e).2]⟩)⟩
  · rw [nI_clamp (by omega), nI_1]
    refine hK (by omega) _ ⟨rfl, fun u hu => ?_⟩
    dsimp only
    rcases Nat.lt_or_ge u w with z | z
    · rw [pk_un (by omega)]; exact e2 u z
    · have : u = w := by omega
      subst this; rw [pk_us]
end
