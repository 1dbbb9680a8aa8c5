section
variable {d : PD} {T H N : Nat → Nat} {hn : Nat} {aw gu le mo kk pa ga width size hs : Int32} {ru wo st lens lets wts ln pl hc kn : Nat → Int32} {tot : Int64} {top : Int32} {ch : Nat → Int64}
theorem aw2 {post : Int32 → (Nat → Int32) → Prop} (h1 : okI T H N hn) (h2 : cov d T) (h3 : XI T H N hn ln pl hc kn hs) (h4 : MA aw T st) (h5 : MR 0 H N hn st) (hp : ∀ st' : Nat → Int32, MT 0 T st' → st' 49 = nI hn → (∀ i, i < hn → st' (25 + i) = nI (H i)) → RI d 1 st' ln pl hs hc kn → KS st st' aw 1 → post 1 st') : wp_X12_awake aw st post := by
  refine sp_X12_awake h4 (fun st' m1 m2 => ?_)
  have m3 : MR 0 H N hn st' := h5.kept h1.2.1 (fun j a b => m2 j (by omega))
  exact hp st' m1 (by have := m3.1; rw [Nat.zero_add] at this; exact this) (fun i hi => by have := m3.2.1 i hi; rw [Nat.zero_add] at this; exact this) ⟨T, H, N, hn, h1, h2, h3, Or.inl ⟨rfl, m1⟩, m3⟩ ⟨fun j hj => m2 j (by omega), fun _ => rfl⟩
def cwN (hn : Nat) : Prop := 0 < hn ∧ hn % 2 = 0 ∧ hn ≤ 12
theorem sp_X11_canWeigh (h24 : hn ≤ 24) {post : Int32 → Prop} (h0 : ¬ cwN hn → post 0) (h1 : cwN hn → post 1) : wp_X11_canWeigh (nI hn) post := by
  unfold wp_X11_canWeigh
  rw [i2, i0, pk_rem (by omega) (by omega) (by omega), show (12 : Int32) = nI 12 from rfl, nI_leI (by omega) (by omega), nI_eq (by omega) (by omega), nI_ltI (by omega) (by omega)]
  unfold cwN at *
  exact ⟨fun q => h0 (by omega), fun q => ⟨fun q2 => h0 (by omega), fun q2 => ⟨fun q3 => h0 (by omega), fun q3 => h1 (by omega)⟩⟩⟩
theorem sp_X12_isHeard (h24 : hn ≤ 24) (h49 : st 49 = nI hn) {post : Int32 → Prop} (h0 : ¬ cwN hn → post 0) (h1 : cwN hn → post 1) : wp_X12_isHeard st post := by
  have v49 : vp_in 49 192 := by unfold vp_in; decide
  have ev : vp_in (nI hn - 1) 12 ↔ 1 ≤ hn ∧ hn ≤ 12 := by
    cases hn with
    | zero => exact ⟨fun q => absurd q (by unfold vp_in; decide), fun q => absurd q (by omega)⟩
    | succ n => rw [nI_pred, vin_n (by omega)]; omega
  unfold wp_X12_isHeard
  rw [show (49 : Int32).toNatClampNeg = 49 from rfl, h49, i2, pk_rem (by omega) (by omega) (by omega), i0, nI_eq (by omega) (by omega)]
  unfold cwN at *
  refine ⟨v49, fun q => h0 (by omega), fun q => ⟨v49, sp_in1 (n := 12) (b := 12) (by decide) rfl (fun c => ⟨fun _ => h0 (by rw [ev] at c; omega), fun q => absurd rfl q⟩) (fun c => ⟨fun q => absurd q (by decide), fun _ => h1 (by rw [ev] at c; omega)⟩)⟩⟩
theorem chb (hd : okP d) (h12 : hn ≤ 12) {w : Nat} (hw : w < nw d) : chN d T H hn w < 2 ^ 63 := Nat.lt_of_le_of_lt (chN_le hd hw h12) (by decide)
theorem sp_X1_weigh (hd : okP d) (hS : XS d gu le mo kk pa ga) (hX : XW d width size lens lets wts) (h1 : okI T H N hn) (hcv : cov d T) (h3 : XI T H N hn ln pl hc kn hs) (h12 : hn ≤ 12) {post : Int64 → Int32 → (Nat → Int64) → Prop} (h : ∀ ch', (∀ w, w < nw d → ch' w = lN (chN d T H hn w)) → post (lN (sumN (chN d T H hn) (nw d))) (tI (-1) (tpN (chN d T H hn) (nw d)).1) ch') : wp_X1_weigh 10 80 tot top le mo hs width size ch lens wts hc lets pl post := by
  have h10 := hd.1
  unfold wp_X1_weigh
  rw [h3.2.2.1]
  refine fix_iv (fun i v => v.1 = nI i ∧ v.2.1 = lN (sumN (chN d T H hn) i) ∧ ∀ w, w < i → v.2.2 w = lN (chN d T H hn w)) (nw d) (fun K i v hi hI hK => ?_) 0 (by omega) ⟨rfl, rfl, fun w hw => absurd hw (by omega)⟩
  obtain ⟨x3, t1, c1⟩ := v
  obtain ⟨e1, e2, e3⟩ := hI
  dsimp only at e1 e2 e3
  subst e1; subst e2
  unfold F_X1_weigh_7
  dsimp only
  rw [show (size ≤ nI i) = (nI (nw d) ≤ nI i) by rw [hX.1.2.1], nI_leI (by omega) (by omega)]
  refine ⟨fun c => ?_, fun c => ?_⟩
  · have : i = nw d := by omega
    subst this
    rw [hX.1.2.1]
    exact sp_X1_topOf h10 (by omega) (fun w hw => chb hd h12 hw) e3 (h c1 e3)
  · refine sp_X1_chanceOf hd hS hX h3.2.1 hcv h3.2.2.2.1 h1.2.2.1 h1.2.1 (by omega) ⟨(vin_n (by omega)).mpr (by omega), (vin_n (by omega)).mpr (by omega), ?_⟩
    rw [nI_clamp (by omega), pk_uLs, lN_add, nI_1]
    refine hK (by omega) _ ⟨rfl, rfl, fun w hw => ?_⟩
    dsimp only
    rcases Nat.lt_or_ge w i with z | z
    · rw [pk_uLn (by omega)]; exact e3 w z
    · have : w = i := by omega
      subst this; rw [pk_uLs]
theorem sp_X12_all (hd : okP d) (hR : MS d ru) (hM : MW d ru wo) (h1 : okI T H N hn) (hcv : cov d T) (m1 : MT 0 T st) (h49 : st 49 = nI hn) (hH : ∀ i, i < hn → st (25 + i) = nI (H i)) {post : Int64 → Prop} (h : post (lN (sumN (chN d T H hn) (nw d)))) : wp_X12_allChances ru wo st post := by
  have h10 := hd.1
  have v5 : vp_in 5 8 := by unfold vp_in; decide
  unfold wp_X12_allChances
  refine fix_0 (fun i => (lN (sumN (chN d T H hn) i), nI i)) (nw d) rfl ?_
  intro K i hi hK
  unfold F_X12_allChances_4
  dsimp only
  rw [show (5 : Int32).toNatClampNeg = 5 from rfl, hM.1, nI_leI (by omega) (by omega)]
  refine ⟨v5, fun c => ?_, fun c => sp_X12_chanceOf hd hR hM m1 h1.1 hcv h49 hH h1.2.2.1 h1.2.1 (by omega) ?_⟩
  · have : i = nw d := by omega
    subst this; exact h
  · rw [lN_add, nI_1]; exact hK (by omega)
theorem sp_X12_likely (hd : okP d) (hR : MS d ru) (hM : MW d ru wo) (h1 : okI T H N hn) (hcv : cov d T) (m1 : MT 0 T st) (h49 : st 49 = nI hn) (hH : ∀ i, i < hn → st (25 + i) = nI (H i)) (h12 : hn ≤ 12) {post : Int32 → Prop} (h : post (tI (-4) (tpN (chN d T H hn) (nw d)).1)) : wp_X12_likely ru wo st post := by
  have h10 := hd.1
  have v5 : vp_in 5 8 := by unfold vp_in; decide
  unfold wp_X12_likely
  refine fix_0 (fun i => (tI (-4) (tpN (chN d T H hn) i).1, lN (tpN (chN d T H hn) i).2, nI i)) (nw d) rfl ?_
  intro K i hi hK
  unfold F_X12_likely_8 B_X12_likely_40
  dsimp only
  rw [show (5 : Int32).toNatClampNeg = 5 from rfl, hM.1, nI_leI (by omega) (by omega)]
  refine ⟨v5, fun c => ?_, fun c => sp_X12_chanceOf hd hR hM m1 h1.1 hcv h49 hH h1.2.2.1 h1.2.1 (by omega) ?_⟩
  · have : i = nw d := by omega
    subst this; exact h
  · have hK := hK (by omega)
    have b2 : (tpN (chN d T H hn) i).2 < 2 ^ 63 := by
      have := tpN_b (f := chN d T H hn) (b := 2 ^ 63 - 1) i (fun w hw => by have := chb (T := T) (H := H) hd h12 (show w < nw d by omega); omega)
      omega
    rw [pk_lLT b2 (chb hd h12 (by omega)), nI_1]
    rw [tpN] at hK
    refine ⟨fun q => ⟨fun _ => ?_, fun q2 => absurd q2 q⟩, fun q => ⟨fun q2 => absurd q q2, fun _ => ?_⟩⟩
    · rw [if_neg q] at hK; exact hK
    · rw [if_pos q] at hK; rw [← tI_s (z := -4)]; exact hK
theorem sim_chance (hd : okP d) (hS : XS d gu le mo kk pa ga) (hX : XW d width size lens lets wts) (hR : MS d ru) (hM : MW d ru wo) (h : RI d aw st ln pl hs hc kn) (x y : Int32) : wp_X11_chance 10 80 le mo width size hs tot top ch lens wts hc lets pl x y (fun r _ _ _ => wp_X12_chance aw st ru wo x y (fun r' aw' st' => r = r' ∧ RI d aw' st' ln pl hs hc kn ∧ KS st st' aw aw')) := by
  have h10 := hd.1
  obtain ⟨T, H, N, hn, h1, h2, h3, h4, h5⟩ := h
  unfold wp_X11_chance
  have hsz := hX.1.2.1
  rw [show wp_X11_isWord size = wp_X11_isWord (nI (nw d)) by rw [hsz], show wp_X11_canWeigh hs = wp_X11_canWeigh (nI hn) by rw [h3.2.2.1]]
  refine sp_X11_isWord (by omega) (fun c => ⟨fun _ => ?_, fun q => absurd rfl q⟩) (fun c => ⟨fun q => absurd q (by decide), fun _ => sp_X11_isHalf (fun c2 => ⟨fun q => absurd rfl q, fun _ => ?_⟩) (fun c2 => ⟨fun _ => sp_X11_canWeigh h1.2.1 (fun c3 => ⟨fun q => absurd rfl q, fun _ => ?_⟩) (fun c3 => ⟨fun _ => sp_X1_weigh hd hS hX h1 h2 h3 c3.2.2 (fun ch' hch => ?_), fun q => absurd q (by decide)⟩), fun q => absurd q (by decide)⟩)⟩)
  · unfold wp_X12_chance
    exact aw2 h1 h2 h3 h4 h5 (fun st' m1 m2 m3 m4 m5 => sp_X12_isWord (by omega) hM.1 (fun _ => ⟨fun _ => ⟨rfl, m4, m5⟩, fun q => absurd rfl q⟩) (fun q => absurd q c))
  · unfold wp_X12_chance
    exact aw2 h1 h2 h3 h4 h5 (fun st' m1 m2 m3 m4 m5 => sp_X12_isWord (by omega) hM.1 (fun q => absurd c q) (fun _ => ⟨fun q => absurd q (by decide), fun _ => sp_in0 (b := 1) (n := 2) (by decide) le_1 (fun _ => ⟨fun q => absurd rfl q, fun _ => ⟨rfl, m4, m5⟩⟩) (fun q => absurd q c2)⟩))
  · unfold wp_X12_chance
    exact aw2 h1 h2 h3 h4 h5 (fun st' m1 m2 m3 m4 m5 => sp_X12_isWord (by omega) hM.1 (fun q => absurd c q) (fun _ => ⟨fun q => absurd q (by decide), fun _ => sp_in0 (b := 1) (n := 2) (by decide) le_1 (fun q => absurd c2 q) (fun _ => ⟨fun _ => sp_X12_isHeard h1.2.1 m2 (fun _ => ⟨fun q => absurd rfl q, fun _ => ⟨rfl, m4, m5⟩⟩) (fun q => absurd q c3), fun q => absurd q (by decide)⟩)⟩))
  · obtain ⟨w, hw, rfl⟩ := vin_ex (by omega) c
    refine ⟨fun q => ?_, fun q => ⟨(vin_n (by omega)).mpr (by omega), ?_⟩⟩
    · unfold wp_X12_chance
      exact aw2 h1 h2 h3 h4 h5 (fun st' m1 m2 m3 m4 m5 => sp_X12_isWord (by omega) hM.1 (fun q => absurd c q) (fun _ => ⟨fun q => absurd q (by decide), fun _ => sp_in0 (b := 1) (n := 2) (by decide) le_1 (fun q => absurd c2 q) (fun _ => ⟨fun _ => sp_X12_isHeard h1.2.1 m2 (fun q => absurd c3 q) (fun _ => ⟨fun _ => ⟨fun _ => sp_X12_all hd hR hM h1 h2 m1 m2 m3 ⟨rfl, m4, m5⟩, fun q2 => absurd q2 q⟩, fun q => absurd q (by decide)⟩), fun q => absurd q (by decide)⟩)⟩))
    · unfold wp_X12_chance
      rw [nI_clamp (by omega), hch w hw]
      exact aw2 h1 h2 h3 h4 h5 (fun st' m1 m2 m3 m4 m5 => sp_X12_isWord (by omega) hM.1 (fun q => absurd c q) (fun _ => ⟨fun q => absurd q (by decide), fun _ => sp_in0 (b := 1) (n := 2) (by decide) le_1 (fun q => absurd c2 q) (fun _ => ⟨fun _ => sp_X12_isHeard h1.2.1 m2 (fun q => absurd c3 q) (fun _ => ⟨fun _ => ⟨fun q2 => absurd q q2, fun _ => sp_X12_chanceOf hd hR hM m1 h1.1 h2 m2 m3 h1.2.2.1 h1.2.1 hw ⟨rfl, m4, m5⟩⟩, fun q => absurd q (by decide)⟩), fun q => absurd q (by decide)⟩)⟩))
theorem tI_top {t : Nat} (ht : t ≤ 10) : (0 : Int32) ≤ tI (-1) t ↔ 0 < t := by
  unfold tI; split
  · rename_i q; exact ⟨fun z => absurd z (by decide), fun z => absurd z (by omega)⟩
  · exact ⟨fun _ => by omega, fun _ => nI_nn (by omega)⟩
theorem tI_pos {z : Int32} {t : Nat} (ht : 0 < t) : tI z t = nI (t - 1) := if_neg (by omega)
theorem sim_likeliest (hd : okP d) (hS : XS d gu le mo kk pa ga) (hX : XW d width size lens lets wts) (hR : MS d ru) (hM : MW d ru wo) (h : RI d aw st ln pl hs hc kn) : wp_X11_likeliest 10 80 hs tot top le mo width size ch lens wts hc lets pl (fun r _ _ _ => wp_X12_likeliest aw st ru wo (fun r' aw' st' => r = r' ∧ RI d aw' st' ln pl hs hc kn ∧ KS st st' aw aw')) := by
  have h10 := hd.1
  obtain ⟨T, H, N, hn, h1, h2, h3, h4, h5⟩ := h
  have ht := tpN_le (chN d T H hn) (nw d)
  unfold wp_X11_likeliest
  rw [show wp_X11_canWeigh hs = wp_X11_canWeigh (nI hn) by rw [h3.2.2.1]]
  refine sp_X11_canWeigh h1.2.1 (fun c3 => ⟨fun q => absurd rfl q, fun _ => ?_⟩) (fun c3 => ⟨fun _ => sp_X1_weigh hd hS hX h1 h2 h3 c3.2.2 (fun ch' hch => ?_), fun q => absurd q (by decide)⟩)
  · unfold wp_X12_likeliest
    exact aw2 h1 h2 h3 h4 h5 (fun st' m1 m2 m3 m4 m5 => sp_X12_isHeard h1.2.1 m2 (fun _ => ⟨fun _ => ⟨rfl, m4, m5⟩, fun q => absurd rfl q⟩) (fun q => absurd q c3))
  · unfold wp_X12_likeliest
    rw [tI_top (by omega)]
    refine ⟨fun q => ?_, fun q => ?_⟩
    · rw [tI_pos q]
      exact aw2 h1 h2 h3 h4 h5 (fun st' m1 m2 m3 m4 m5 => sp_X12_isHeard h1.2.1 m2 (fun q => absurd c3 q) (fun _ => ⟨fun q => absurd q (by decide), fun _ => sp_X12_likely hd hR hM h1 h2 m1 m2 m3 c3.2.2 ⟨(tI_pos q).symm, m4, m5⟩⟩))
    · have e0 : (tpN (chN d T H hn) (nw d)).1 = 0 := by omega
      exact aw2 h1 h2 h3 h4 h5 (fun st' m1 m2 m3 m4 m5 => sp_X12_isHeard h1.2.1 m2 (fun q => absurd c3 q) (fun _ => ⟨fun q => absurd q (by decide), fun _ => sp_X12_likely hd hR hM h1 h2 m1 m2 m3 c3.2.2 ⟨by rw [e0]; rfl, m4, m5⟩⟩))
theorem sim_sure (hd : okP d) (hS : XS d gu le mo kk pa ga) (hX : XW d width size lens lets wts) (hR : MS d ru) (hM : MW d ru wo) (h : RI d aw st ln pl hs hc kn) (x : Int32) : wp_X11_sure 10 80 hs tot top le mo width size ch lens wts hc lets pl x (fun r _ _ _ => wp_X12_sure aw st ru wo x (fun r' aw' st' => r = r' ∧ RI d aw' st' ln pl hs hc kn ∧ KS st st' aw aw')) := by
  have h10 := hd.1
  obtain ⟨T, H, N, hn, h1, h2, h3, h4, h5⟩ := h
  have ht := tpN_le (chN d T H hn) (nw d)
  unfold wp_X11_sure
  rw [show wp_X11_canWeigh hs = wp_X11_canWeigh (nI hn) by rw [h3.2.2.1]]
  refine sp_X11_isHalf (fun c2 => ⟨fun q => absurd rfl q, fun _ => ?_⟩) (fun c2 => ⟨fun _ => sp_X11_canWeigh h1.2.1 (fun c3 => ⟨fun q => absurd rfl q, fun _ => ?_⟩) (fun c3 => ⟨fun _ => sp_X1_weigh hd hS hX h1 h2 h3 c3.2.2 (fun ch' hch => ?_), fun q => absurd q (by decide)⟩), fun q => absurd q (by decide)⟩)
  · unfold wp_X12_sure
    exact aw2 h1 h2 h3 h4 h5 (fun st' m1 m2 m3 m4 m5 => sp_in0 (b := 1) (n := 2) (by decide) le_1 (fun _ => ⟨fun q => absurd rfl q, fun _ => ⟨rfl, m4, m5⟩⟩) (fun q => absurd q c2))
  · unfold wp_X12_sure
    exact aw2 h1 h2 h3 h4 h5 (fun st' m1 m2 m3 m4 m5 => sp_in0 (b := 1) (n := 2) (by decide) le_1 (fun q => absurd c2 q) (fun _ => ⟨fun _ => sp_X12_isHeard h1.2.1 m2 (fun _ => ⟨fun q => absurd rfl q, fun _ => ⟨rfl, m4, m5⟩⟩) (fun q => absurd q c3), fun q => absurd q (by decide)⟩))
  · unfold wp_X12_sure
    rw [tI_top (by omega)]
    refine ⟨fun q => ?_, fun q => ?_⟩
    · rw [tI_pos q, nI_clamp (by omega), hch _ (by omega)]
      have hs1 := sumN_le (f := chN d T H hn) (b := 99 * 20 ^ 12) (nw d) (fun w hw => chN_le hd hw c3.2.2)
      have hs2 := Nat.mul_le_mul_right (99 * 20 ^ 12) h10
      have hp : 0 < chN d T H hn ((tpN (chN d T H hn) (nw d)).1 - 1) := by
        rcases tpN_2 (chN d T H hn) (nw d) with z | z
        · omega
        · rw [← z.2.1]; exact z.2.2
      have hge : ∀ n w, w < n → chN d T H hn w ≤ sumN (chN d T H hn) n := by
        intro n
        induction n with
        | zero => intro w hw; omega
        | succ n ih =>
          intro w hw
          rw [sumN]
          rcases Nat.lt_or_ge w n with z | z
          · have := ih w z; omega
          · rw [show w = n by omega]; omega
      have hge' := hge (nw d) ((tpN (chN d T H hn) (nw d)).1 - 1) (by omega)
      have hcb := chN_le (T := T) (H := H) (hn := hn) hd (show (tpN (chN d T H hn) (nw d)).1 - 1 < nw d by omega) c3.2.2
      refine ⟨(vin_n (by omega)).mpr (by omega), sp_X11_lowest (by omega) (by omega) (by omega) ?_⟩
      exact aw2 h1 h2 h3 h4 h5 (fun st' m1 m2 m3 m4 m5 => sp_in0 (b := 1) (n := 2) (by decide) le_1 (fun q => absurd c2 q) (fun _ => ⟨fun _ => sp_X12_isHeard h1.2.1 m2 (fun q => absurd c3 q) (fun _ => ⟨fun _ => sp_X12_likely hd hR hM h1 h2 m1 m2 m3 c3.2.2 (by
        rw [tI_pos q]
        exact ⟨fun _ => sp_X12_chanceOf hd hR hM m1 h1.1 h2 m2 m3 h1.2.2.1 h1.2.1 (by omega) (sp_X12_all hd hR hM h1 h2 m1 m2 m3 (sp_X12_lowest (by omega) (by omega) (by omega) ⟨rfl, m4, m5⟩)), fun z => absurd z (nI_ne_ng (b := 4) (by omega) (by decide) (by decide))⟩), fun q => absurd q (by decide)⟩), fun q => absurd q (by decide)⟩))
    · have e0 : (tpN (chN d T H hn) (nw d)).1 = 0 := by omega
      exact aw2 h1 h2 h3 h4 h5 (fun st' m1 m2 m3 m4 m5 => sp_in0 (b := 1) (n := 2) (by decide) le_1 (fun q => absurd c2 q) (fun _ => ⟨fun _ => sp_X12_isHeard h1.2.1 m2 (fun q => absurd c3 q) (fun _ => ⟨fun _ => sp_X12_likely hd hR hM h1 h2 m1 m2 m3 c3.2.2 (by
        rw [e0]
        exact ⟨fun z => absurd rfl z, fun _ => ⟨rfl, m4, m5⟩⟩), fun q => absurd q (by decide)⟩), fun q => absurd q (by decide)⟩))
def ftI (f : Nat → Nat) : Nat → Int32
  | 0 => 0
  | w + 1 => if 0 < f w then ftI f w ||| ((1 : Int32) <<< (nI w &&& 31)) else ftI f w
theorem sim_fits (hd : okP d) (hS : XS d gu le mo kk pa ga) (hX : XW d width size lens lets wts) (hR : MS d ru) (hM : MW d ru wo) (h : RI d aw st ln pl hs hc kn) : wp_X11_fits 10 80 hs tot top le mo width size ch lens wts hc lets pl (fun r _ _ _ => wp_X12_fits aw st ru wo (fun r' aw' st' => r = r' ∧ RI d aw' st' ln pl hs hc kn ∧ KS st st' aw aw')) := by
  have h10 := hd.1
  obtain ⟨T, H, N, hn, h1, h2, h3, h4, h5⟩ := h
  have v5 : vp_in 5 8 := by unfold vp_in; decide
  unfold wp_X11_fits
  rw [show wp_X11_canWeigh hs = wp_X11_canWeigh (nI hn) by rw [h3.2.2.1]]
  refine sp_X11_canWeigh h1.2.1 (fun c3 => ⟨fun q => absurd rfl q, fun _ => ?_⟩) (fun c3 => ⟨fun _ => sp_X1_weigh hd hS hX h1 h2 h3 c3.2.2 (fun ch' hch => ?_), fun q => absurd q (by decide)⟩)
  · unfold wp_X12_fits
    exact aw2 h1 h2 h3 h4 h5 (fun st' m1 m2 m3 m4 m5 => sp_X12_isHeard h1.2.1 m2 (fun _ => ⟨fun q => absurd rfl q, fun _ => ⟨rfl, m4, m5⟩⟩) (fun q => absurd q c3))
  · refine fix_0 (fun i => (ftI (chN d T H hn) i, nI i)) (nw d) rfl ?_
    intro K i hi hK
    unfold F_X11_fits_29
    dsimp only
    rw [hX.1.2.1, nI_leI (by omega) (by omega)]
    refine ⟨fun c => ?_, fun c => ⟨(vin_n (by omega)).mpr (by omega), ?_⟩⟩
    · have : i = nw d := by omega
      subst this
      unfold wp_X12_fits
      refine aw2 h1 h2 h3 h4 h5 (fun st' m1 m2 m3 m4 m5 => sp_X12_isHeard h1.2.1 m2 (fun q => absurd c3 q) (fun _ => ⟨fun _ => ?_, fun q => absurd q (by decide)⟩))
      refine fix_0 (fun i => (ftI (chN d T H hn) i, nI i)) (nw d) rfl ?_
      intro K' j hj hK'
      unfold F_X12_fits_18
      dsimp only
      rw [show (5 : Int32).toNatClampNeg = 5 from rfl, hM.1, nI_leI (by omega) (by omega)]
      refine ⟨v5, fun c => ?_, fun c => sp_X12_chanceOf hd hR hM m1 h1.1 h2 m2 m3 h1.2.2.1 h1.2.1 (by omega) ?_⟩
      · have : j = nw d := by omega
        subst this; exact ⟨rfl, m4, m5⟩
      · have hK' := hK' (by omega)
        rw [ftI] at hK'
        rw [j0, pk_lLT (by decide) (chb hd c3.2.2 (by omega)), nI_1, Int32.or_zero]
        exact ⟨fun q => by rw [if_neg q] at hK'; exact hK', fun q => by rw [if_pos q] at hK'; exact hK'⟩
    · have hK := hK (by omega)
      rw [ftI] at hK
      rw [nI_clamp (by omega), hch i (by omega), j0, pk_lLT (by decide) (chb hd c3.2.2 (by omega)), nI_1]
      exact ⟨fun q => by rw [if_neg q] at hK; exact hK, fun q => by rw [if_pos q] at hK; exact hK⟩
end
