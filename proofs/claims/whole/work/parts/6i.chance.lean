/-! chances -/
def hrs (l m c x : Nat) : Nat := if x = c then 20 - l - m else if x + 1 = c then l else if x = c + 1 then m else 0
theorem hrs_le {l m c x : Nat} (hl : l ≤ 9) (hm : m ≤ 9) : hrs l m c x ≤ 20 := by
  unfold hrs; split
  · omega
  · split
    · omega
    · split <;> omega
theorem hx_p {c x : Nat} (hc : c < 100) (hx : x < 100) : (nI x = nI c - 1 ↔ x + 1 = c) ∧ (nI x = nI c + 1 ↔ x = c + 1) ∧ (nI x = nI c ↔ x = c) := by
  refine ⟨⟨fun h => ?_, fun h => ?_⟩, by rw [nI_1, nI_eq (by omega) (by omega)], nI_eq (by omega) (by omega)⟩
  · have e : nI x + 1 = nI c := by rw [h]; grind
    rw [nI_1, nI_eq (by omega) (by omega)] at e; exact e
  · rw [← h]; exact (nI_pred x).symm
theorem sp_hrs {l m : Nat} {ru : Nat → Int32} (h0 : ru 0 = nI l) (h1 : ru 1 = nI m) (hl : l ≤ 9) (hm : m ≤ 9) {c x : Nat} (hc : c < 100) (hx : x < 100) {post : Int32 → Prop} (h : post (nI (hrs l m c x))) : wp_X12_hears ru (nI c) (nI x) post := by
  have v0 : vp_in 0 8 := by unfold vp_in; decide
  have v1 : vp_in 1 8 := by unfold vp_in; decide
  unfold wp_X12_hears
  rw [show (0 : Int32).toNatClampNeg = 0 from rfl, show (1 : Int32).toNatClampNeg = 1 from rfl, h0, h1, e20 hl hm, (hx_p hc hx).1, (hx_p hc hx).2.1, (hx_p hc hx).2.2]
  unfold hrs at h
  refine ⟨fun q => ?_, fun q => ⟨v0, v1, by rw [if_pos q] at h; exact h⟩⟩
  rw [if_neg q] at h
  refine ⟨fun q => ?_, fun q => ⟨v0, by rw [if_pos q] at h; exact h⟩⟩
  rw [if_neg q] at h
  refine ⟨fun q => ?_, fun q => ⟨v1, by rw [if_pos q] at h; exact h⟩⟩
  rw [if_neg q] at h
  exact h
theorem sb_e {a b c : Int32} : a - b = c ↔ a = b + c := by grind
theorem sp_slips {l m : Nat} (hl : l ≤ 9) (hm : m ≤ 9) {c x : Nat} (hc : c < 100) (hx : x < 100) {post : Int32 → Prop} (h : post (nI (hrs l m c x))) : wp_X0_slips (nI l) (nI m) (nI x - nI c) post := by
  unfold wp_X0_slips
  rw [e20 hl hm, sb_e, sb_e, sb_e, show nI c + 0 = nI c from Int32.add_zero _, show nI c + (-1) = nI c - 1 by grind, (hx_p hc hx).1, (hx_p hc hx).2.1, (hx_p hc hx).2.2]
  unfold hrs at h
  refine ⟨fun q => ?_, fun q => ?_, fun q => ?_, fun q1 q2 q3 => ?_⟩
  · rw [if_neg (by omega), if_pos q] at h; exact h
  · rw [if_pos q] at h; exact h
  · rw [if_neg (by omega), if_neg (by omega), if_pos q] at h; exact h
  · rw [if_neg q2, if_neg q1, if_neg q3] at h; exact h
def cnt (d : PD) (T : Nat → Nat) (w c : Nat) : Nat := if c % 2 = 0 then pidx T (wc d w (c / 2)) / 5 + 1 else pidx T (wc d w (c / 2)) % 5 + 1
def prodN (f : Nat → Nat) : Nat → Nat
  | 0 => 1
  | n + 1 => prodN f n * f n
theorem prodN_le {f : Nat → Nat} {b : Nat} : ∀ n, (∀ k, k < n → f k ≤ b) → prodN f n ≤ b ^ n
  | 0, _ => Nat.le_refl _
  | n + 1, h => by
    have := prodN_le n (fun k hk => h k (by omega))
    rw [prodN, Nat.pow_succ]
    exact Nat.mul_le_mul this (h n (by omega))
section
variable {d : PD} {T H : Nat → Nat} {hn : Nat} {gu le mo kk pa ga width size : Int32} {ru wo st lens lets wts pl hc : Nat → Int32}
theorem cnt_rng (hcv : cov d T) {w c : Nat} (hw : w < nw d) (hc : c < 2 * wl d w) : 1 ≤ cnt d T w c ∧ cnt d T w c ≤ 5 := by
  have := hcv.1 w hw (c / 2) (by omega)
  unfold cnt; split <;> omega
theorem sp_X2_cnt (hd : okP d) (hX : XW d width size lens lets wts) (hp : ∀ l, l < 26 → pl l = plX T l) (hcv : cov d T) {w c : Nat} (hw : w < nw d) (hc : c < 2 * wl d w) {post : Int32 → Prop} (h : post (nI (cnt d T w c))) : wp_X2_countOfName 10 80 width size lens lets pl (nI w) (nI c) post := by
  have h8 := hd.2.2.2.2.2.2.1 w hw
  have hl := h8.2.2.2.2 (c / 2) (by omega)
  have hi := hcv.1 w hw (c / 2) (by omega)
  unfold wp_X2_countOfName
  rw [i2, pk_rem (by omega) (by omega) (by omega), pk_div (by omega) (by omega) (by omega)]
  refine sp_X4_letterAt hX.1 hw (by omega) (sp_X2_placeOf hp (fun q => ?_) (fun l' hl' e => ?_))
  · exfalso; apply q; rw [i97, pk_sub (by omega)]; exact (vin_n (by omega)).mpr (by omega)
  · have : l' = wc d w (c / 2) := by have := (nI_eq (by omega) (by omega)).mp e; omega
    subst this
    rw [plX_nn, plX_in hi, (div5 hi).2.1, (div5 hi).1, i0, nI_eq (by omega) (by omega)]
    unfold cnt at h
    exact ⟨fun _ => ⟨fun q => by rw [if_neg q] at h; exact h, fun q => by rw [if_pos q] at h; exact h⟩, fun q => absurd hi q⟩
theorem sp_X12_cnt (hd : okP d) (hM : MW d ru wo) (hst : MT 0 T st) (hT : okT T) (hcv : cov d T) {w c : Nat} (hw : w < nw d) (hc : c < 2 * wl d w) {post : Int32 → Prop} (h : post (nI (cnt d T w c))) : wp_X12_countOf wo st (nI w) (nI c) post := by
  have h10 := hd.1
  have h8 := hd.2.2.2.2.2.2.1 w hw
  have hl := h8.2.2.2.2 (c / 2) (by omega)
  have hi := hcv.1 w hw (c / 2) (by omega)
  unfold wp_X12_countOf
  rw [i2, i10, pk_rem (by omega) (by omega) (by omega), pk_div (by omega) (by omega) (by omega), pk_mul, nI_add, nI_clamp (by omega), (hM.2 w hw).2.2 (c / 2) (by omega)]
  refine ⟨(vin_n (by omega)).mpr (by omega), sp_X12_placeOf (T := T) (fun p hp => by have := hst p hp; rw [Nat.zero_add] at this; exact this) hT (by omega) ?_⟩
  rw [plc_in hi, (div5 hi).2.1, (div5 hi).1, i0, nI_eq (by omega) (by omega)]
  unfold cnt at h
  exact ⟨fun q => by rw [if_neg q] at h; exact h, fun q => by rw [if_pos q] at h; exact h⟩
def hrf (d : PD) (T H : Nat → Nat) (w c : Nat) : Nat := hrs (lss d) (mre d) (cnt d T w c) (H c)
def chN (d : PD) (T H : Nat → Nat) (hn w : Nat) : Nat := if 2 * wl d w = hn then ww d w * prodN (hrf d T H w) hn else 0
theorem chN_le (hd : okP d) {w : Nat} (hw : w < nw d) (h12 : hn ≤ 12) : chN d T H hn w ≤ 99 * 20 ^ 12 := by
  unfold chN
  split
  · have h1 := (hd.2.2.2.2.2.2.1 w hw).2.2.2.1
    have h2 := prodN_le (f := hrf d T H w) (b := 20) hn (fun k _ => hrs_le hd.2.2.2.1 hd.2.2.2.2.1)
    exact Nat.mul_le_mul h1 (Nat.le_trans h2 (Nat.pow_le_pow_right (by omega) h12))
  · exact Nat.zero_le _
theorem sp_X1_chanceOf (hd : okP d) (hS : XS d gu le mo kk pa ga) (hX : XW d width size lens lets wts) (hp : ∀ l, l < 26 → pl l = plX T l) (hcv : cov d T) (hH : ∀ i, i < hn → hc i = nI (H i)) (h6 : ∀ i, i < hn → H i ≤ 6) (h24 : hn ≤ 24) {w : Nat} (hw : w < nw d) {post : Int64 → Prop} (h : post (lN (chN d T H hn w))) : wp_X1_chanceOf 10 80 le mo (nI hn) width size lens wts hc lets pl (nI w) post := by
  have h10 := hd.1
  have h8 := hd.2.2.2.2.2.2.1 w hw
  unfold wp_X1_chanceOf
  refine sp_X4_lengthOf hX.1 hw ?_
  rw [i2, pk_mul, nI_eq (by omega) (by omega)]
  unfold chN at h
  refine ⟨fun q => ⟨(vin_n (by omega)).mpr (by omega), ?_⟩, fun q => by rw [if_neg q] at h; exact h⟩
  rw [if_pos q] at h
  rw [nI_clamp (by omega), hX.2 w hw, nI_l (by omega)]
  refine fix_0 (fun i => (lN (ww d w * prodN (hrf d T H w) i), nI i)) hn (by rw [prodN, Nat.mul_one]; rfl) ?_
  intro K i hi hK
  unfold F_X1_chanceOf_30
  dsimp only
  rw [nI_leI (by omega) (by omega)]
  refine ⟨fun c => ?_, fun c => ⟨(vin_n (by omega)).mpr (by omega), sp_X2_cnt hd hX hp hcv hw (by omega) ?_⟩⟩
  · have : i = hn := by omega
    subst this; exact h
  · have hc5 := cnt_rng hcv hw (c := i) (by omega)
    have hH6 := h6 i (by omega)
    rw [nI_clamp (by omega), hH i (by omega), hS.2.1, hS.2.2.1]
    refine sp_slips hd.2.2.2.1 hd.2.2.2.2.1 (by omega) (by omega) ?_
    have hle := hrs_le (l := lss d) (m := mre d) (c := cnt d T w i) (x := H i) hd.2.2.2.1 hd.2.2.2.2.1
    rw [nI_l (by omega), lN_mul, nI_1, Nat.mul_assoc]
    exact hK (by omega)
theorem sp_X12_chanceOf (hd : okP d) (hR : MS d ru) (hM : MW d ru wo) (hst : MT 0 T st) (hT : okT T) (hcv : cov d T) (h49 : st 49 = nI hn) (hH : ∀ i, i < hn → st (25 + i) = nI (H i)) (h6 : ∀ i, i < hn → H i ≤ 6) (h24 : hn ≤ 24) {w : Nat} (hw : w < nw d) {post : Int64 → Prop} (h : post (lN (chN d T H hn w))) : wp_X12_chanceOf wo st ru (nI w) post := by
  have h10 := hd.1
  have h8 := hd.2.2.2.2.2.2.1 w hw
  have v49 : vp_in 49 192 := by unfold vp_in; decide
  unfold wp_X12_chanceOf
  refine sp_X12_size hd hM hw ⟨v49, ?_⟩
  rw [show (49 : Int32).toNatClampNeg = 49 from rfl, h49, i2, pk_mul, nI_eq (by omega) (by omega)]
  unfold chN at h
  refine ⟨fun q => ?_, fun q => by rw [if_neg q] at h; exact h⟩
  rw [if_pos q] at h
  rw [i10, i9, pk_mul, nI_add, nI_clamp (by omega), (hM.2 w hw).2.1, nI_l (by omega)]
  refine ⟨(vin_n (by omega)).mpr (by omega), fix_0 (fun i => (lN (ww d w * prodN (hrf d T H w) i), nI i)) hn (by rw [prodN, Nat.mul_one]; rfl) ?_⟩
  intro K i hi hK
  unfold F_X12_chanceOf_36
  dsimp only
  rw [show (49 : Int32).toNatClampNeg = 49 from rfl, h49, nI_leI (by omega) (by omega)]
  refine ⟨v49, fun c => ?_, fun c => sp_X12_cnt hd hM hst hT hcv hw (by omega) ?_⟩
  · have : i = hn := by omega
    subst this; exact h
  · have hc5 := cnt_rng hcv hw (c := i) (by omega)
    have hH6 := h6 i (by omega)
    rw [i25, nI_add, nI_clamp (by omega), hH i (by omega)]
    refine ⟨(vin_n (by omega)).mpr (by omega), sp_hrs (l := lss d) (m := mre d) hR.1 hR.2.1 hd.2.2.2.1 hd.2.2.2.2.1 (by omega) (by omega) ?_⟩
    have hle := hrs_le (l := lss d) (m := mre d) (c := cnt d T w i) (x := H i) hd.2.2.2.1 hd.2.2.2.2.1
    rw [nI_l (by omega), lN_mul, nI_1, Nat.mul_assoc]
    exact hK (by omega)
end
/-! the greatest -/
def tpN (f : Nat → Nat) : Nat → Nat × Nat
  | 0 => (0, 0)
  | w + 1 => if (tpN f w).2 < f w then (w + 1, f w) else tpN f w
theorem tpN_le (f : Nat → Nat) : ∀ n, (tpN f n).1 ≤ n
  | 0 => Nat.le_refl 0
  | w + 1 => by have := tpN_le f w; unfold tpN; split <;> (try simp only) <;> omega
theorem tpN_2 (f : Nat → Nat) : ∀ n, ((tpN f n).1 = 0 ∧ (tpN f n).2 = 0) ∨ (0 < (tpN f n).1 ∧ (tpN f n).2 = f ((tpN f n).1 - 1) ∧ 0 < (tpN f n).2)
  | 0 => Or.inl ⟨rfl, rfl⟩
  | w + 1 => by
    have := tpN_2 f w
    unfold tpN; split
    · rename_i h; exact Or.inr ⟨by simp only; omega, rfl, by simp only; omega⟩
    · exact this
theorem tpN_b {f : Nat → Nat} {b : Nat} : ∀ n, (∀ w, w < n → f w ≤ b) → (tpN f n).2 ≤ b
  | 0, _ => Nat.zero_le _
  | w + 1, h => by
    have := tpN_b w (fun k hk => h k (by omega))
    have := h w (by omega)
    unfold tpN; split <;> (try simp only) <;> omega
def tI (z : Int32) (t : Nat) : Int32 := if t = 0 then z else nI (t - 1)
theorem tI_s {z : Int32} {t : Nat} : tI z (t + 1) = nI t := by unfold tI; rw [if_neg (by omega)]; rfl
theorem sp_X1_topOf {f : Nat → Nat} {n N : Nat} {ch : Nat → Int64} (hN : n ≤ N) (h10 : N ≤ 10) (hb : ∀ w, w < n → f w < 2 ^ 63) (hc : ∀ w, w < n → ch w = lN (f w)) {post : Int32 → Prop} (h : post (tI (-1) (tpN f n).1)) : wp_X1_topOf N ch (nI n) post := by
  unfold wp_X1_topOf
  refine fix_0 (fun i => (tI (-1) (tpN f i).1, lN (tpN f i).2, nI i)) n rfl ?_
  intro K i hi hK
  unfold F_X1_topOf_7
  dsimp only
  rw [nI_leI (by omega) (by omega)]
  refine ⟨fun c => ?_, fun c => ?_⟩
  · have : i = n := by omega
    subst this; exact h
  · have v : vp_in (nI i) N := (vin_n (by omega)).mpr (by omega)
    have hK := hK (by omega)
    have b2 : (tpN f i).2 < 2 ^ 63 := by
      have := tpN_b (f := f) (b := 2 ^ 63 - 1) i (fun w hw => by have := hb w (by omega); omega)
      omega
    rw [nI_clamp (by omega), hc i (by omega), pk_lLT b2 (hb i (by omega)), nI_1]
    rw [tpN] at hK
    refine ⟨v, fun q => ?_, fun q => ⟨v, ?_⟩⟩
    · rw [if_neg q] at hK; exact hK
    · rw [if_pos q] at hK; rw [← tI_s (z := -1)]; exact hK
