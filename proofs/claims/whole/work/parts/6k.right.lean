/-! read right -/
theorem updR_s {α : Type} {f : Nat → Nat → α} {k : Nat} {v : Nat → α} : updR f k v k = v := if_pos rfl
theorem updR_n {α : Type} {f : Nat → Nat → α} {k j : Nat} {v : Nat → α} (h : j ≠ k) : updR f k v j = f j := if_neg h
def upN (m : Nat → Nat) (k x : Nat) : Nat → Nat := fun j => if j = k then x else m j
theorem upN_s {m : Nat → Nat} {k x : Nat} : upN m k x k = x := if_pos rfl
theorem upN_n {m : Nat → Nat} {k x j : Nat} (h : j ≠ k) : upN m k x j = m j := if_neg h
theorem prodN_cong {f g : Nat → Nat} : ∀ n, (∀ k, k < n → f k = g k) → prodN f n = prodN g n
  | 0, _ => rfl
  | n + 1, h => by rw [prodN, prodN, prodN_cong n (fun k hk => h k (by omega)), h n (by omega)]
theorem prodN_0 {f : Nat → Nat} : ∀ n k, k < n → f k = 0 → prodN f n = 0
  | 0, k, h, _ => absurd h (by omega)
  | n + 1, k, h, e => by
    rw [prodN]
    rcases Nat.lt_or_ge k n with z | z
    · rw [prodN_0 n k z e, Nat.zero_mul]
    · rw [show n = k by omega, e, Nat.mul_zero]
theorem sumN_0 {f : Nat → Nat} : ∀ n, (∀ k, k < n → f k = 0) → sumN f n = 0
  | 0, _ => rfl
  | n + 1, h => by rw [sumN, sumN_0 n (fun k hk => h k (by omega)), h n (by omega)]
theorem sumN_3 (f : Nat → Nat) : ∀ n, sumN f (3 * n) = sumN (fun i => f (3 * i)) n + sumN (fun i => f (3 * i + 1)) n + sumN (fun i => f (3 * i + 2)) n
  | 0 => rfl
  | n + 1 => by
    have e : sumN f (3 * (n + 1)) = sumN f (3 * n) + f (3 * n) + f (3 * n + 1) + f (3 * n + 2) := rfl
    rw [e, sumN_3 f n, sumN, sumN, sumN]; omega
section
variable (d : PD) (T : Nat → Nat) (w L : Nat)
/-- count c of the word, as knocked -/
def cw (c : Nat) : Nat := cnt d T w (c % (2 * wl d w))
def ext : Nat → Nat → (Nat → Nat) → Nat → (Nat → Nat)
  | 0, _, m, _ => m
  | k + 1, dep, m, i => ext k (dep + 1) (upN m dep (cw d T w dep + i % 3 - 1)) (i / 3)
def prv (m : Nat → Nat) (v : Nat) (n : Nat) : Nat := prodN (fun c => hrs (lss d) (mre d) (cnt d T v (c % (2 * wl d w))) (m c)) n
def vlp (n : Nat) (m : Nat → Nat) (v : Nat) : Nat := if wl d v = wl d w then ww d v * prv d T w m v n else 0
def gd (m : Nat → Nat) : Nat := if (tpN (vlp d T w L m) (nw d)).1 = w + 1 then vlp d T w L m w else 0
def Gs (k dep : Nat) (m : Nat → Nat) : Nat := sumN (fun i => gd d T w L (ext d T w k dep m i)) (3 ^ k)
end
section
variable {d : PD} {T : Nat → Nat} {w L : Nat}
theorem ext_lo : ∀ k dep (m : Nat → Nat) i j, j < dep → ext d T w k dep m i j = m j
  | 0, _, _, _, _, _ => rfl
  | k + 1, dep, m, i, j, h => by rw [ext, ext_lo k (dep + 1) _ _ j (by omega), upN_n (by omega)]
theorem Gs_s (k dep : Nat) (m : Nat → Nat) : Gs d T w L (k + 1) dep m = Gs d T w L k (dep + 1) (upN m dep (cw d T w dep + 0 - 1)) + Gs d T w L k (dep + 1) (upN m dep (cw d T w dep + 1 - 1)) + Gs d T w L k (dep + 1) (upN m dep (cw d T w dep + 2 - 1)) := by
  unfold Gs
  rw [Nat.pow_succ, Nat.mul_comm, sumN_3]
  congr 1
  · congr 1
    · refine sumN_cong _ (fun i _ => ?_)
      rw [ext, show 3 * i % 3 = 0 by omega, show 3 * i / 3 = i by omega]
    · refine sumN_cong _ (fun i _ => ?_)
      rw [ext, show (3 * i + 1) % 3 = 1 by omega, show (3 * i + 1) / 3 = i by omega]
  · refine sumN_cong _ (fun i _ => ?_)
    rw [ext, show (3 * i + 2) % 3 = 2 by omega, show (3 * i + 2) / 3 = i by omega]
theorem vlp_s {n x v : Nat} {m : Nat → Nat} : vlp d T w (n + 1) (upN m n x) v = vlp d T w n m v * hrs (lss d) (mre d) (cnt d T v (n % (2 * wl d w))) x := by
  unfold vlp
  split
  · unfold prv
    rw [prodN, upN_s, ← Nat.mul_assoc]
    congr 2
    exact prodN_cong n (fun k hk => by rw [upN_n (by omega)])
  · rw [Nat.zero_mul]
theorem vlp_le (hd : okP d) {n v : Nat} {m : Nat → Nat} (hv : v < nw d) (hn : n ≤ 6) : vlp d T w n m v ≤ 99 * 20 ^ 6 := by
  unfold vlp
  split
  · have h1 := (hd.2.2.2.2.2.2.1 v hv).2.2.2.1
    have h2 := prodN_le (f := fun c => hrs (lss d) (mre d) (cnt d T v (c % (2 * wl d w))) (m c)) (b := 20) n (fun k _ => hrs_le hd.2.2.2.1 hd.2.2.2.2.1)
    exact Nat.mul_le_mul h1 (Nat.le_trans h2 (Nat.pow_le_pow_right (by omega) hn))
  · exact Nat.zero_le _
theorem hrs_o {l m c o : Nat} (hc : 1 ≤ c) : hrs l m c (c + o - 1) = hrs l m 1 o := by
  unfold hrs
  have a1 : (c + o - 1 = c) ↔ (o = 1) := by omega
  have a2 : (c + o - 1 + 1 = c) ↔ (o + 1 = 1) := by omega
  have a3 : (c + o - 1 = c + 1) ↔ (o = 1 + 1) := by omega
  simp only [a1, a2, a3]
theorem gd_0 {m : Nat → Nat} (h : vlp d T w L m w = 0) : gd d T w L m = 0 := by unfold gd; rw [h]; split <;> rfl
theorem Gs_0 {k dep x : Nat} {m : Nat → Nat} (hk : dep < L) (h : hrs (lss d) (mre d) (cw d T w dep) x = 0) : Gs d T w L k (dep + 1) (upN m dep x) = 0 := by
  refine sumN_0 _ (fun i _ => gd_0 ?_)
  unfold vlp
  rw [if_pos rfl]
  unfold prv
  rw [prodN_0 L dep hk (by rw [ext_lo _ _ _ _ _ (by omega), upN_s]; exact h), Nat.mul_zero]
theorem gd_le (hd : okP d) (hw : w < nw d) (hL : L ≤ 6) {m : Nat → Nat} : gd d T w L m ≤ 99 * 20 ^ 6 := by
  unfold gd; split
  · exact vlp_le hd hw hL
  · exact Nat.zero_le _
theorem sp_X1_topOf_G {f : Nat → Nat} {n r : Nat} {D : Nat → Nat → Int64} (hr : r < 7) (h10 : n ≤ 10) (hb : ∀ w, w < n → f w < 2 ^ 63) (hc : ∀ w, w < n → D r w = lN (f w)) {post : Int32 → Prop} (h : post (tI (-1) (tpN f n).1)) : wp_X1_topOf_G D (nI r) (nI n) post := by
  unfold wp_X1_topOf_G
  refine fix_0 (fun i => (tI (-1) (tpN f i).1, lN (tpN f i).2, nI i)) n rfl ?_
  intro K i hi hK
  unfold F_X1_topOf_G_7
  dsimp only
  rw [nI_leI (by omega) (by omega)]
  refine ⟨fun c => ?_, fun c => ?_⟩
  · have : i = n := by omega
    subst this; exact h
  · have v : vp_in (nI i) 10 := (vin_n (by omega)).mpr (by omega)
    have vr : vp_in (nI r) 7 := (vin_n (by omega)).mpr (by omega)
    have hK := hK (by omega)
    have b2 : (tpN f i).2 < 2 ^ 63 := by
      have := tpN_b (f := f) (b := 2 ^ 63 - 1) i (fun w hw => by have := hb w (by omega); omega)
      omega
    rw [nI_clamp (by omega), nI_clamp (by omega), hc i (by omega), pk_lLT b2 (hb i (by omega)), nI_1]
    rw [tpN] at hK
    refine ⟨vr, v, fun q => ?_, fun q => ⟨vr, v, ?_⟩⟩
    · rw [if_neg q] at hK; exact hK
    · rw [if_pos q] at hK; rw [← tI_s (z := -1)]; exact hK
theorem sp_X1_listen (hd : okP d) (hw : w < nw d) {dep x : Nat} {m : Nat → Nat} {D : Nat → Nat → Int64} {kn : Nat → Nat → Int32} (hcv : cov d T) (hdep : dep < 6) (hw3 : 2 * wl d w ≤ 6) (hx : x ≤ 7) (hD : ∀ v, v < nw d → D dep v = lN (vlp d T w dep m v)) (hkn : ∀ v, v < nw d → wl d v = wl d w → ∀ c, c < 2 * wl d w → kn c v = nI (cnt d T v c)) {post : (Nat → Nat → Int64) → Prop} (h : ∀ D', (∀ j, j ≤ dep → ∀ v, D' j v = D j v) → (∀ v, v < nw d → D' (dep + 1) v = lN (vlp d T w (dep + 1) (upN m dep x) v)) → post D') : wp_X1_listen (nI (lss d)) (nI (mre d)) kn D (nI (nw d)) (nI (dep % (2 * wl d w))) (nI dep) (nI x) post := by
  have h10 := hd.1
  have h8 := hd.2.2.2.2.2.2.1 w hw
  have hml := Nat.mod_lt dep (show 0 < 2 * wl d w by omega)
  unfold wp_X1_listen
  rw [nI_1]
  refine ⟨(vin_n (by omega)).mpr (by omega), (vin_n (by omega)).mpr (by omega), ?_⟩
  refine fix_iv (fun i v => v.1 = nI i ∧ (∀ j, j ≤ dep → ∀ u, v.2 j u = D j u) ∧ ∀ u, u < i → v.2 (dep + 1) u = lN (vlp d T w (dep + 1) (upN m dep x) u)) (nw d) (fun K i v hi hI hK => ?_) 0 (by omega) ⟨rfl, fun _ _ _ => rfl, fun u hu => absurd hu (by omega)⟩
  obtain ⟨x7, D1⟩ := v
  obtain ⟨e1, e2, e3⟩ := hI
  dsimp only at e1 e2 e3
  subst e1
  unfold F_X1_listen_21
  dsimp only
  rw [nI_leI (by omega) (by omega)]
  refine ⟨fun c => ?_, fun c => ?_⟩
  · have : i = nw d := by omega
    subst this; exact h D1 e2 e3
  · have vd : vp_in (nI dep) 7 := (vin_n (by omega)).mpr (by omega)
    have vd1 : vp_in (nI (dep + 1)) 7 := (vin_n (by omega)).mpr (by omega)
    have vi : vp_in (nI i) 10 := (vin_n (by omega)).mpr (by omega)
    have vm : vp_in (nI (dep % (2 * wl d w))) 6 := (vin_n (by omega)).mpr (by omega)
    have hb := vlp_le (T := T) (w := w) (m := m) (n := dep) hd (show i < nw d by omega) (by omega)
    have key : ∀ y, y = lN (vlp d T w (dep + 1) (upN m dep x) i) → K (nI (i + 1), updR D1 (dep + 1) (vp_updL (D1 (dep + 1)) i y)) := fun y hy => hK (by omega) _ ⟨rfl, fun j hj u => by
      show updR D1 (dep + 1) _ j u = _
      rw [updR_n (by omega)]; exact e2 j hj u, fun u hu => by
      show updR D1 (dep + 1) _ (dep + 1) u = _
      rw [updR_s]
      rcases Nat.lt_or_ge u i with z | z
      · rw [pk_uLn (by omega)]; exact e3 u z
      · have : u = i := by omega
        subst this; rw [pk_uLs]; exact hy⟩
    have e4 : D1 dep i = lN (vlp d T w dep m i) := by rw [e2 dep (by omega) i]; exact hD i (by omega)
    rw [nI_clamp (by omega), nI_clamp (by omega), nI_clamp (by omega), nI_clamp (by omega), e4, j0, pk_lEQ (by omega) (by omega), nI_1]
    refine ⟨vd, vi, fun q => ⟨vd, vi, vm, vi, ?_⟩, fun q => ⟨vd1, vi, key _ (by rw [vlp_s, q, Nat.zero_mul])⟩⟩
    have hwl : wl d i = wl d w := Classical.byContradiction (fun z => q (by unfold vlp; rw [if_neg z]))
    rw [hkn i (by omega) hwl _ hml]
    have hc5 := cnt_rng hcv (show i < nw d by omega) (c := dep % (2 * wl d w)) (by omega)
    refine sp_slips hd.2.2.2.1 hd.2.2.2.2.1 (by omega) (by omega) ⟨vd1, vi, key _ ?_⟩
    have hle := hrs_le (l := lss d) (m := mre d) (c := cnt d T i (dep % (2 * wl d w))) (x := x) hd.2.2.2.1 hd.2.2.2.2.1
    rw [nI_l (by omega), lN_mul, vlp_s]
theorem tI_w {t : Nat} (ht : t ≤ 10) (hw : w < 10) : tI (-1) t = nI w ↔ t = w + 1 := by
  unfold tI
  split
  · rename_i q; exact ⟨fun z => absurd z.symm (nI_ne_ng (b := 1) (by omega) (by decide) (by decide)), fun z => absurd z (by omega)⟩
  · rw [nI_eq (by omega) (by omega)]; omega
theorem off3 {o : Nat} (h : o ≤ 3) : ((1 : Int32) < nI o - 1 ↔ o = 3) := by
  rcases (show o = 0 ∨ o = 1 ∨ o = 2 ∨ o = 3 by omega) with rfl | rfl | rfl | rfl <;> decide
theorem sp_good (hd : okP d) (hw : w < nw d) (hcv : cov d T) {kn : Nat → Nat → Int32} (hL : L ≤ 6) (hw3 : 2 * wl d w ≤ 6) (hkn : ∀ v, v < nw d → wl d v = wl d w → ∀ c, c < 2 * wl d w → kn c v = nI (cnt d T v c)) : ∀ (k f dep : Nat) (m : Nat → Nat) (D : Nat → Nat → Int64) (post : Int64 → (Nat → Nat → Int64) → Prop), dep + k = L → k < f → (∀ v, v < nw d → D dep v = lN (vlp d T w dep m v)) → (∀ D', (∀ j, j ≤ dep → ∀ v, D' j v = D j v) → post (lN (Gs d T w L k dep m)) D') → wp_X1_goodWays f (nI (lss d)) (nI (mre d)) D (nI (nw d)) kn (nI w) (nI (2 * wl d w)) (nI dep) (nI L) post := by
  have h10 := hd.1
  have h8 := hd.2.2.2.2.2.2.1 w hw
  intro k
  induction k with
  | zero =>
    intro f dep m D post hk hf hD h
    obtain ⟨f, rfl⟩ : ∃ g, f = g + 1 := ⟨f - 1, by omega⟩
    have : dep = L := by omega
    subst this
    show wpB_X1_goodWays _ _ _ _ _ _ _ _ _ _ _
    unfold wpB_X1_goodWays B_X1_goodWays_12
    rw [nI_leI (by omega) (by omega)]
    have vd : vp_in (nI dep) 7 := (vin_n (by omega)).mpr (by omega)
    have ht := tpN_le (vlp d T w dep m) (nw d)
    refine ⟨fun _ => ⟨vd, sp_X1_topOf_G (f := vlp d T w dep m) (by omega) h10 (fun v hv => by have := vlp_le (T := T) (w := w) (n := dep) (m := m) hd hv hL; omega) hD ?_⟩, fun q => absurd (Nat.le_refl _) q⟩
    rw [tI_w (by omega) (by omega), nI_clamp (by omega), nI_clamp (by omega), hD w hw]
    have hG : Gs d T w dep 0 dep m = gd d T w dep m := Nat.zero_add _
    rw [hG] at h
    unfold gd at h
    refine ⟨fun q => ?_, fun q => ⟨vd, vd, (vin_n (by omega)).mpr (by omega), ?_⟩⟩
    · rw [if_neg q] at h; exact h D (fun _ _ _ => rfl)
    · rw [if_pos q] at h; exact h D (fun _ _ _ => rfl)
  | succ k ih =>
    intro f dep m D post hk hf hD h
    obtain ⟨f, rfl⟩ : ∃ g, f = g + 1 := ⟨f - 1, by omega⟩
    show wpB_X1_goodWays _ _ _ _ _ _ _ _ _ _ _
    have hml := Nat.mod_lt dep (show 0 < 2 * wl d w by omega)
    unfold wpB_X1_goodWays
    rw [nI_leI (by omega) (by omega), i1, nI_leI (by omega) (by omega), i0, nI_eq (by omega) (by omega), pk_rem (by omega) (by omega) (by omega)]
    refine ⟨fun q => by omega, fun _ => ⟨fun _ => ⟨by omega, (vin_n (by omega)).mpr (by omega), ?_⟩, fun q => absurd (by omega) q⟩⟩
    refine fix_iv (fun o v => v.1 = lN (sumN (fun o => Gs d T w L k (dep + 1) (upN m dep (cw d T w dep + o - 1))) o) ∧ v.2.1 = nI o - 1 ∧ ∀ j, j ≤ dep → ∀ u, v.2.2 j u = D j u) 3 (fun K o v ho hI hK => ?_) 0 (by omega) ⟨rfl, rfl, fun _ _ _ => rfl⟩
    obtain ⟨x7, x9, D1⟩ := v
    obtain ⟨e1, e2, e3⟩ := hI
    dsimp only at e1 e2 e3
    subst e1; subst e2
    unfold F_X1_goodWays_64
    dsimp only
    rw [off3 ho]
    have en : nI o - 1 + 1 = nI (o + 1) - 1 := by rw [nI_pred]; grind
    have hc5 : 1 ≤ cw d T w dep ∧ cw d T w dep ≤ 5 := cnt_rng hcv hw (c := dep % (2 * wl d w)) (by omega)
    refine ⟨fun q => ?_, fun q => ?_⟩
    · subst q
      refine h D1 e3 |> fun z => ?_
      rw [Gs_s] at z
      have e : sumN (fun o => Gs d T w L k (dep + 1) (upN m dep (cw d T w dep + o - 1))) 3 = Gs d T w L k (dep + 1) (upN m dep (cw d T w dep + 0 - 1)) + Gs d T w L k (dep + 1) (upN m dep (cw d T w dep + 1 - 1)) + Gs d T w L k (dep + 1) (upN m dep (cw d T w dep + 2 - 1)) := by
        simp only [sumN]; omega
      rw [e]; exact z
    · have hK := hK (by omega)
      refine sp_slips (c := 1) (x := o) hd.2.2.2.1 hd.2.2.2.2.1 (by omega) (by omega) ?_
      have hle := hrs_le (l := lss d) (m := mre d) (c := 1) (x := o) hd.2.2.2.1 hd.2.2.2.2.1
      rw [i0, nI_leI (by omega) (by omega), en]
      refine ⟨fun z => hK _ ⟨?_, rfl, e3⟩, fun z => ⟨(vin_n (by omega)).mpr (by omega), (vin_n (by omega)).mpr (by omega), ?_⟩⟩
      · dsimp only
        rw [sumN, Gs_0 (by omega) (by rw [hrs_o hc5.1]; omega)]; rfl
      · have eh : kn (nI (dep % (2 * wl d w))).toNatClampNeg (nI w).toNatClampNeg + (nI o - 1) = nI (cw d T w dep + o - 1) := by
          rw [nI_clamp (by omega), nI_clamp (by omega), hkn w hw rfl _ hml]
          show nI (cw d T w dep) + (nI o - 1) = _
          have : nI (cw d T w dep) + (nI o - 1) = (nI (cw d T w dep) + nI o) - 1 := by grind
          rw [this, nI_add, i1, pk_sub (by omega)]
        rw [eh]
        refine sp_X1_listen hd hw hcv (by omega) hw3 (by omega) (fun v hv => by rw [e3 dep (by omega) v]; exact hD v hv) hkn (fun D2 f1 f2 => ?_)
        rw [nI_1]
        refine ih f (dep + 1) _ D2 _ (by omega) (by omega) f2 (fun D3 f3 => ?_)
        refine hK _ ⟨?_, rfl, fun j hj u => ?_⟩
        · dsimp only; rw [lN_add]; rfl
        · dsimp only; rw [f3 j (by omega) u, f1 j hj u, e3 j hj u]
variable {gu le mo kk pa ga width size hs aw : Int32} {ru wo st lens lets wts ln pl hc kn may : Nat → Int32} {D : Nat → Nat → Int64} {Kn : Nat → Nat → Int32}
theorem sp_X2_cnt0 (hX : XW d width size lens lets wts) (hp : ∀ l, l < 26 → pl l = plX T l) {v c : Nat} (hv : v < nw d) (hc : 2 * wl d v ≤ c) (hc6 : c < 100) {post : Int32 → Prop} (h : post 0) : wp_X2_countOfName 10 80 width size lens lets pl (nI v) (nI c) post := by
  have h9 := (hX.1.2.2.2.2.2.2.2 v hv).1
  unfold wp_X2_countOfName wp_X4_letterAt
  rw [i2, pk_rem (by omega) (by omega) (by omega), pk_div (by omega) (by omega) (by omega)]
  refine ⟨fun q => absurd q (nI_pos (by omega)), fun _ => sp_X4_lengthOf hX.1 hv ?_⟩
  rw [nI_leI (by omega) (by omega)]
  refine ⟨fun _ => sp_X2_placeOf hp (fun _ => ⟨fun q => absurd q (by decide), fun _ => h⟩) (fun l hl e => ?_), fun q => absurd (by omega) q⟩
  exact absurd ((nI_eq (a := 0) (by omega) (by omega)).mp e) (by omega)
theorem sp_X1_readRight (hd : okP d) (hS : XS d gu le mo kk pa ga) (hX : XW d width size lens lets wts) (hp : ∀ l, l < 26 → pl l = plX T l) (hcv : cov d T) {n : Nat} (hw : w < nw d) (hn : 1 ≤ n) (hn3 : n ≤ 3) (hL : wl d w * n ≤ 3) {post : Int64 → (Nat → Nat → Int64) → (Nat → Nat → Int32) → Prop} (h : ∀ D' K', post (lN (Gs d T w (2 * wl d w * n) (2 * wl d w * n) 0 (fun _ => 0))) D' K') : wp_X1_readRight 10 80 le mo width size lens D Kn lets pl wts (nI w) (nI n) post := by
  have h10 := hd.1
  have h8 := hd.2.2.2.2.2.2.1 w hw
  have hwn : wl d w ≤ wl d w * n := Nat.le_mul_of_pos_right _ (by omega)
  have hL6 : 2 * wl d w * n ≤ 6 := by rw [Nat.mul_assoc]; omega
  unfold wp_X1_readRight
  refine sp_X4_lengthOf hX.1 hw ?_
  rw [i2, pk_mul, pk_mul, i1, nI_ltI (by omega) (by omega), i6, nI_leI (by omega) (by omega)]
  refine ⟨fun q => by omega, fun _ => ⟨fun _ => ?_, fun q => absurd hL6 q⟩⟩
  refine fix_iv (fun i v => v.1 = nI i ∧ (∀ u, u < i → v.2.1 0 u = lN (vlp d T w 0 (fun _ => 0) u)) ∧ ∀ u, u < i → wl d u = wl d w → ∀ c, c < 2 * wl d w → v.2.2 c u = nI (cnt d T u c)) (nw d) (fun K i v hi hI hK => ?_) 0 (by omega) ⟨rfl, fun u hu => absurd hu (by omega), fun u hu => absurd hu (by omega)⟩
  obtain ⟨x6, D1, K1⟩ := v
  obtain ⟨e1, e2, e3⟩ := hI
  dsimp only at e1 e2 e3
  subst e1
  unfold F_X1_readRight_33
  dsimp only
  rw [show (size ≤ nI i) = (nI (nw d) ≤ nI i) by rw [hX.1.2.1], nI_leI (by omega) (by omega)]
  refine ⟨fun q => ?_, fun q => sp_X4_lengthOf hX.1 (by omega) ?_⟩
  · have : i = nw d := by omega
    subst this
    rw [pk_mul, hX.1.2.1, hS.2.1, hS.2.2.1]
    exact sp_good hd hw hcv hL6 (by omega) e3 _ 8 0 _ _ _ (by omega) (by omega) e2 (fun D' _ => h D' K1)
  · have h8i := hd.2.2.2.2.2.2.1 i (by omega)
    have v0 : vp_in 0 7 := by unfold vp_in; decide
    have vi : vp_in (nI i) 10 := (vin_n (by omega)).mpr (by omega)
    rw [i2, pk_mul, nI_eq (by omega) (by omega), nI_clamp (by omega), hX.2 i (by omega), nI_l (by omega), show (0 : Int32).toNatClampNeg = 0 from rfl]
    have key : ∀ y, y = lN (vlp d T w 0 (fun _ => 0) i) → ∃ n, fixN (F_X1_readRight_85 10 80 width size lens lets pl (nI (2 * wl d w)) (nI i) (updR D1 0 (vp_updL (D1 0) i y)) K) n (0, K1) := fun y hy => by
      refine fix_iv (fun c v => v.1 = nI c ∧ (∀ u, u < i → wl d u = wl d w → ∀ c, c < 2 * wl d w → v.2 c u = nI (cnt d T u c)) ∧ (wl d i = wl d w → ∀ c', c' < c → v.2 c' i = nI (cnt d T i c'))) (2 * wl d w) (fun K' c v hc hI hK' => ?_) 0 (by omega) ⟨rfl, e3, fun _ c' hc' => absurd hc' (by omega)⟩
      obtain ⟨x7, K2⟩ := v
      obtain ⟨f1, f2, f3⟩ := hI
      dsimp only at f1 f2 f3
      subst f1
      unfold F_X1_readRight_85
      dsimp only
      rw [nI_leI (by omega) (by omega), nI_clamp (by omega), nI_clamp (by omega)]
      refine ⟨fun q => ?_, fun q => ⟨(vin_n (by omega)).mpr (by omega), ?_⟩⟩
      · rw [nI_1]
        refine hK (by omega) _ ⟨rfl, fun u hu => ?_, fun u hu hwl c' hc' => ?_⟩
        · dsimp only
          rw [updR_s]
          rcases Nat.lt_or_ge u i with z | z
          · rw [pk_uLn (by omega)]; exact e2 u z
          · have : u = i := by omega
            subst this; rw [pk_uLs]; exact hy
        · rcases Nat.lt_or_ge u i with z | z
          · exact f2 u z hwl c' hc'
          · have : u = i := by omega
            subst this; exact f3 hwl c' (by omega)
      · have key2 : ∀ r, (wl d i = wl d w → r = nI (cnt d T i c)) → K' (nI c + 1, updR K2 c (upd (K2 c) i r)) := fun r hr => by
          rw [nI_1]
          refine hK' (by omega) _ ⟨rfl, fun u hu hwl c' hc' => ?_, fun hwl c' hc' => ?_⟩
          · dsimp only
            by_cases z : c' = c
            · subst z; rw [updR_s, pk_un (by omega)]; exact f2 u hu hwl c' hc'
            · rw [updR_n z]; exact f2 u hu hwl c' hc'
          · dsimp only
            by_cases z : c' = c
            · subst z; rw [updR_s, pk_us]; exact hr hwl
            · rw [updR_n z]; exact f3 hwl c' (by omega)
        have vc : vp_in (nI c) 6 := (vin_n (by omega)).mpr (by omega)
        rcases Nat.lt_or_ge c (2 * wl d i) with z | z
        · exact sp_X2_cnt hd hX hp hcv (by omega) z ⟨vc, vi, key2 _ (fun _ => rfl)⟩
        · exact sp_X2_cnt0 hX hp (by omega) z (by omega) ⟨vc, vi, key2 _ (fun e => by omega)⟩
    refine ⟨fun q => ⟨v0, vi, key _ ?_⟩, fun q => ⟨vi, v0, vi, key _ ?_⟩⟩
    · unfold vlp; rw [if_neg (by omega)]; rfl
    · unfold vlp prv prodN; rw [if_pos (by omega), Nat.mul_one]
end
