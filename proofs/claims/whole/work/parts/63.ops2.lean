theorem rng10 {y L : Int32} (h0 : 0 ≤ L) (h9 : L ≤ 8) : (10 ≤ y ∧ y ≤ 9 + L) ↔ (0 ≤ y - 10 ∧ y - 10 < L) := by
  obtain ⟨c1, e1⟩ := T_sub y 10
  obtain ⟨c2, e2⟩ := T_add 9 L
  have := T_rng (y - 10); have := T_rng (9 + L); have := T_rng y
  have z0 : (0 : Int32).toInt = 0 := rfl
  have z8 : (8 : Int32).toInt = 8 := rfl
  have z9 : (9 : Int32).toInt = 9 := rfl
  have z10 : (10 : Int32).toInt = 10 := rfl
  rw [T_le] at h0 h9
  rw [T_le, T_le, T_le, T_lt]
  omega
theorem idx10 {y a k : Int32} (h : y - 10 = k) : (a + y) - 10 = a + k := by grind
theorem lt10 {y : Int32} (h : y < 10) : ¬ (0 ≤ y - 10 ∧ y - 10 < 100) := by grind
theorem ge10 {y L : Int32} (h : ¬ y < 10) (h2 : ¬ L ≤ y - 10) : 0 ≤ y - 10 ∧ y - 10 < L := by grind
/-! sums, knocks -/
def sumN (f : Nat → Nat) : Nat → Nat
  | 0 => 0
  | n + 1 => sumN f n + f n
theorem sumN_le {f : Nat → Nat} {b : Nat} : ∀ n, (∀ k, k < n → f k ≤ b) → sumN f n ≤ n * b
  | 0, _ => Nat.zero_le _
  | n + 1, h => by
    have := sumN_le n (fun k hk => h k (by omega))
    have := h n (by omega)
    rw [sumN, Nat.succ_mul]; omega
theorem sumN_cong {f g : Nat → Nat} : ∀ n, (∀ k, k < n → f k = g k) → sumN f n = sumN g n
  | 0, _ => rfl
  | n + 1, h => by rw [sumN, sumN, sumN_cong n (fun k hk => h k (by omega)), h n (by omega)]
def kn1 (T : Nat → Nat) (l : Nat) : Nat := pidx T l / 5 + pidx T l % 5 + 2
theorem kn1_le {T : Nat → Nat} {l : Nat} (h : pidx T l < 25) : kn1 T l ≤ 10 := by unfold kn1; omega
theorem kn_form {p : Nat} (h : p < 25) : (nI p / 5 + (nI p - nI p / 5 * 5)) + 2 = nI (p / 5 + p % 5 + 2) := by
  rw [i5, i2, pk_rem (by omega) (by omega) (by omega), pk_div (by omega) (by omega) (by omega), nI_add, nI_add]
theorem sp_X2_knocksOf {T : Nat → Nat} {pl : Nat → Int32} {l : Nat} {post : Int32 → Prop} (hp : ∀ l, l < 26 → pl l = plX T l) (hl : l < 26) (hi : pidx T l < 25) (h : post (nI (kn1 T l))) : wp_X2_knocksOf pl (nI (97 + l)) post := by
  unfold wp_X2_knocksOf
  refine sp_X2_placeOf hp (fun c => ?_) (fun l' hl' e => ?_)
  · exfalso; apply c; rw [i97, pk_sub (by omega)]; exact (vin_n (by omega)).mpr (by omega)
  · have : l' = l := by have := (nI_eq (by omega) (by omega)).mp e; omega
    subst this
    rw [plX_nn, plX_in hi, kn_form hi]
    exact ⟨fun _ => h, fun q => absurd hi q⟩
theorem sp_X12_knocks {T : Nat → Nat} {st : Nat → Int32} {l : Nat} {post : Int32 → Prop} (hst : MT 0 T st) (hT : okT T) (hl : l < 26) (hi : pidx T l < 25) (h : post (nI (kn1 T l))) : wp_X12_knocks st (nI l) post := by
  unfold wp_X12_knocks
  refine sp_X12_placeOf (T := T) (fun p hp => by have := hst p hp; rw [Nat.zero_add] at this; exact this) hT (by omega) ?_
  unfold wp_X12_knocksAt
  rw [plc_in hi, kn_form hi]
  exact h
/-! names of the class: W letters at most each -/
def XN (W nL nC n : Nat) (len : Nat → Nat) (ch : Nat → Nat → Nat) (width size : Int32) (lens lets : Nat → Int32) : Prop := width = nI W ∧ size = nI n ∧ n ≤ nL ∧ W * n ≤ nC ∧ nL ≤ 100 ∧ nC ≤ 100 ∧ W ≤ 8 ∧ ∀ w, w < n → len w ≤ W ∧ lens w = nI (len w) ∧ ∀ k, k < len w → lets (W * w + k) = nI (97 + ch w k)
section
variable {W nL nC n : Nat} {len : Nat → Nat} {ch : Nat → Nat → Nat} {width size : Int32} {lens lets : Nat → Int32} {post : Int32 → Prop}
theorem sp_X4_lengthOf (hX : XN W nL nC n len ch width size lens lets) {w : Nat} (hw : w < n) (h : post (nI (len w))) : wp_X4_lengthOf nL size lens (nI w) post := by
  obtain ⟨-, h2, h3, -, h5, -, -, h8⟩ := hX
  unfold wp_X4_lengthOf
  rw [h2, nI_clamp (by omega), (h8 w hw).2.1]
  simp (disch := omega) only [i0, nI_ltI, nI_leI, vin_n]
  exact ⟨fun c => by omega, fun _ => ⟨fun c => by omega, fun _ => ⟨by omega, h⟩⟩⟩
theorem sp_X4_letterAt (hX : XN W nL nC n len ch width size lens lets) {w k : Nat} (hw : w < n) (hk : k < len w) (h : post (nI (97 + ch w k))) : wp_X4_letterAt nL nC width size lens lets (nI w) (nI k) post := by
  unfold wp_X4_letterAt
  have hX' := hX
  obtain ⟨h1, h2, h3, h4, h5, h6, h7, h8⟩ := hX'
  have h9 := (h8 w hw).1
  have h10 : W * w + k < nC := by
    have : W * w + W ≤ W * n := by rw [← Nat.mul_succ]; exact Nat.mul_le_mul_left W hw
    omega
  refine ⟨fun c => absurd c (nI_pos (by omega)), fun _ => sp_X4_lengthOf hX hw ?_⟩
  rw [h1, nI_leI (by omega) (by omega), pk_mul, nI_add, Nat.mul_comm w W]
  refine ⟨fun c => by omega, fun _ => ⟨(vin_n (by omega)).mpr h10, ?_⟩⟩
  rw [nI_clamp (by omega), (h8 w hw).2.2 k hk]
  exact h
theorem sp_X2_knocksOfName {T : Nat → Nat} {pl : Nat → Int32} (hX : XN W nL nC n len ch width size lens lets) (hp : ∀ l, l < 26 → pl l = plX T l) {w : Nat} (hw : w < n) (hc : ∀ k, k < len w → ch w k < 26 ∧ pidx T (ch w k) < 25) (h : post (nI (sumN (fun k => kn1 T (ch w k)) (len w)))) : wp_X2_knocksOfName nL nC width size lens lets pl (nI w) post := by
  have hl8 : len w ≤ 8 := by have := (hX.2.2.2.2.2.2.2 w hw).1; have := hX.2.2.2.2.2.2.1; omega
  unfold wp_X2_knocksOfName
  refine fix_0 (fun k => (nI (sumN (fun k => kn1 T (ch w k)) k), nI k)) (len w) (by rfl) ?_
  intro K k hk hK
  unfold F_X2_knocksOfName_5
  dsimp only
  refine sp_X4_lengthOf hX hw ?_
  rw [nI_leI (by omega) (by omega)]
  refine ⟨fun c => ?_, fun c => ?_⟩
  · have : k = len w := by omega
    subst this
    exact h
  · have hk' : k < len w := by omega
    refine sp_X4_letterAt hX hw hk' (sp_X2_knocksOf hp (hc k hk').1 (hc k hk').2 ?_)
    rw [nI_add, nI_1]
    exact hK hk'
end
/-! words of the reference -/
def MW (d : PD) (ru wo : Nat → Int32) : Prop := ru 5 = nI (nw d) ∧ ∀ w, w < nw d → wo (10 * w + 8) = nI (wl d w) ∧ wo (10 * w + 9) = nI (ww d w) ∧ ∀ k, k < wl d w → wo (10 * w + k) = nI (wc d w k)
def XW (d : PD) (width size : Int32) (lens lets wts : Nat → Int32) : Prop := XN 8 10 80 (nw d) (wl d) (wc d) width size lens lets ∧ ∀ w, w < nw d → wts w = nI (ww d w)
section
variable {d : PD} {ru wo st : Nat → Int32} {T : Nat → Nat} {post : Int32 → Prop}
theorem sp_X12_size (hd : okP d) (hM : MW d ru wo) {w : Nat} (hw : w < nw d) (h : post (nI (wl d w))) : wp_X12_size wo (nI w) post := by
  have := hd.1
  unfold wp_X12_size
  rw [i10, i8, pk_mul, nI_add, nI_clamp (by omega), (hM.2 w hw).1]
  exact ⟨(vin_n (by omega)).mpr (by omega), h⟩
def kw (d : PD) (T : Nat → Nat) (w : Nat) : Nat := sumN (fun k => kn1 T (wc d w k)) (wl d w)
theorem kw_le (hd : okP d) (hc : cov d T) {w : Nat} (hw : w < nw d) : kw d T w ≤ 80 := by
  have h1 := sumN_le (f := fun k => kn1 T (wc d w k)) (b := 10) (wl d w) (fun k hk => kn1_le (hc.1 w hw k hk))
  have h2 := (hd.2.2.2.2.2.2.1 w hw).2.1
  unfold kw
  omega
theorem sp_X12_knocksOf (hd : okP d) (hM : MW d ru wo) (hst : MT 0 T st) (hT : okT T) (hc : cov d T) {w : Nat} (hw : w < nw d) (h : post (nI (kw d T w))) : wp_X12_knocksOf wo st (nI w) post := by
  have h10 := hd.1
  have h8 := hd.2.2.2.2.2.2.1 w hw
  unfold wp_X12_knocksOf
  refine fix_0 (fun k => (nI (sumN (fun k => kn1 T (wc d w k)) k), nI k)) (wl d w) (by rfl) ?_
  intro K k hk hK
  unfold F_X12_knocksOf_4
  dsimp only
  refine sp_X12_size hd hM hw ?_
  rw [nI_leI (by omega) (by omega)]
  refine ⟨fun c => ?_, fun c => ?_⟩
  · have : k = wl d w := by omega
    subst this
    exact h
  · have hk' : k < wl d w := by omega
    rw [i10, pk_mul, nI_add, nI_clamp (by omega), (hM.2 w hw).2.2 k hk']
    refine ⟨(vin_n (by omega)).mpr (by omega), sp_X12_knocks hst hT (h8.2.2.2.2 k hk') (hc.1 w hw k hk') ?_⟩
    rw [nI_add, nI_1]
    exact hK hk'
theorem sp_X2_kw {pl lens lets wts : Nat → Int32} {width size : Int32} (hd : okP d) (hX : XW d width size lens lets wts) (hp : ∀ l, l < 26 → pl l = plX T l) (hc : cov d T) {w : Nat} (hw : w < nw d) (h : post (nI (kw d T w))) : wp_X2_knocksOfName 10 80 width size lens lets pl (nI w) post :=
  sp_X2_knocksOfName hX.1 hp hw (fun k hk => ⟨(hd.2.2.2.2.2.2.1 w hw).2.2.2.2 k hk, hc.1 w hw k hk⟩) h
end
section
variable {d : PD} {aw : Int32} {st le pl : Nat → Int32} {hs : Int32} {hc kn : Nat → Int32} {ru wo lens lets wts : Nat → Int32} {width size : Int32}
theorem sim_knows (hd : okP d) (hX : size = nI (nw d)) (hM : ru 5 = nI (nw d)) (h : RI d aw st le pl hs hc kn) (x : Int32) : wp_X11_knows size kn x (fun r => wp_X12_knows ru st x (fun r' => r = r')) := by
  have h10 := hd.1
  obtain ⟨T, H, N, hn, h1, h2, h3, h4, h5⟩ := h
  unfold wp_X11_knows wp_X12_knows
  rw [hX]
  refine sp_X11_isWord (by omega) (fun c => ⟨fun _ => ?_, fun q => absurd rfl q⟩) (fun c => ⟨fun q => absurd q (by decide), fun _ => ?_⟩)
  · exact sp_X12_isWord (by omega) hM (fun _ => ⟨fun _ => rfl, fun q => absurd rfl q⟩) (fun q => absurd q c)
  · obtain ⟨k, hk, rfl⟩ := vin_ex (by omega) c
    refine ⟨(vin_n (by omega)).mpr (by omega), sp_X12_isWord (by omega) hM (fun q => absurd c q) (fun _ => ⟨fun q => absurd q (by decide), fun _ => ?_⟩)⟩
    have e := h5.2.2 k (by omega)
    rw [Nat.zero_add] at e
    rw [i50, nI_add, nI_clamp (by omega), nI_clamp (by omega), e, h3.2.2.2.2 k (by omega)]
    exact ⟨(vin_n (by omega)).mpr (by omega), rfl⟩
theorem sim_word (hd : okP d) (hX : XW d width size lens lets wts) (hM : MW d ru wo) (h : RI d aw st le pl hs hc kn) (x y : Int32) : wp_X11_word 10 80 width size lens lets pl wts x y (fun r => wp_X12_word aw st ru wo x y (fun r' aw' st' => r = r' ∧ RI d aw' st' le pl hs hc kn ∧ KS st st' aw aw')) := by
  have h10 := hd.1
  obtain ⟨T0', H0', N0', hn0', b1, b2, b3, b4, b5⟩ := id h
  unfold wp_X11_word
  rw [hX.1.2.1]
  refine sp_X11_isWord (by omega) (fun c => ⟨fun q => absurd rfl q, fun _ => ?_⟩) (fun c => ⟨fun _ => ?_, fun q => absurd q (by decide)⟩)
  · unfold wp_X12_word
    exact aw_use h (fun T H N hn st' a1 a2 a3 a4 a5 a6 a7 => sp_X12_isWord (by omega) hM.1 (fun _ => ⟨fun q => absurd rfl q, fun _ => ⟨rfl, a6, a7⟩⟩) (fun q => absurd q c))
  · obtain ⟨w, hw, rfl⟩ := vin_ex (by omega) c
    have h8 := hd.2.2.2.2.2.2.1 w hw
    have hX' : XN 8 10 80 (nw d) (wl d) (wc d) width (nI (nw d)) lens lets := by have := hX.1; rw [hX.1.2.1] at this; exact this
    have hXW' : XW d width (nI (nw d)) lens lets wts := ⟨hX', hX.2⟩
    refine sp_X4_lengthOf hX' hw ⟨fun c0 => ?_, fun c1 => ?_, fun c2 => ?_, fun n0 n1 n2 => ?_⟩
    · subst c0; unfold wp_X12_word
      exact aw_use h (fun T H N hn st' a1 a2 a3 a4 a5 a6 a7 => sp_X12_isWord (by omega) hM.1 (fun q => absurd c q) (fun _ => ⟨fun _ => ⟨fun _ => sp_X12_size hd hM hw ⟨rfl, a6, a7⟩, fun q => absurd q (by decide), fun q => absurd q (by decide), fun q => absurd rfl q⟩, fun q => absurd q (by decide)⟩))
    · subst c1; unfold wp_X12_word
      refine ⟨(vin_n (by omega)).mpr (by omega), aw_use h (fun T H N hn st' a1 a2 a3 a4 a5 a6 a7 => sp_X12_isWord (by omega) hM.1 (fun q => absurd c q) (fun _ => ⟨fun _ => ⟨fun q => absurd q (by decide), fun _ => ?_, fun q => absurd q (by decide), fun _ q => absurd rfl q⟩, fun q => absurd q (by decide)⟩))⟩
      rw [i10, i9, pk_mul, nI_add, nI_clamp (by omega), nI_clamp (by omega), (hM.2 w hw).2.1, hX.2 w hw]
      exact ⟨(vin_n (by omega)).mpr (by omega), rfl, a6, a7⟩
    · subst c2; unfold wp_X12_word
      have e0 : ∀ T : Nat → Nat, okT T → (∀ l, l < 26 → pl l = plX T l) → ∀ l, l < 26 → pidx T0' l < 25 → pidx T l = pidx T0' l := fun T hT hl l hl' hi => by
        have : plX T l = plX T0' l := by rw [← hl l hl', b3.2.1 l hl']
        have q : pidx T l < 25 := plX_nn.mp (by rw [this]; exact plX_nn.mpr hi)
        rw [plX_in q, plX_in hi] at this
        exact (nI_eq (by omega) (by omega)).mp this
      refine sp_X2_kw hd hXW' b3.2.1 b2 hw (aw_use h (fun T H N hn st' a1 a2 a3 a4 a5 a6 a7 => sp_X12_isWord (by omega) hM.1 (fun q => absurd c q) (fun _ => ⟨fun _ => ⟨fun q => absurd q (by decide), fun q => absurd q (by decide), fun _ => sp_X12_knocksOf hd hM a4 a1.1 a2 hw ⟨?_, a6, a7⟩, fun _ _ q => absurd rfl q⟩, fun q => absurd q (by decide)⟩)))
      unfold kw
      refine congrArg nI (sumN_cong _ (fun k hk => ?_))
      unfold kn1
      rw [e0 T a1.1 a3.2.1 _ (h8.2.2.2.2 k hk) (b2.1 w hw k hk)]
    · have e : vp_in (y - 10) (wl d w) ↔ 0 ≤ y - 10 ∧ y - 10 < nI (wl d w) := vin_I (by omega)
      have ey : y = (y - 10) + 10 := by grind
      have hl0 : (0 : Int32) ≤ nI (wl d w) := nI_nn (by omega)
      have hl9 : nI (wl d w) ≤ 8 := (nI_leI (a := wl d w) (b := 8) (by omega) (by decide)).mpr h8.2.1
      have key : ∀ r, (¬ vp_in (y - 10) (wl d w) → r = -1) → (∀ k, k < wl d w → y - 10 = nI k → r = nI (97 + wc d w k)) → wp_X12_word aw st ru wo (nI w) y (fun r' aw' st' => r = r' ∧ RI d aw' st' le pl hs hc kn ∧ KS st st' aw aw') := by
        intro r r1 r2
        unfold wp_X12_word
        refine aw_use h (fun T H N hn st' a1 a2 a3 a4 a5 a6 a7 => sp_X12_isWord (by omega) hM.1 (fun q => absurd c q) (fun _ => ⟨fun _ => ⟨fun q => absurd q n0, fun q => absurd q n1, fun q => absurd q n2, fun _ _ _ => sp_X12_size hd hM hw ?_⟩, fun q => absurd q (by decide)⟩))
        refine sp_X12_in (a := 10) (fun cc => ⟨fun _ => ⟨r1 (fun z => cc ((rng10 hl0 hl9).mpr (e.mp z))), a6, a7⟩, fun q => absurd rfl q⟩) (fun cc => ⟨fun q => absurd q (by decide), fun _ => ?_⟩)
        have hin : vp_in (y - 10) (wl d w) := e.mpr ((rng10 hl0 hl9).mp cc)
        obtain ⟨k, hk, ek⟩ := vin_ex (by omega) hin
        rw [idx10 ek, i10, pk_mul, nI_add, nI_clamp (by omega), (hM.2 w hw).2.2 k hk, i97, nI_add, Nat.add_comm (wc d w k)]
        exact ⟨(vin_n (by omega)).mpr (by omega), r2 k hk ek, a6, a7⟩
      refine ⟨fun cc => key _ (fun _ => rfl) (fun k hk q => ?_), fun cc => ⟨fun c3 => key _ (fun _ => rfl) (fun k hk q => ?_), fun c3 => ?_⟩⟩
      · exfalso; refine lt10 cc ?_; rw [q]; exact ⟨nI_nn (by omega), (nI_ltI (b := 100) (by omega) (by decide)).mpr (by omega)⟩
      · exfalso; rw [q, nI_leI (by omega) (by omega)] at c3; omega
      · have hin : vp_in (y - 10) (wl d w) := e.mpr (ge10 cc c3)
        obtain ⟨k, hk, ek⟩ := vin_ex (by omega) hin
        rw [ek]
        refine sp_X4_letterAt hX' hw hk (key _ (fun q => absurd hin q) (fun k' hk' q => ?_))
        rw [(nI_eq (by omega) (by omega)).mp (ek.symm.trans q)]
end
