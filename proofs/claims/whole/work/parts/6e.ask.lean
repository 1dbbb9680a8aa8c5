section
variable {d : PD} {aw : Int32} {st le pl : Nat → Int32} {hs : Int32} {hc kn : Nat → Int32} {ru wo lens lets wts : Nat → Int32} {width size : Int32}
/-! ask -/
def cnd (N : Nat → Nat) (bo ot : Int32) (w : Nat) : Bool := decide ((nI (N w) &&& bo) = bo ∧ (nI (N w) &&& ot) = 0)
def asq (f : Nat → Nat) (q : Nat → Bool) : Nat → Option Nat
  | 0 => none
  | w + 1 => if q w then (match asq f q w with
    | none => some w
    | some b => if f w < f b then some w else some b) else asq f q w
theorem asq_lt (f : Nat → Nat) (q : Nat → Bool) : ∀ w b, asq f q w = some b → b < w
  | 0, b, h => by cases h
  | w + 1, b, h => by
    have ih := asq_lt f q w
    unfold asq at h
    split at h
    · split at h
      · cases h; omega
      · rename_i b' e
        have := ih b' e
        split at h <;> cases h <;> omega
    · have := ih b h; omega
def oI (o : Option Nat) : Int32 := match o with
  | none => -4
  | some b => nI b
def oF (f : Nat → Nat) (o : Option Nat) : Nat := match o with
  | none => 0
  | some b => f b
theorem sim_ask (hd : okP d) (hX : XW d width size lens lets wts) (hM : MW d ru wo) (h : RI d aw st le pl hs hc kn) (x y z : Int32) : wp_X11_ask 10 80 width size kn lens lets pl x y z (fun r => wp_X12_ask aw st ru wo x y z (fun r' aw' st' => r = r' ∧ RI d aw' st' le pl hs hc kn ∧ KS st st' aw aw')) := by
  have h10 := hd.1
  obtain ⟨T, H, N, hn, h1, h2, h3, h4, h5⟩ := id h
  have e2048 : vp_in z 2048 ↔ 0 ≤ z ∧ z < 2048 := vin_I (by decide)
  have no : ¬ (vp_in x 11 ∧ vp_in y 11 ∧ vp_in z 2048) → wp_X12_ask aw st ru wo x y z (fun r' aw' st' => -1 = r' ∧ RI d aw' st' le pl hs hc kn ∧ KS st st' aw aw') := fun c => by
    unfold wp_X12_ask
    refine aw_use h (fun T H N hn st' a1 a2 a3 a4 a5 a6 a7 => ?_)
    exact sp_X12_isCell (fun _ => ⟨fun _ => ⟨rfl, a6, a7⟩, fun q => absurd rfl q⟩) (fun q1 => ⟨fun q => absurd q (by decide), fun _ => sp_X12_isCell (fun _ => ⟨fun _ => ⟨rfl, a6, a7⟩, fun q => absurd rfl q⟩) (fun q2 => ⟨fun q => absurd q (by decide), fun _ => sp_in0 (b := 2047) (n := 2048) (by decide) le_2047 (fun _ => ⟨fun q => absurd rfl q, fun _ => ⟨rfl, a6, a7⟩⟩) (fun q3 => absurd ⟨q1, q2, q3⟩ c)⟩)⟩)
  unfold wp_X11_ask
  refine sp_X11_isCell (fun c => ⟨fun _ => no (fun q => c q.1), fun q => absurd rfl q⟩) (fun c => ⟨fun q => absurd q (by decide), fun _ => sp_X11_isCell (fun c2 => ⟨fun _ => no (fun q => c2 q.2.1), fun q => absurd rfl q⟩) (fun c2 => ⟨fun q => absurd q (by decide), fun _ => ⟨fun c3 => no (fun q => ?_), fun c3 => ⟨fun c4 => ?_, fun c4 => no (fun q => ?_)⟩⟩⟩)⟩)
  · have := (e2048.mp q.2.2).1; rw [T_le] at this; rw [T_lt] at c3; omega
  · have hin : vp_in z 2048 := e2048.mpr (by rw [T_le]; rw [T_lt] at c3; exact ⟨by omega, c4⟩)
    rw [hX.1.2.1]
    have hXW' : XW d width (nI (nw d)) lens lets wts := ⟨by have := hX.1; rw [hX.1.2.1] at this; exact this, hX.2⟩
    generalize hbo : ((1 : Int32) <<< (x &&& 31)) ||| ((1 : Int32) <<< (y &&& 31)) = bo
    have hl := asq_lt (kw d T) (cnd N bo z)
    have hkw : ∀ w, w < nw d → kw d T w ≤ 80 := fun w hw => kw_le hd h2 hw
    have stepN : ∀ w, cnd N bo z w = false → asq (kw d T) (cnd N bo z) (w + 1) = asq (kw d T) (cnd N bo z) w := fun w q => by rw [asq, q]; rfl
    -- the class
    refine fix_0 (fun w => (oI (asq (kw d T) (cnd N bo z) w), nI (oF (kw d T) (asq (kw d T) (cnd N bo z) w)), nI w)) (nw d) rfl ?_
    intro K w hw hK
    unfold F_X11_ask_46
    dsimp only
    rw [nI_leI (by omega) (by omega)]
    refine ⟨fun c' => ?_, fun c' => ?_⟩
    · have : w = nw d := by omega
      subst this
      unfold wp_X12_ask
      refine sp_X12_awake h4 (fun st' m1 m2 => ?_)
      have g5 : MR 0 H N hn st' := h5.kept h1.2.1 (fun j a b => m2 j (by omega))
      have hRI : RI d 1 st' le pl hs hc kn := ⟨T, H, N, hn, h1, h2, h3, Or.inl ⟨rfl, m1⟩, g5⟩
      have hKS : KS st st' aw 1 := ⟨fun j hj => m2 j (by omega), fun _ => rfl⟩
      refine sp_X12_isCell (fun q => absurd c q) (fun _ => ⟨fun q => absurd q (by decide), fun _ => sp_X12_isCell (fun q => absurd c2 q) (fun _ => ⟨fun q => absurd q (by decide), fun _ => sp_in0 (b := 2047) (n := 2048) (by decide) le_2047 (fun q => absurd hin q) (fun _ => ⟨fun _ => ?_, fun q => absurd q (by decide)⟩)⟩)⟩)
      rw [hbo]
      refine fix_0 (fun w => (oI (asq (kw d T) (cnd N bo z) w), nI w)) (nw d) rfl ?_
      intro K w hw hK
      unfold F_X12_ask_48
      dsimp only
      rw [show (5 : Int32).toNatClampNeg = 5 from rfl, hM.1, nI_leI (by omega) (by omega)]
      refine ⟨by unfold vp_in; decide, fun c' => ?_, fun c' => ?_⟩
      · have : w = nw d := by omega
        subst this
        exact ⟨rfl, hRI, hKS⟩
      · have es := g5.2.2 w (by omega)
        rw [Nat.zero_add] at es
        have hK := hK (by omega)
        have hin9 : vp_in (nI (50 + w)) 192 := (vin_n (by omega)).mpr (by omega)
        rw [i50, nI_add, nI_clamp (by omega), es]
        have f96 : cnd N bo z w = false → B_X12_ask_96 wo (oI (asq (kw d T) (cnd N bo z) w)) (nI w) st' K := fun q => by
          unfold B_X12_ask_96 B_X12_ask_97
          rw [stepN w q] at hK
          rw [nI_1]
          exact ⟨fun _ => hK, fun q => absurd rfl q⟩
        refine ⟨hin9, fun q => f96 (decide_eq_false (fun r => q r.1)), fun q => ⟨hin9, fun q2 => f96 (decide_eq_false (fun r => q2 r.2)), fun q2 => ?_⟩⟩
        have qq : cnd N bo z w = true := decide_eq_true ⟨q, q2⟩
        unfold B_X12_ask_97
        rw [nI_1]
        refine ⟨fun q => absurd q (by decide), fun _ => ?_⟩
        rw [asq, qq, if_pos rfl] at hK
        cases ho : asq (kw d T) (cnd N bo z) w with
        | none =>
          rw [ho] at hK
          exact ⟨fun _ => hK, fun q => absurd rfl q⟩
        | some b =>
          rw [ho] at hK
          have hb := hl w b ho
          refine ⟨fun q => absurd q (nI_ne_ng (b := 4) (by omega) (by decide) (by decide)), fun _ => sp_X12_knocksOf hd hM m1 h1.1 h2 (by omega) (sp_X12_knocksOf hd hM m1 h1.1 h2 (by omega) ?_)⟩
          have k1 := hkw w (by omega)
          have k2 := hkw b (by omega)
          rw [nI_leI (by omega) (by omega)]
          dsimp only at hK
          refine ⟨fun q => by rw [if_neg (by omega)] at hK; exact hK, fun q => by rw [if_pos (by omega)] at hK; exact hK⟩
    · have es := h3.2.2.2.2 w (by omega)
      have hK := hK (by omega)
      have hin10 : vp_in (nI w) 10 := (vin_n (by omega)).mpr (by omega)
      rw [nI_clamp (by omega), es, nI_1]
      have f96 : cnd N bo z w = false → K (oI (asq (kw d T) (cnd N bo z) w), nI (oF (kw d T) (asq (kw d T) (cnd N bo z) w)), nI (w + 1)) := fun q => by rw [stepN w q] at hK; exact hK
      refine ⟨hin10, fun q => f96 (decide_eq_false (fun r => q r.1)), fun q => ⟨fun q2 => sp_X2_kw hd hXW' h3.2.1 h2 (by omega) ?_, fun q2 => f96 (decide_eq_false (fun r => q2 r.2))⟩⟩
      have qq : cnd N bo z w = true := decide_eq_true ⟨q, q2⟩
      rw [asq, qq, if_pos rfl] at hK
      cases ho : asq (kw d T) (cnd N bo z) w with
      | none =>
        rw [ho] at hK
        exact ⟨fun _ => hK, fun q => absurd rfl q⟩
      | some b =>
        rw [ho] at hK
        have hb := hl w b ho
        have k1 := hkw w (by omega)
        have k2 := hkw b (by omega)
        refine ⟨fun q => absurd q (nI_ne_ng (b := 4) (by omega) (by decide) (by decide)), fun _ => ?_⟩
        show (nI (kw d T b) ≤ nI (kw d T w) → K (nI b, nI (kw d T b), nI (w + 1))) ∧ (¬ nI (kw d T b) ≤ nI (kw d T w) → K (nI w, nI (kw d T w), nI (w + 1)))
        rw [nI_leI (by omega) (by omega)]
        dsimp only at hK
        refine ⟨fun q => by rw [if_neg (by omega)] at hK; exact hK, fun q => by rw [if_pos (by omega)] at hK; exact hK⟩
  · have := (e2048.mp q.2.2).2; exact c4 this
/-! count -/
def wm (d : PD) (w : Nat) : Nat := orN (fun k => 2 ^ wc d w k) (wl d w)
def alm (d : PD) : Nat := orN (wm d) (nw d)
theorem wm_lt (hd : okP d) {w : Nat} (hw : w < nw d) : wm d w < 2 ^ 26 := orN_lt _ (fun k hk => pow_lt ((hd.2.2.2.2.2.2.1 w hw).2.2.2.2 k hk))
theorem alm_lt (hd : okP d) : alm d < 2 ^ 26 := orN_lt _ (fun w hw => wm_lt hd hw)
theorem orw_lt (hd : okP d) {w : Nat} (hw : w ≤ nw d) : orN (wm d) w < 2 ^ 26 := orN_lt _ (fun w' hw' => wm_lt hd (by omega))
def XM (d : PD) (ms : Nat → Int32) : Prop := ∀ w, w < nw d → ms w = nI (wm d w)
theorem sp_X4_allLetters {ms : Nat → Int32} (hd : okP d) (hX : XM d ms) {post : Int32 → Prop} (h : post (nI (alm d))) : wp_X4_allLetters 10 (nI (nw d)) ms post := by
  have h10 := hd.1
  unfold wp_X4_allLetters
  refine fix_0 (fun w => (nI (orN (wm d) w), nI w)) (nw d) rfl ?_
  intro K w hw hK
  unfold F_X4_allLetters_4
  dsimp only
  rw [nI_leI (by omega) (by omega)]
  refine ⟨fun c => ?_, fun c => ?_⟩
  · have : w = nw d := by omega
    subst this; exact h
  · rw [nI_clamp (by omega), hX w (by omega), nI_or, nI_1]
    exact ⟨(vin_n (by omega)).mpr (by omega), hK (by omega)⟩
theorem sp_X12_lettersOf (hd : okP d) (hM : MW d ru wo) {w : Nat} (hw : w < nw d) {post : Int32 → Prop} (h : post (nI (wm d w))) : wp_X12_lettersOf wo (nI w) post := by
  have h10 := hd.1
  have h8 := hd.2.2.2.2.2.2.1 w hw
  unfold wp_X12_lettersOf
  refine fix_0 (fun k => (nI (orN (fun k => 2 ^ wc d w k) k), nI k)) (wl d w) (by rfl) ?_
  intro K k hk hK
  unfold F_X12_lettersOf_4
  dsimp only
  refine sp_X12_size hd hM hw ?_
  rw [nI_leI (by omega) (by omega)]
  refine ⟨fun c => ?_, fun c => ?_⟩
  · have : k = wl d w := by omega
    subst this
    exact h
  · have hk' : k < wl d w := by omega
    have hc := h8.2.2.2.2 k hk'
    rw [i10, pk_mul, nI_add, nI_clamp (by omega), (hM.2 w hw).2.2 k hk', one_shl (by omega), nI_or, nI_1]
    exact ⟨(vin_n (by omega)).mpr (by omega), hK hk'⟩
theorem sp_X12_allLetters (hd : okP d) (hM : MW d ru wo) {post : Int32 → Prop} (h : post (nI (alm d))) : wp_X12_allLetters ru wo post := by
  have h10 := hd.1
  unfold wp_X12_allLetters
  refine fix_0 (fun w => (nI (orN (wm d) w), nI w)) (nw d) rfl ?_
  intro K w hw hK
  unfold F_X12_allLetters_4
  dsimp only
  rw [show (5 : Int32).toNatClampNeg = 5 from rfl, hM.1, nI_leI (by omega) (by omega)]
  refine ⟨by unfold vp_in; decide, fun c => ?_, fun c => ?_⟩
  · have : w = nw d := by omega
    subst this; exact h
  · refine sp_X12_lettersOf hd hM (by omega) ?_
    rw [nI_or, nI_1]
    exact hK (by omega)
def smw (d : PD) : Nat → Nat := sumN (fun m => if stil d m then 1 else 0)
theorem smw_le (d : PD) (n : Nat) : smw d n ≤ n := by
  have := sumN_le (f := fun m => if stil d m then 1 else 0) (b := 1) n (fun k hk => by split <;> omega)
  unfold smw; omega
theorem smw_s (d : PD) (m : Nat) : nI (smw d m) + bN (stil d m) = nI (smw d (m + 1)) := by
  show _ = nI (smw d m + (if stil d m then 1 else 0))
  rw [← nI_add]; cases stil d m <;> rfl
theorem sp_X5_watched {wa : Nat → Int32} (hX : XG d wa) {post : Int32 → Prop} (h : post (nI (smw d 600))) : wp_X5_watchedMinutes wa post := by
  unfold wp_X5_watchedMinutes
  refine fix_0 (fun m => (nI (smw d m), nI m)) 600 rfl ?_
  intro K m hm hK
  unfold F_X5_watchedMinutes_4
  dsimp only
  rw [i600, nI_leI (by omega) (by omega)]
  refine ⟨fun c => ?_, fun c => ?_⟩
  · have : m = 600 := by omega
    subst this; exact h
  · rw [nI_clamp (by omega), hX m (by omega), nI_1]
    rw [smw_s]
    exact ⟨(vin_n (by omega)).mpr (by omega), hK (by omega)⟩
theorem sp_imagesKept {k0 k1 m0 m1 : Int32} (h0 : (k0 = 0 ∧ m0 = 0) ∨ (k0 = 1 ∧ m0 = 1)) (h1 : (k1 = 0 ∧ m1 = 0) ∨ (k1 = 1 ∧ m1 = 1)) {post : Int32 → Prop} (h : post (m0 + m1)) : wp_X11_imagesKept k0 k1 post := by
  unfold wp_X11_imagesKept
  refine fix_0 (fun k => ((if k = 0 then 0 else if k = 1 then m0 else m0 + m1), nI k)) 2 rfl ?_
  intro K k hk hK
  unfold F_X11_imagesKept_4
  dsimp only
  rw [i2, nI_leI (by omega) (by omega)]
  rcases (show k = 0 ∨ k = 1 ∨ k = 2 by omega) with rfl | rfl | rfl
  · have hK := hK (by omega)
    refine ⟨fun c => by omega, fun _ => ⟨by unfold vp_in; decide, fun _ => ?_, fun q => absurd q (by decide)⟩⟩
    rcases h0 with ⟨rfl, rfl⟩ | ⟨rfl, rfl⟩
    · exact ⟨fun _ => hK, fun q => absurd rfl q⟩
    · exact ⟨fun q => absurd q (by decide), fun _ => hK⟩
  · have hK := hK (by omega)
    refine ⟨fun c => by omega, fun _ => ⟨by unfold vp_in; decide, fun q => absurd q (by decide), fun _ => ?_⟩⟩
    rcases h1 with ⟨rfl, rfl⟩ | ⟨rfl, rfl⟩
    · refine ⟨fun _ => ?_, fun q => absurd rfl q⟩
      have e : m0 + 0 = m0 := by rcases h0 with ⟨-, rfl⟩ | ⟨-, rfl⟩ <;> rfl
      have hK : K (m0 + 0, nI 2) := hK
      rw [e] at hK; exact hK
    · exact ⟨fun q => absurd q (by decide), fun _ => hK⟩
  · exact ⟨fun _ => h, fun q => absurd (by omega) q⟩
theorem sim_count {km : Nat → Int32} {s0 k0 s1 k1 : Int32} {l1 p1 c1 n1 l0 p0 c0 n0 : Nat → Int32} {a0 z0 a1 z1 a2 z2 a3 z3 : Int32} {g3 g2 g1 g0 ml mn mc : Nat → Int32} {n : Nat} {B : Nat → Nat} {tsize taped : Int32} {bytes tape ms wa gd : Nat → Int32} (hd : okP d) (hXs : size = nI (nw d)) (hXM : XM d ms) (hXG : XG d wa) (hM : MW d ru wo) (hMG : MG d ru gd) (hk : RKS d aw st km s0 k0 s1 k1 l1 p1 c1 n1 l0 p0 c0 n0) (hS : RSS a0 z0 a1 z1 a2 z2 a3 z3 g3 g2 g1 g0 ml mn mc) (hT : RT n B tsize bytes taped tape) (h : RI d aw st le pl hs hc kn) (x : Int32) : wp_X11_count 10 a0 z0 a1 z1 a2 z2 a3 z3 tsize k0 k1 wa size ms hs x (fun r => wp_X12_count taped ml mn km ru wo st gd x (fun r' => r = r')) := by
  obtain ⟨T, H, N, hn, h1, h2, h3, h4, h5⟩ := h
  have key : ∀ r, (x = 0 → r = nI hn) → (x = 1 → r = nI (pc (alm d) 26)) → (x = 2 → r = nI (smw d 600)) → (x = 3 → r = km 0 + km 1) → (x = 4 → r = taped) → (x = 5 → r = if ml 0 = -4 then -4 else mn 0) → (¬ x = 0 → ¬ x = 1 → ¬ x = 2 → ¬ x = 3 → ¬ x = 4 → ¬ x = 5 → r = -1) → wp_X12_count taped ml mn km ru wo st gd x (fun r' => r = r') := by
    intro r r0 r1 r2 r3 r4 r5 r6
    unfold wp_X12_count
    refine fix_0 (fun m => (nI (smw d m), nI m)) 600 rfl ?_
    intro K m hm hK
    unfold F_X12_count_4
    dsimp only
    rw [i600, nI_leI (by omega) (by omega)]
    refine ⟨fun c => ?_, fun c => ?_⟩
    · have : m = 600 := by omega
      subst this
      refine ⟨fun q => ⟨by unfold vp_in; decide, ?_⟩, fun q => sp_X12_allLetters hd hM (sp_X12_bitsOf (by have := alm_lt hd; omega) (r1 q)), fun q => r2 q, fun q => ⟨by unfold vp_in; decide, ?_⟩, fun q => r4 q, fun q => ⟨by unfold vp_in; decide, fun z => ⟨by unfold vp_in; decide, ?_⟩, fun z => ?_⟩, fun q0 q1 q2 q3 q4 q5 => r6 q0 q1 q2 q3 q4 q5⟩
      · rw [r0 q]; exact h5.1.symm
      · have r3 := r3 q
        unfold B_X12_count_104
        rw [show (0 : Int32).toNatClampNeg = 0 from rfl, show (1 : Int32).toNatClampNeg = 1 from rfl]
        have kk : ∀ a b : Int32, (a = 0 ∨ a = 1) → (b = 0 ∨ b = 1) → r = a + b → ((a = 0 → (vp_in 1 2 ∧ ((b = 0 → r = 0 + 0) ∧ (¬ b = 0 → r = 0 + 1)))) ∧ (¬ a = 0 → (vp_in 1 2 ∧ ((b = 0 → r = 1 + 0) ∧ (¬ b = 0 → r = 1 + 1))))) := by
          intro a b ha hb hr
          have v : vp_in 1 2 := by unfold vp_in; decide
          rcases ha with rfl | rfl <;> rcases hb with rfl | rfl <;> exact ⟨fun _ => ⟨v, fun _ => by first | exact hr | (exfalso; contradiction), fun _ => by first | exact hr | (exfalso; contradiction)⟩, fun _ => ⟨v, fun _ => by first | exact hr | (exfalso; contradiction), fun _ => by first | exact hr | (exfalso; contradiction)⟩⟩
        have t0 : km 0 = 0 ∨ km 0 = 1 := by rcases hk.1.two with ⟨-, e⟩ | ⟨-, e⟩ <;> simp [e]
        have t1 : km 1 = 0 ∨ km 1 = 1 := by rcases hk.2.1.two with ⟨-, e⟩ | ⟨-, e⟩ <;> simp [e]
        exact kk (km 0) (km 1) t0 t1 r3
      · have r5 := r5 q; rw [if_neg (show ¬ ml 0 = -4 from z)] at r5; exact r5
      · have r5 := r5 q; rw [if_pos (show ml 0 = -4 from z)] at r5; exact r5
    · refine sp_X12_isStill hd hMG (by omega) ?_
      have hK := hK (by omega)
      rw [← smw_s, ← nI_1] at hK
      rw [bN_0]
      refine ⟨fun q => by rw [q] at hK; exact hK, fun q => by rw [show stil d m = true by simpa using q] at hK; exact hK⟩
  unfold wp_X11_count
  rw [hXs]
  refine ⟨fun q => ?_, fun q => sp_X4_allLetters hd hXM (sp_bitCount (alm_lt hd) ?_), fun q => sp_X5_watched hXG ?_, fun q => sp_imagesKept hk.1.two hk.2.1.two ?_, fun q => ?_, fun q => ⟨fun c => ?_, fun c => ?_⟩, fun q0 q1 q2 q3 q4 q5 => ?_⟩
  · subst q; exact key _ (fun _ => h3.2.2.1) (fun z => absurd z (by decide)) (fun z => absurd z (by decide)) (fun z => absurd z (by decide)) (fun z => absurd z (by decide)) (fun z => absurd z (by decide)) (fun z => absurd rfl z)
  · subst q; exact key _ (fun z => absurd z (by decide)) (fun _ => rfl) (fun z => absurd z (by decide)) (fun z => absurd z (by decide)) (fun z => absurd z (by decide)) (fun z => absurd z (by decide)) (fun _ z => absurd rfl z)
  · subst q; exact key _ (fun z => absurd z (by decide)) (fun z => absurd z (by decide)) (fun _ => rfl) (fun z => absurd z (by decide)) (fun z => absurd z (by decide)) (fun z => absurd z (by decide)) (fun _ _ z => absurd rfl z)
  · subst q; exact key _ (fun z => absurd z (by decide)) (fun z => absurd z (by decide)) (fun z => absurd z (by decide)) (fun _ => rfl) (fun z => absurd z (by decide)) (fun z => absurd z (by decide)) (fun _ _ _ z => absurd rfl z)
  · subst q; exact key _ (fun z => absurd z (by decide)) (fun z => absurd z (by decide)) (fun z => absurd z (by decide)) (fun z => absurd z (by decide)) (fun _ => hT.2.1.trans hT.2.2.1.symm) (fun z => absurd z (by decide)) (fun _ _ _ _ z => absurd rfl z)
  · subst q
    refine key _ (fun z => absurd z (by decide)) (fun z => absurd z (by decide)) (fun z => absurd z (by decide)) (fun z => absurd z (by decide)) (fun z => absurd z (by decide)) (fun _ => ?_) (fun _ _ _ _ _ z => absurd rfl z)
    rcases hS.1 with ⟨e1, e2⟩ | ⟨L, m, hL, hm, e1, e2, e3, e4, e5⟩
    · rw [e1] at c; exact absurd c (by decide)
    · rw [e2, if_neg (show ¬ nI L = -4 from nI_ne_ng (b := 4) (by omega) (by decide) (by decide)), e3, e4]
  · subst q
    refine key _ (fun z => absurd z (by decide)) (fun z => absurd z (by decide)) (fun z => absurd z (by decide)) (fun z => absurd z (by decide)) (fun z => absurd z (by decide)) (fun _ => ?_) (fun _ _ _ _ _ z => absurd rfl z)
    rcases hS.1 with ⟨e1, e2⟩ | ⟨L, m, hL, hm, e1, e2, e3, e4, e5⟩
    · rw [e2, if_pos rfl]
    · rw [e1] at c; exact absurd (nI_nn (by omega)) c
  · exact key _ (fun z => absurd z q0) (fun z => absurd z q1) (fun z => absurd z q2) (fun z => absurd z q3) (fun z => absurd z q4) (fun z => absurd z q5) (fun _ _ _ _ _ _ => rfl)
end
