/-! said, ask, heardBy, count -/
def orN (f : Nat → Nat) : Nat → Nat
  | 0 => 0
  | n + 1 => orN f n ||| f n
theorem orN_lt {f : Nat → Nat} {k : Nat} : ∀ n, (∀ i, i < n → f i < 2 ^ k) → orN f n < 2 ^ k
  | 0, _ => Nat.two_pow_pos k
  | n + 1, h => Nat.or_lt_two_pow (orN_lt n (fun i hi => h i (by omega))) (h n (by omega))
theorem pow_lt {a b : Nat} (h : a < b) : 2 ^ a < 2 ^ b := Nat.pow_lt_pow_right (by omega) h
def spn (lo n : Nat) : Nat := orN (fun i => 2 ^ (lo + i)) n
theorem spn_lt {lo n : Nat} (h : lo + n ≤ 11) : spn lo n < 2 ^ 11 := orN_lt n (fun i hi => pow_lt (by omega))
section
variable {d : PD} {aw : Int32} {st le pl : Nat → Int32} {hs : Int32} {hc kn : Nat → Int32} {ru wo lens lets wts : Nat → Int32} {width size : Int32}
theorem sp_saidX {w a b n0 : Nat} (hw : w < 10) (ha : a < 11) (hb : b < 11) (hk : kn w = nI n0) (hn0 : n0 < 2048) {post : Int32 → (Nat → Int32) → Prop} (h : ∀ kn', kn' w = nI (n0 ||| spn (min a b) (max a b + 1 - min a b)) → (∀ j, j ≠ w → kn' j = kn j) → post (nI (pc (n0 ||| spn (min a b) (max a b + 1 - min a b)) 26)) kn') : ∃ n, fixN (F_X11_said_31 (nI w) (nI a) (nI b) post) n (if nI b < nI a then nI b else nI a, kn) := by
  rw [minI (by omega) (by omega)]
  refine fix_iv (fun i v => v.1 = nI (min a b + i) ∧ v.2 w = nI (n0 ||| spn (min a b) i) ∧ ∀ j, j ≠ w → v.2 j = kn j) (max a b + 1 - min a b) (fun K i v hi hI hK => ?_) 0 (by omega) ⟨rfl, hk.trans (by unfold spn orN; rw [Nat.or_zero]), fun _ _ => rfl⟩
  obtain ⟨v1, v2⟩ := v
  obtain ⟨e1, e2, e3⟩ := hI
  dsimp only at e1 e2 e3
  subst e1
  have hin : vp_in (nI w) 10 := (vin_n (by omega)).mpr hw
  unfold F_X11_said_31
  dsimp only
  rw [maxI (by omega) (by omega), nI_ltI (by omega) (by omega), nI_clamp (by omega), e2]
  have l1 : n0 ||| spn (min a b) i < 2 ^ 11 := Nat.or_lt_two_pow (by omega) (spn_lt (by omega))
  refine ⟨fun c => ⟨hin, ?_⟩, fun c => ⟨hin, hin, ?_⟩⟩
  · have : i = max a b + 1 - min a b := by omega
    subst this
    exact sp_bitCount (by omega) (h v2 e2 e3)
  · rw [one_shl (by omega), nI_or, nI_1]
    refine hK (by omega) _ ⟨rfl, ?_, fun j hj => ?_⟩
    · dsimp only
      rw [pk_us]
      show nI ((n0 ||| spn (min a b) i) ||| 2 ^ (min a b + i)) = _
      rw [Nat.or_assoc]; rfl
    · dsimp only; rw [pk_un hj]; exact e3 j hj
def spm (lo hi : Nat) : Nat → Nat
  | 0 => 0
  | c + 1 => if lo ≤ c ∧ c ≤ hi then spm lo hi c ||| 2 ^ c else spm lo hi c
theorem spm_eq {lo hi : Nat} (h : lo ≤ hi) : ∀ c, spm lo hi c = spn lo (min c (hi + 1) - lo)
  | 0 => by unfold spm; rw [show min 0 (hi + 1) - lo = 0 by omega]; rfl
  | c + 1 => by
    have ih := spm_eq h c
    unfold spm
    by_cases q : lo ≤ c ∧ c ≤ hi
    · rw [if_pos q, ih, show min (c + 1) (hi + 1) - lo = (c - lo) + 1 by omega, show min c (hi + 1) - lo = c - lo by omega]
      show _ = orN _ (c - lo) ||| 2 ^ (lo + (c - lo))
      rw [show lo + (c - lo) = c by omega]; rfl
    · rw [if_neg q, ih]
      rw [show min (c + 1) (hi + 1) - lo = min c (hi + 1) - lo by omega]
theorem sp_saidM {w a b n0 : Nat} (hw : w < 10) (ha : a < 11) (hb : b < 11) (hk : st (50 + w) = nI n0) (hn0 : n0 < 2048) {post : Int32 → (Nat → Int32) → Prop} (h : ∀ st', st' (50 + w) = nI (n0 ||| spn (min a b) (max a b + 1 - min a b)) → (∀ j, j ≠ 50 + w → st' j = st j) → post (nI (pc (n0 ||| spn (min a b) (max a b + 1 - min a b)) 26)) st') : ∃ n, fixN (F_X12_said_27 (nI w) (nI a) (nI b) post) n (0, st) := by
  have key : ∀ c, spm (min a b) (max a b) c = spn (min a b) (min c (max a b + 1) - min a b) := spm_eq (by omega)
  refine fix_iv (fun c v => v.1 = nI c ∧ v.2 (50 + w) = nI (n0 ||| spm (min a b) (max a b) c) ∧ ∀ j, j ≠ 50 + w → v.2 j = st j) 11 (fun K c v hi hI hK => ?_) 0 (by omega) ⟨rfl, hk.trans (by unfold spm; rw [Nat.or_zero]), fun _ _ => rfl⟩
  obtain ⟨v1, v2⟩ := v
  obtain ⟨e1, e2, e3⟩ := hI
  dsimp only at e1 e2 e3
  subst e1
  have hin : vp_in (nI (50 + w)) 192 := (vin_n (by omega)).mpr (by omega)
  have l1 : n0 ||| spm (min a b) (max a b) c < 2 ^ 11 := by rw [key]; exact Nat.or_lt_two_pow (by omega) (spn_lt (by omega))
  unfold F_X12_said_27
  dsimp only
  rw [i50, nI_add, show (11 : Int32) = nI 11 from rfl, nI_leI (by omega) (by omega), nI_clamp (by omega), e2]
  refine ⟨fun c' => ⟨hin, ?_⟩, fun c' => ⟨hin, ?_⟩⟩
  · have : c = 11 := by omega
    subst this
    rw [key, show min 11 (max a b + 1) - min a b = max a b + 1 - min a b by omega] at e2 l1 ⊢
    exact sp_X12_bitsOf (by omega) (h v2 e2 e3)
  · have no : ¬ (min a b ≤ c ∧ c ≤ max a b) → (vp_in (nI (50 + w)) 192 ∧ K (nI c + 1, upd v2 (nI (50 + w)).toNatClampNeg (nI (n0 ||| spm (min a b) (max a b) c) ||| 0))) := fun q => by
      refine ⟨hin, ?_⟩
      rw [nI_1, nI_clamp (by omega), i0, nI_or, Nat.or_zero]
      refine hK (by omega) _ ⟨rfl, ?_, fun j hj => ?_⟩
      · dsimp only; rw [pk_us, spm, if_neg q]
      · dsimp only; rw [pk_un hj]; exact e3 j hj
    have yes : (min a b ≤ c ∧ c ≤ max a b) → B_X12_said_68 (nI c) v2 (nI (50 + w)) (nI (n0 ||| spm (min a b) (max a b) c)) K := fun q => by
      unfold B_X12_said_68
      refine ⟨hin, ?_⟩
      rw [nI_1, nI_clamp (by omega), one_shl (by omega), nI_or]
      refine hK (by omega) _ ⟨rfl, ?_, fun j hj => ?_⟩
      · dsimp only; rw [pk_us, spm, if_pos q, Nat.or_assoc]
      · dsimp only; rw [pk_un hj]; exact e3 j hj
    have mid : ¬ (a ≤ c ∧ c ≤ b) → B_X12_said_56 (nI a) (nI b) (nI c) v2 (nI (50 + w)) (nI (n0 ||| spm (min a b) (max a b) c)) K := fun q => by
      unfold B_X12_said_56
      rw [nI_ltI (by omega) (by omega), nI_ltI (by omega) (by omega)]
      exact ⟨fun z => no (by omega), fun z => ⟨fun z2 => no (by omega), fun z2 => yes (by omega)⟩⟩
    rw [nI_ltI (by omega) (by omega), nI_leI (by omega) (by omega)]
    exact ⟨fun z => mid (by omega), fun z => ⟨fun z2 => yes (by omega), fun z2 => mid (by omega)⟩⟩
theorem sim_said (hd : okP d) (hX : size = nI (nw d)) (hM : ru 5 = nI (nw d)) (h : RI d aw st le pl hs hc kn) (x y z : Int32) : wp_X11_said size kn x y z (fun r kn' => wp_X12_said ru st x y z (fun r' st' => r = r' ∧ RI d aw st' le pl hs hc kn' ∧ KS st st' aw aw)) := by
  have h10 := hd.1
  obtain ⟨T, H, N, hn, h1, h2, h3, h4, h5⟩ := id h
  unfold wp_X11_said wp_X12_said
  rw [hX]
  refine sp_X11_isWord (by omega) (fun c => ⟨fun _ => ?_, fun q => absurd rfl q⟩) (fun c => ⟨fun q => absurd q (by decide), fun _ => sp_X11_isCell (fun c2 => ⟨fun _ => ?_, fun q => absurd rfl q⟩) (fun c2 => ⟨fun q => absurd q (by decide), fun _ => sp_X11_isCell (fun c3 => ⟨fun q => absurd rfl q, fun _ => ?_⟩) (fun c3 => ⟨fun _ => ?_, fun q => absurd q (by decide)⟩)⟩)⟩)
  · exact sp_X12_isWord (by omega) hM (fun _ => ⟨fun _ => ⟨rfl, h, KS.rf⟩, fun q => absurd rfl q⟩) (fun q => absurd q c)
  · exact sp_X12_isWord (by omega) hM (fun q => absurd c q) (fun _ => ⟨fun q => absurd q (by decide), fun _ => sp_X12_isCell (fun _ => ⟨fun _ => ⟨rfl, h, KS.rf⟩, fun q => absurd rfl q⟩) (fun q => absurd q c2)⟩)
  · exact sp_X12_isWord (by omega) hM (fun q => absurd c q) (fun _ => ⟨fun q => absurd q (by decide), fun _ => sp_X12_isCell (fun q => absurd c2 q) (fun _ => ⟨fun q => absurd q (by decide), fun _ => sp_X12_isCell (fun _ => ⟨fun q => absurd rfl q, fun _ => ⟨rfl, h, KS.rf⟩⟩) (fun q => absurd q c3)⟩)⟩)
  · obtain ⟨w, hw, rfl⟩ := vin_ex (by omega) c
    obtain ⟨a, ha, rfl⟩ := vin_ex (by decide) c2
    obtain ⟨b, hb, rfl⟩ := vin_ex (by decide) c3
    have hN := h1.2.2.2 w (by omega)
    refine sp_saidX (by omega) ha hb (h3.2.2.2.2 w (by omega)) hN (fun kn' k1 k2 => ?_)
    refine sp_X12_isWord (by omega) hM (fun q => absurd c q) (fun _ => ⟨fun q => absurd q (by decide), fun _ => sp_X12_isCell (fun q => absurd c2 q) (fun _ => ⟨fun q => absurd q (by decide), fun _ => sp_X12_isCell (fun q => absurd c3 q) (fun _ => ⟨fun _ => ?_, fun q => absurd q (by decide)⟩)⟩)⟩)
    refine sp_saidM (by omega) ha hb (by have := h5.2.2 w (by omega); rw [Nat.zero_add] at this; exact this) hN (fun st' s1 s2 => ?_)
    have hlt : N w ||| spn (min a b) (max a b + 1 - min a b) < 2 ^ 11 := Nat.or_lt_two_pow (by omega) (spn_lt (by omega))
    refine ⟨rfl, ⟨T, H, fun j => if j = w then N w ||| spn (min a b) (max a b + 1 - min a b) else N j, hn, ⟨h1.1, h1.2.1, h1.2.2.1, fun j hj => ?_⟩, h2, ⟨h3.1, h3.2.1, h3.2.2.1, h3.2.2.2.1, fun j hj => ?_⟩, ?_, ?_, fun i hi => ?_, fun j hj => ?_⟩, fun j hj => s2 j (by omega), fun q => q⟩
    · dsimp only; split
      · omega
      · exact h1.2.2.2 j hj
    · dsimp only; split
      · rename_i q; rw [q]; exact k1
      · rename_i q; rw [k2 j q]; exact h3.2.2.2.2 j hj
    · rcases h4 with q | q
      · exact Or.inl ⟨q.1, q.2.kept (fun j p r => s2 j (by omega))⟩
      · exact Or.inr q
    · rw [s2 _ (by omega)]; exact h5.1
    · rw [s2 _ (by have := h1.2.1; omega)]; exact h5.2.1 i hi
    · rw [Nat.zero_add]; dsimp only; split
      · rename_i q; rw [q]; exact s1
      · rename_i q; rw [s2 _ (by omega)]; have := h5.2.2 j hj; rw [Nat.zero_add] at this; exact this
/-! heardBy -/
def bst (N : Nat → Nat) : Nat → Nat
  | 0 => 0
  | w + 1 => if w = 0 then 0 else if pc (N (bst N w)) 26 < pc (N w) 26 then w else bst N w
theorem bst_lt (N : Nat → Nat) : ∀ w, 0 < w → bst N w < w
  | 0, h => absurd h (by omega)
  | w + 1, _ => by
    have := bst_lt N w
    unfold bst
    split
    · omega
    · split
      · omega
      · have := this (by omega); omega
def bsI (N : Nat → Nat) (w : Nat) : Int32 := if w = 0 then -4 else nI (bst N w)
def bsM (N : Nat → Nat) (w : Nat) : Nat := if w = 0 then 0 else pc (N (bst N w)) 26
theorem sim_heardBy (hd : okP d) (hX : size = nI (nw d)) (hM : ru 5 = nI (nw d)) (h : RI d aw st le pl hs hc kn) (x : Int32) : wp_X11_heardBy size kn x (fun r => wp_X12_heardBy ru st x (fun r' => r = r')) := by
  have h10 := hd.1
  obtain ⟨T, H, N, hn, h1, h2, h3, h4, h5⟩ := h
  have hN : ∀ w, w < nw d → N w < 2048 := fun w hw => h1.2.2.2 w (by omega)
  have hor : ∀ w, w ≤ nw d → orN N w < 2 ^ 11 := fun w hw => orN_lt w (fun i hi => hN i (by omega))
  have e3 : vp_in x 3 ↔ 0 ≤ x ∧ x < 3 := vin_I (by decide)
  have key : ∀ r, (¬ vp_in x 3 → r = -1) → (x = 0 → r = 11 - nI (pc (orN N (nw d)) 26)) → (x = 1 → r = bsI N (nw d)) → (x = 2 → r = nI (bsM N (nw d))) → wp_X12_heardBy ru st x (fun r' => r = r') := by
    intro r r0 r1 r2 r3
    unfold wp_X12_heardBy
    refine sp_in0 (b := 2) (n := 3) (by decide) le_2 (fun c => ⟨fun q => absurd rfl q, fun _ => r0 c⟩) (fun c => ⟨fun _ => ?_, fun q => absurd q (by decide)⟩)
    refine fix_0 (fun w => (nI (orN N w), bsI N w, nI w)) (nw d) rfl ?_
    intro K w hw hK
    have hb := bst_lt N w
    unfold F_X12_heardBy_22
    dsimp only
    rw [show (5 : Int32).toNatClampNeg = 5 from rfl, hM, nI_leI (by omega) (by omega)]
    refine ⟨by unfold vp_in; decide, fun c' => ?_, fun c' => ?_⟩
    · have : w = nw d := by omega
      subst this
      refine ⟨fun x0 => ⟨fun x1 => ?_, fun x1 => r2 x1⟩, fun x0 => sp_X12_bitsOf (by have := hor _ hw; omega) (r1 x0)⟩
      have x2 : x = 2 := by
        obtain ⟨j, hj, e⟩ := in3 c
        rcases (show j = 0 ∨ j = 1 ∨ j = 2 by omega) with rfl | rfl | rfl
        · exact absurd e x0
        · exact absurd e x1
        · exact e
      have r3 := r3 x2
      unfold bsI
      unfold bsM at r3
      by_cases q : nw d = 0
      · rw [if_pos q]; rw [if_pos q] at r3
        exact ⟨fun z => absurd rfl z, fun _ => r3⟩
      · rw [if_neg q]; rw [if_neg q] at r3
        have hb := hb (by omega)
        have es := h5.2.2 (bst N (nw d)) (by omega)
        rw [Nat.zero_add] at es
        refine ⟨fun _ => ?_, fun z => absurd z (nI_ne_ng (b := 4) (by omega) (by decide) (by decide))⟩
        rw [i50, nI_add, nI_clamp (by omega), es]
        exact ⟨(vin_n (by omega)).mpr (by omega), sp_X12_bitsOf (by have := hN _ hb; omega) r3⟩
    · have hK := hK (by omega)
      have es := h5.2.2 w (by omega)
      rw [Nat.zero_add] at es
      rw [i50, nI_add, nI_clamp (by omega), es, nI_or, nI_1]
      refine ⟨(vin_n (by omega)).mpr (by omega), fun z => ?_, fun z => ⟨(vin_n (by omega)).mpr (by omega), ?_⟩⟩
      · have w0 : w = 0 := by
          by_cases q : w = 0
          · exact q
          · unfold bsI at z; rw [if_neg q] at z; exact absurd z (nI_ne_ng (b := 4) (by have := hb (by omega); omega) (by decide) (by decide))
        subst w0
        exact hK
      · have w0 : w ≠ 0 := fun q => z (by unfold bsI; rw [if_pos q])
        have hb := hb (by omega)
        refine sp_X12_bitsOf (by have := hN w (by omega); omega) ?_
        rw [show bsI N w = nI (bst N w) by unfold bsI; rw [if_neg w0], nI_add, nI_clamp (by omega)]
        have eb := h5.2.2 (bst N w) (by omega)
        rw [Nat.zero_add] at eb
        rw [eb]
        refine ⟨(vin_n (by omega)).mpr (by omega), sp_X12_bitsOf (by have := hN _ (show bst N w < nw d by omega); omega) ?_⟩
        have p1 := pc_le (N w) 26
        have p2 := pc_le (N (bst N w)) 26
        rw [nI_leI (by omega) (by omega)]
        have e1 : bsI N (w + 1) = if pc (N (bst N w)) 26 < pc (N w) 26 then nI w else nI (bst N w) := by
          unfold bsI; rw [if_neg (by omega), bst, if_neg w0]; split <;> rfl
        have hK : K (nI (orN N w ||| N w), bsI N (w + 1), nI (w + 1)) := hK
        rw [e1] at hK
        refine ⟨fun q => by rw [if_neg (by omega)] at hK; exact hK, fun q => by rw [if_pos (by omega)] at hK; exact hK⟩
  unfold wp_X11_heardBy
  refine ⟨fun c => key _ (fun _ => rfl) (fun z => ?_) (fun z => ?_) (fun z => ?_), fun c => ⟨fun c2 => ?_, fun c2 => key _ (fun _ => rfl) (fun z => ?_) (fun z => ?_) (fun z => ?_)⟩⟩
  · rw [z] at c; exact absurd c (by decide)
  · rw [z] at c; exact absurd c (by decide)
  · rw [z] at c; exact absurd c (by decide)
  · have hin : vp_in x 3 := e3.mpr (by rw [T_le, T_lt]; rw [T_lt] at c; rw [T_le] at c2; have a1 : (2 : Int32).toInt = 2 := rfl; have a2 : (3 : Int32).toInt = 3 := rfl; omega)
    subst hX
    refine fix_0 (fun w => (nI (orN N w), bsI N w, nI (bsM N w), nI w)) (nw d) rfl ?_
    intro K w hw hK
    have hb := bst_lt N w
    unfold F_X11_heardBy_22
    dsimp only
    rw [nI_leI (by omega) (by omega)]
    refine ⟨fun c' => ?_, fun c' => ?_⟩
    · have : w = nw d := by omega
      subst this
      refine ⟨fun x0 => sp_bitCount (by have := hor _ hw; omega) (key _ (fun z => absurd hin z) (fun _ => rfl) (fun z => absurd (x0.symm.trans z) (by decide)) (fun z => absurd (x0.symm.trans z) (by decide))), fun x1 => key _ (fun z => absurd hin z) (fun z => absurd (x1.symm.trans z) (by decide)) (fun _ => rfl) (fun z => absurd (x1.symm.trans z) (by decide)), fun x0 x1 => key _ (fun z => absurd hin z) (fun z => absurd z x0) (fun z => absurd z x1) (fun _ => rfl)⟩
    · have hK := hK (by omega)
      have es := h3.2.2.2.2 w (by omega)
      have hin10 : vp_in (nI w) 10 := (vin_n (by omega)).mpr (by omega)
      rw [nI_clamp (by omega), es]
      refine ⟨hin10, hin10, sp_bitCount (by have := hN w (by omega); omega) ?_⟩
      rw [nI_or, nI_1]
      refine ⟨fun z => ?_, fun z => ?_⟩
      · have w0 : w = 0 := by
          by_cases q : w = 0
          · exact q
          · unfold bsI at z; rw [if_neg q] at z; exact absurd z (nI_ne_ng (b := 4) (by have := hb (by omega); omega) (by decide) (by decide))
        subst w0
        exact hK
      · have w0 : w ≠ 0 := fun q => z (by unfold bsI; rw [if_pos q])
        have hb := hb (by omega)
        have p1 := pc_le (N w) 26
        have p2 := pc_le (N (bst N w)) 26
        rw [show bsM N w = pc (N (bst N w)) 26 by unfold bsM; rw [if_neg w0], nI_leI (by omega) (by omega)]
        have e0 : bsI N w = nI (bst N w) := by unfold bsI; rw [if_neg w0]
        have e1 : bsI N (w + 1) = if pc (N (bst N w)) 26 < pc (N w) 26 then nI w else nI (bst N w) := by
          unfold bsI; rw [if_neg (by omega), bst, if_neg w0]; split <;> rfl
        have e2 : bsM N (w + 1) = if pc (N (bst N w)) 26 < pc (N w) 26 then pc (N w) 26 else pc (N (bst N w)) 26 := by
          unfold bsM; rw [if_neg (by omega), bst, if_neg w0]; split <;> rfl
        have hK : K (nI (orN N w ||| N w), bsI N (w + 1), nI (bsM N (w + 1)), nI (w + 1)) := hK
        rw [e1, e2] at hK
        rw [e0]
        refine ⟨fun q => by rw [if_neg (by omega), if_neg (by omega)] at hK; exact hK, fun q => by rw [if_pos (by omega), if_pos (by omega)] at hK; exact hK⟩
  · rw [z] at c2; exact absurd (by decide) c2
  · rw [z] at c2; exact absurd (by decide) c2
  · rw [z] at c2; exact absurd (by decide) c2
end
