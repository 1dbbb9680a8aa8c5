/-! from mouth to mouth -/
theorem adl {g : Nat → Int64} {i j : Nat} {a : Int64} : vp_updL g i (g i + a) j = g j + (if j = i then a else 0) := by
  by_cases q : j = i
  · rw [q, pk_uLs, if_pos rfl]
  · rw [pk_uLn q, if_neg q]; exact (Int64.add_zero _).symm
theorem adN {x : Nat} {c : Prop} [Decidable c] {a : Nat} : lN x + (if c then lN a else 0) = lN (x + (if c then a else 0)) := by
  split
  · exact lN_add _ _
  · exact Int64.add_zero _
def ad3 (W : Nat → Nat) (l s m : Nat) (c : Nat) (f : Nat → Nat) (j : Nat) : Nat := f j + (if j = max 1 (c - 1) - 1 then W (c - 1) * l else 0) + (if j = c - 1 then W (c - 1) * s else 0) + (if j = min 5 (c + 1) - 1 then W (c - 1) * m else 0)
def acc (W : Nat → Nat) (l s m : Nat) : Nat → Nat → Nat
  | 0 => fun _ => 0
  | c + 1 => ad3 W l s m (c + 1) (acc W l s m c)
def MWs (l m n : Nat) : Nat → Nat → Nat
  | 0 => fun j => if j + 1 = n then 1 else 0
  | k + 1 => acc (MWs l m n k) l (20 - l - m) m 5
theorem MWs_sum (l m n : Nat) (h : l + m ≤ 20) (hn : 1 ≤ n) (hn5 : n ≤ 5) : ∀ k, MWs l m n k 0 + MWs l m n k 1 + MWs l m n k 2 + MWs l m n k 3 + MWs l m n k 4 = 20 ^ k
  | 0 => by
    unfold MWs
    rcases (show n = 1 ∨ n = 2 ∨ n = 3 ∨ n = 4 ∨ n = 5 by omega) with rfl | rfl | rfl | rfl | rfl <;> decide
  | k + 1 => by
    have ih := MWs_sum l m n h hn hn5 k
    rw [Nat.pow_succ, ← ih]
    have e : MWs l m n (k + 1) = acc (MWs l m n k) l (20 - l - m) m 5 := rfl
    rw [e]
    simp only [acc, ad3]
    generalize MWs l m n k 0 = a; generalize MWs l m n k 1 = b; generalize MWs l m n k 2 = c; generalize MWs l m n k 3 = e; generalize MWs l m n k 4 = f
    obtain ⟨s, hs⟩ : ∃ s, s = 20 - l - m := ⟨_, rfl⟩
    have h20 : 20 = l + s + m := by omega
    rw [← hs, h20]
    simp
    simp only [Nat.add_mul, Nat.mul_add]
    omega
theorem MWs_le {l m n k j : Nat} (h : l + m ≤ 20) (hn : 1 ≤ n) (hn5 : n ≤ 5) (hj : j < 5) : MWs l m n k j ≤ 20 ^ k := by
  have := MWs_sum l m n h hn hn5 k
  rcases (show j = 0 ∨ j = 1 ∨ j = 2 ∨ j = 3 ∨ j = 4 by omega) with rfl | rfl | rfl | rfl | rfl <;> omega
section
variable {l m : Nat}
theorem sp_slm {post : Int32 → Prop} (h : post (nI l)) : wp_X0_slips (nI l) (nI m) (-1) post := by
  unfold wp_X0_slips
  exact ⟨fun _ => h, fun q => absurd q (by decide), fun q => absurd q (by decide), fun q => absurd rfl q⟩
theorem e20 (hl : l ≤ 9) (hm : m ≤ 9) : (20 : Int32) - nI l - nI m = nI (20 - l - m) := by rw [show (20 : Int32) = nI 20 from rfl, pk_sub (by omega), pk_sub (by omega)]
theorem sp_sl0 {post : Int32 → Prop} (hl : l ≤ 9) (hm : m ≤ 9) (h : post (nI (20 - l - m))) : wp_X0_slips (nI l) (nI m) 0 post := by
  unfold wp_X0_slips
  rw [e20 hl hm]
  exact ⟨fun q => absurd q (by decide), fun _ => h, fun q => absurd q (by decide), fun _ q => absurd rfl q⟩
theorem sp_slp {post : Int32 → Prop} (h : post (nI m)) : wp_X0_slips (nI l) (nI m) 1 post := by
  unfold wp_X0_slips
  exact ⟨fun q => absurd q (by decide), fun q => absurd q (by decide), fun _ => h, fun _ _ q => absurd rfl q⟩
theorem sp_fillL {n : Nat} (hn : n < 2 ^ 31) {p0 : Nat → Int64} {x : Int64} {post : (Nat → Int64) → Prop} (h : ∀ p', (∀ j, j < n → p' j = x) → post p') : wp_J7_fill_d0a16 n p0 x post := by
  unfold wp_J7_fill_d0a16
  refine fix_iv (fun i v => v.1 = nI i ∧ (∀ j, j < i → v.2 j = x)) n (fun K i v hi hI hK => ?_) 0 (by omega) ⟨rfl, fun j hj => absurd hj (by omega)⟩
  obtain ⟨x2, s1⟩ := v
  obtain ⟨h1, h2⟩ := hI
  dsimp only at h1 h2
  subst h1
  unfold F_J7_fill_d0a16_6
  dsimp only
  rw [show Int32.ofNat n = nI n from rfl]
  simp (disch := omega) only [i1, nI_add, nI_leI, vin_n, nI_clamp]
  refine ⟨fun c => h s1 (fun j hj => h2 j (by omega)), fun c => ⟨by omega, hK (by omega) _ ⟨rfl, fun j hj => ?_⟩⟩⟩
  dsimp only
  rcases Nat.lt_or_ge j i with z | z
  · rw [pk_uLn (by omega)]; exact h2 j z
  · have : j = i := by omega
    subst this; rw [pk_uLs]
theorem cpyL {f g : Nat → Int64} {n j : Nat} (h : j < n) : va_cpy f g 0 0 n j = f j := by rw [pk_cpy_in (by omega) (by omega)]; simp
theorem c5lo {c : Nat} (h1 : 1 ≤ c) (h5 : c ≤ 5) : (if (1 : Int32) < (nI c - 1) then (nI c - 1) else 1) - 1 = nI (max 1 (c - 1) - 1) := by
  rcases (show c = 1 ∨ c = 2 ∨ c = 3 ∨ c = 4 ∨ c = 5 by omega) with rfl | rfl | rfl | rfl | rfl <;> decide
theorem c5hi {c : Nat} (h1 : 1 ≤ c) (h5 : c ≤ 5) : (if (nI c + 1 : Int32) < 5 then (nI c + 1) else 5) - 1 = nI (min 5 (c + 1) - 1) := by
  rcases (show c = 1 ∨ c = 2 ∨ c = 3 ∨ c = 4 ∨ c = 5 by omega) with rfl | rfl | rfl | rfl | rfl <;> decide
theorem sp_X3_pass {n k : Nat} {nx wy : Nat → Int64} (hl : l ≤ 9) (hm : m ≤ 9) (hn : 1 ≤ n) (hn5 : n ≤ 5) (hk : k ≤ 10) {post : (Nat → Int64) → (Nat → Int64) → Prop} (h : ∀ nx' wy', (∀ j, j < 5 → wy' j = lN (MWs l m n k j)) → post nx' wy') : wp_X3_pass (nI l) (nI m) nx wy (nI n) (nI k) post := by
  unfold wp_X3_pass
  refine fix_iv (fun i v => v.1 = nI (i + 1) ∧ ∀ j, j < i → v.2 j = lN (MWs l m n 0 j)) 5 (fun K i v hi hI hK => ?_) 0 (by omega) ⟨rfl, fun j hj => absurd hj (by omega)⟩
  obtain ⟨x4, w1⟩ := v
  obtain ⟨e1, e2⟩ := hI
  dsimp only at e1 e2
  subst e1
  unfold F_X3_pass_3
  dsimp only
  rw [show (5 : Int32) = nI 5 from rfl, nI_ltI (by omega) (by omega)]
  refine ⟨fun c => ?_, fun c => ?_⟩
  · have : i = 5 := by omega
    subst this
    refine fix_iv (fun i v => v.1 = nI i ∧ ∀ j, j < 5 → v.2.2 j = lN (MWs l m n i j)) k (fun K i v hi hI hK => ?_) 0 (by omega) ⟨rfl, e2⟩
    obtain ⟨x4, nx1, wy1⟩ := v
    obtain ⟨e1, e2⟩ := hI
    dsimp only at e1 e2
    subst e1
    unfold F_X3_pass_38
    dsimp only
    rw [nI_leI (by omega) (by omega)]
    refine ⟨fun c => ?_, fun c => sp_fillL (by decide) (fun p' hp' => ?_)⟩
    · have : i = k := by omega
      subst this; exact h nx1 wy1 e2
    · refine fix_iv (fun c v => v.1 = nI (c + 1) ∧ ∀ j, j < 5 → v.2 j = lN (acc (MWs l m n i) l (20 - l - m) m c j)) 5 (fun K' c v hc hI hK' => ?_) 0 (by omega) ⟨rfl, hp'⟩
      obtain ⟨x5, nx2⟩ := v
      obtain ⟨f1, f2⟩ := hI
      dsimp only at f1 f2
      subst f1
      unfold F_X3_pass_55
      dsimp only
      rw [show (5 : Int32) < nI (c + 1) ↔ 5 < c + 1 from nI_ltI (a := 5) (by decide) (by omega)]
      refine ⟨fun q => ?_, fun q => ?_⟩
      · have : c = 5 := by omega
        subst this
        rw [nI_1]
        refine hK (by omega) _ ⟨rfl, fun j hj => ?_⟩
        show va_cpy nx2 wy1 0 0 5 j = _
        rw [cpyL hj]; exact f2 j hj
      · rw [c5lo (by omega) (by omega), c5hi (by omega) (by omega), show nI (c + 1) - 1 = nI c from nI_pred c, nI_clamp (by omega), nI_clamp (by omega), nI_clamp (by omega), e2 c (by omega)]
        have v1 : vp_in (nI (max 1 (c + 1 - 1) - 1)) 5 := (vin_n (by omega)).mpr (by omega)
        have v2 : vp_in (nI c) 5 := (vin_n (by omega)).mpr (by omega)
        have v3 : vp_in (nI (min 5 (c + 1 + 1) - 1)) 5 := (vin_n (by omega)).mpr (by omega)
        refine ⟨v1, v2, sp_slm ⟨v1, v2, v2, sp_sl0 hl hm ⟨v2, v3, v2, sp_slp ⟨v3, ?_⟩⟩⟩⟩
        rw [nI_l (by omega), nI_l (by omega), nI_l (by omega), nI_1, lN_mul, lN_mul, lN_mul]
        refine hK' (by omega) _ ⟨rfl, fun j hj => ?_⟩
        dsimp only
        rw [adl, adl, adl, f2 j hj, adN, adN, adN]
        rfl
  · have hK := hK (by omega)
    rw [show nI (i + 1) - 1 = nI i from nI_pred i, nI_clamp (by omega), nI_eq (by omega) (by omega), nI_1]
    have v1 : vp_in (nI i) 5 := (vin_n (by omega)).mpr (by omega)
    refine ⟨fun q => ⟨v1, hK _ ⟨rfl, fun j hj => ?_⟩⟩, fun q => ⟨v1, hK _ ⟨rfl, fun j hj => ?_⟩⟩⟩
    · dsimp only
      rcases Nat.lt_or_ge j i with z | z
      · rw [pk_uLn (by omega)]; exact e2 j z
      · have : j = i := by omega
        subst this; rw [pk_uLs]; unfold MWs; rw [if_neg q]; rfl
    · dsimp only
      rcases Nat.lt_or_ge j i with z | z
      · rw [pk_uLn (by omega)]; exact e2 j z
      · have : j = i := by omega
        subst this; rw [pk_uLs]; unfold MWs; rw [if_pos q]; rfl
/-! the reference -/
theorem sp_hears {ru : Nat → Int32} (h0 : ru 0 = nI l) (h1 : ru 1 = nI m) (hl : l ≤ 9) (hm : m ≤ 9) {c : Nat} (hc : c < 100) {post : Int32 → Prop} : (post (nI l) → wp_X12_hears ru (nI c) (nI c + (-1)) post) ∧ (post (nI (20 - l - m)) → wp_X12_hears ru (nI c) (nI c + 0) post) ∧ (post (nI m) → wp_X12_hears ru (nI c) (nI c + 1) post) := by
  have v0 : vp_in 0 8 := by unfold vp_in; decide
  have v1 : vp_in 1 8 := by unfold vp_in; decide
  have n1 : ¬ nI c + (-1) = nI c := by grind
  have n2 : ¬ nI c + 1 = nI c := by grind
  have n3 : ¬ nI c + 1 = nI c - 1 := by grind
  have e1 : nI c + (-1) = nI c - 1 := by grind
  have e0 : nI c + 0 = nI c := by grind
  unfold wp_X12_hears
  rw [show (0 : Int32).toNatClampNeg = 0 from rfl, show (1 : Int32).toNatClampNeg = 1 from rfl, h0, h1, e20 hl hm]
  refine ⟨fun h => ⟨fun _ => ⟨fun q => absurd e1 q, fun _ => ⟨v0, h⟩⟩, fun q => absurd q n1⟩, fun h => ⟨fun q => absurd e0 q, fun _ => ⟨v0, v1, h⟩⟩, fun h => ⟨fun _ => ⟨fun _ => ⟨fun q => absurd rfl q, fun _ => ⟨v1, h⟩⟩, fun q => absurd q n3⟩, fun q => absurd q n2⟩⟩
theorem lay74 {ru : Nat → Int32} (h0 : ru 0 = nI l) (h1 : ru 1 = nI m) (hl : l ≤ 9) (hm : m ≤ 9) {c : Nat} (hc1 : 1 ≤ c) (hc5 : c ≤ 5) {mo th : Nat → Int64} {W f : Nat → Nat} (hmo : mo c = lN (W (c - 1))) (hth : ∀ j, j < 5 → th (j + 1) = lN (f j)) {K64 : (Int32 × (Nat → Int64)) → Prop} (hK : ∀ th', (∀ j, j < 5 → th' (j + 1) = lN (ad3 W l (20 - l - m) m c f j)) → K64 (nI c + 1, th')) : ∃ n, fixN (F_X12_layMouths_74 ru (nI c) mo K64) n (-1, th) := by
  have hh := fun post => sp_hears (ru := ru) h0 h1 hl hm (c := c) (by omega) (post := post)
  have vc : vp_in (nI c) 7 := (vin_n (by omega)).mpr (by omega)
  have clm : (nI c).toNatClampNeg = c := nI_clamp (by omega)
  refine ⟨4, ?_⟩
  -- off -1
  show F_X12_layMouths_74 ru (nI c) mo K64 (fixN (F_X12_layMouths_74 ru (nI c) mo K64) 3) (-1, th)
  have s1 : ∀ K : (Int32 × (Nat → Int64)) → Prop, K (0, vp_updL th (max 1 (c - 1)) (th (max 1 (c - 1)) + lN (W (c - 1)) * lN l)) → F_X12_layMouths_74 ru (nI c) mo K64 K (-1, th) := fun K hn => by
    unfold F_X12_layMouths_74 B_X12_layMouths_111
    dsimp only
    rw [clm, hmo]
    refine ⟨fun q => absurd q (by decide), fun _ => ⟨fun q => ⟨fun q2 => ?_, fun q2 => ?_⟩, fun q => ?_⟩⟩
    · have e : nI c + (-1) = nI (max 1 (c - 1)) := by rcases (show c = 1 ∨ c = 2 ∨ c = 3 ∨ c = 4 ∨ c = 5 by omega) with rfl | rfl | rfl | rfl | rfl <;> revert q <;> decide
      have ve : vp_in (nI c + (-1)) 7 := by rw [e]; exact (vin_n (by omega)).mpr (by omega)
      refine ⟨ve, vc, (hh _).1 ⟨ve, ?_⟩⟩
      rw [e, nI_clamp (by omega), nI_l (by omega)]; exact hn
    · exfalso; rcases (show c = 1 ∨ c = 2 ∨ c = 3 ∨ c = 4 ∨ c = 5 by omega) with rfl | rfl | rfl | rfl | rfl <;> exact absurd (by decide) q2
    · have c1 : c = 1 := by rcases (show c = 1 ∨ c = 2 ∨ c = 3 ∨ c = 4 ∨ c = 5 by omega) with rfl | rfl | rfl | rfl | rfl <;> first | rfl | exact absurd (by decide) q
      subst c1
      have ve : vp_in (1 : Int32) 7 := by unfold vp_in; decide
      refine ⟨ve, vc, (hh _).1 ⟨ve, ?_⟩⟩
      rw [nI_l (by omega)]; exact hn
  have s2 : ∀ (K : (Int32 × (Nat → Int64)) → Prop) (th : Nat → Int64), K (1, vp_updL th c (th c + lN (W (c - 1)) * lN (20 - l - m))) → F_X12_layMouths_74 ru (nI c) mo K64 K (0, th) := fun K th hn => by
    unfold F_X12_layMouths_74 B_X12_layMouths_111
    dsimp only
    rw [clm, hmo]
    have e : nI c + 0 = nI c := Int32.add_zero _
    refine ⟨fun q => absurd q (by decide), fun _ => ⟨fun q => ⟨fun q2 => ?_, fun q2 => ?_⟩, fun q => ?_⟩⟩
    · refine ⟨by rw [e]; exact vc, vc, (hh _).2.1 ⟨by rw [e]; exact vc, ?_⟩⟩
      rw [e, clm, nI_l (by omega)]; exact hn
    · exfalso; rcases (show c = 1 ∨ c = 2 ∨ c = 3 ∨ c = 4 ∨ c = 5 by omega) with rfl | rfl | rfl | rfl | rfl <;> exact absurd (by decide) q2
    · exfalso; rcases (show c = 1 ∨ c = 2 ∨ c = 3 ∨ c = 4 ∨ c = 5 by omega) with rfl | rfl | rfl | rfl | rfl <;> exact absurd (by decide) q
  have s3 : ∀ (K : (Int32 × (Nat → Int64)) → Prop) (th : Nat → Int64), K (2, vp_updL th (min 5 (c + 1)) (th (min 5 (c + 1)) + lN (W (c - 1)) * lN m)) → F_X12_layMouths_74 ru (nI c) mo K64 K (1, th) := fun K th hn => by
    unfold F_X12_layMouths_74 B_X12_layMouths_111
    dsimp only
    rw [clm, hmo]
    refine ⟨fun q => absurd q (by decide), fun _ => ⟨fun q => ⟨fun q2 => ?_, fun q2 => ?_⟩, fun q => ?_⟩⟩
    · have e : nI c + 1 = nI (min 5 (c + 1)) := by rcases (show c = 1 ∨ c = 2 ∨ c = 3 ∨ c = 4 ∨ c = 5 by omega) with rfl | rfl | rfl | rfl | rfl <;> revert q2 <;> decide
      have ve : vp_in (nI c + 1) 7 := by rw [e]; exact (vin_n (by omega)).mpr (by omega)
      refine ⟨ve, vc, (hh _).2.2 ⟨ve, ?_⟩⟩
      rw [e, nI_clamp (by omega), nI_l (by omega)]; exact hn
    · have c5 : c = 5 := by rcases (show c = 1 ∨ c = 2 ∨ c = 3 ∨ c = 4 ∨ c = 5 by omega) with rfl | rfl | rfl | rfl | rfl <;> first | rfl | exact absurd (by decide) q2
      subst c5
      have ve : vp_in (5 : Int32) 7 := by unfold vp_in; decide
      refine ⟨ve, vc, (hh _).2.2 ⟨ve, ?_⟩⟩
      rw [nI_l (by omega)]; exact hn
    · exfalso; rcases (show c = 1 ∨ c = 2 ∨ c = 3 ∨ c = 4 ∨ c = 5 by omega) with rfl | rfl | rfl | rfl | rfl <;> exact absurd (by decide) q
  refine s1 _ (s2 _ _ (s3 _ _ ?_))
  show F_X12_layMouths_74 ru (nI c) mo K64 (fixN (F_X12_layMouths_74 ru (nI c) mo K64) 0) (2, _)
  unfold F_X12_layMouths_74
  dsimp only
  refine ⟨fun _ => hK _ (fun j hj => ?_), fun q => absurd (by decide) q⟩
  rw [lN_mul, lN_mul, lN_mul, adl, adl, adl, hth j hj, adN, adN, adN]
  unfold ad3
  congr 1
  have a1 : (j + 1 = max 1 (c - 1)) ↔ (j = max 1 (c - 1) - 1) := by omega
  have a2 : (j + 1 = c) ↔ (j = c - 1) := by omega
  have a3 : (j + 1 = min 5 (c + 1)) ↔ (j = min 5 (c + 1) - 1) := by omega
  simp only [a1, a2, a3]
theorem sp_X12_layMouths {ru : Nat → Int32} (h0 : ru 0 = nI l) (h1 : ru 1 = nI m) {n k : Nat} {mo th : Nat → Int64} (hl : l ≤ 9) (hm : m ≤ 9) (hn : 1 ≤ n) (hn5 : n ≤ 5) (hk : k ≤ 10) {post : (Nat → Int64) → (Nat → Int64) → Prop} (h : ∀ mo' th', (∀ j, j < 5 → mo' (j + 1) = lN (MWs l m n k j)) → post mo' th') : wp_X12_layMouths mo th ru (nI n) (nI k) post := by
  unfold wp_X12_layMouths
  refine fix_iv (fun i v => v.1 = nI i ∧ ∀ j, j + 1 < i → j < 5 → v.2 (j + 1) = lN (MWs l m n 0 j)) 7 (fun K i v hi hI hK => ?_) 0 (by omega) ⟨rfl, fun j hj => absurd hj (by omega)⟩
  obtain ⟨x4, w1⟩ := v
  obtain ⟨e1, e2⟩ := hI
  dsimp only at e1 e2
  subst e1
  unfold F_X12_layMouths_2
  dsimp only
  rw [show (7 : Int32) = nI 7 from rfl, nI_leI (by omega) (by omega)]
  refine ⟨fun c => ?_, fun c => ?_⟩
  · have : i = 7 := by omega
    subst this
    refine fix_iv (fun i v => v.1 = nI i ∧ ∀ j, j < 5 → v.2.1 (j + 1) = lN (MWs l m n i j)) k (fun K i v hi hI hK => ?_) 0 (by omega) ⟨rfl, fun j hj => e2 j (by omega) hj⟩
    obtain ⟨x4, mo1, th1⟩ := v
    obtain ⟨e1, e2⟩ := hI
    dsimp only at e1 e2
    subst e1
    unfold F_X12_layMouths_32
    dsimp only
    rw [nI_leI (by omega) (by omega)]
    refine ⟨fun c => ?_, fun c => ?_⟩
    · have : i = k := by omega
      subst this; exact h mo1 th1 e2
    · -- fill
      refine fix_iv (fun c v => v.1 = nI c ∧ ∀ j, j < c → v.2 j = lN 0) 7 (fun K' c v hc hI hK' => ?_) 0 (by omega) ⟨rfl, fun j hj => absurd hj (by omega)⟩
      obtain ⟨x5, th2⟩ := v
      obtain ⟨f1, f2⟩ := hI
      dsimp only at f1 f2
      subst f1
      unfold F_X12_layMouths_40
      dsimp only
      rw [show (7 : Int32) = nI 7 from rfl, nI_leI (by omega) (by omega)]
      refine ⟨fun q => ?_, fun q => ⟨(vin_n (by omega)).mpr (by omega), ?_⟩⟩
      · refine fix_iv (fun c v => v.1 = nI (c + 1) ∧ ∀ j, j < 5 → v.2 (j + 1) = lN (acc (MWs l m n i) l (20 - l - m) m c j)) 5 (fun K'' c v hc hI hK'' => ?_) 0 (by omega) ⟨rfl, fun j hj => f2 (j + 1) (by omega)⟩
        obtain ⟨x6, th3⟩ := v
        obtain ⟨g1, g2⟩ := hI
        dsimp only at g1 g2
        subst g1
        unfold F_X12_layMouths_64
        dsimp only
        rw [show (6 : Int32) = nI 6 from rfl, nI_leI (by omega) (by omega)]
        refine ⟨fun q2 => ?_, fun q2 => ?_⟩
        · have : c = 5 := by omega
          subst this
          -- copy
          refine fix_iv (fun c v => v.1 = nI c ∧ ∀ j, j < c → v.2 j = th3 j) 7 (fun K3 c v hc hI hK3 => ?_) 0 (by omega) ⟨rfl, fun j hj => absurd hj (by omega)⟩
          obtain ⟨x7, mo2⟩ := v
          obtain ⟨k1, k2⟩ := hI
          dsimp only at k1 k2
          subst k1
          unfold F_X12_layMouths_158
          dsimp only
          rw [show (7 : Int32) = nI 7 from rfl, nI_leI (by omega) (by omega)]
          refine ⟨fun q3 => ?_, fun q3 => ⟨(vin_n (by omega)).mpr (by omega), (vin_n (by omega)).mpr (by omega), ?_⟩⟩
          · rw [nI_1]
            refine hK (by omega) _ ⟨rfl, fun j hj => ?_⟩
            show mo2 (j + 1) = _
            rw [k2 (j + 1) (by omega)]; exact g2 j hj
          · rw [nI_clamp (by omega), nI_1]
            refine hK3 (by omega) _ ⟨rfl, fun j hj => ?_⟩
            dsimp only
            rcases Nat.lt_or_ge j c with z | z
            · rw [pk_uLn (by omega)]; exact k2 j z
            · have : j = c := by omega
              subst this; rw [pk_uLs]
        · refine lay74 h0 h1 hl hm (by omega) (by omega) (W := MWs l m n i) (f := acc (MWs l m n i) l (20 - l - m) m c) (e2 c (by omega)) g2 (fun th' ht' => ?_)
          rw [nI_1]
          exact hK'' (by omega) _ ⟨rfl, ht'⟩
      · rw [nI_clamp (by omega), nI_1]
        refine hK' (by omega) _ ⟨rfl, fun j hj => ?_⟩
        dsimp only
        rcases Nat.lt_or_ge j c with z | z
        · rw [pk_uLn (by omega)]; exact f2 j z
        · have : j = c := by omega
          subst this; rw [pk_uLs]; rfl
  · have hK := hK (by omega)
    rw [nI_clamp (by omega), nI_eq (by omega) (by omega), nI_1]
    have v1 : vp_in (nI i) 7 := (vin_n (by omega)).mpr (by omega)
    refine ⟨fun q => ⟨v1, hK _ ⟨rfl, fun j hj hj5 => ?_⟩⟩, fun q => ⟨v1, hK _ ⟨rfl, fun j hj hj5 => ?_⟩⟩⟩
    · dsimp only
      rcases Nat.lt_or_ge (j + 1) i with z | z
      · rw [pk_uLn (by omega)]; exact e2 j z hj5
      · have : i = j + 1 := by omega
        subst this; rw [pk_uLs]; unfold MWs; rw [if_neg q]; rfl
    · dsimp only
      rcases Nat.lt_or_ge (j + 1) i with z | z
      · rw [pk_uLn (by omega)]; exact e2 j z hj5
      · have : i = j + 1 := by omega
        subst this; rw [pk_uLs]; unfold MWs; rw [if_pos q]; rfl
end
