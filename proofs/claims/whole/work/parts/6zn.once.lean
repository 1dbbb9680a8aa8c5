/-! lines that are told once, reference side -/
theorem bit_I1 {n k : Nat} (hn : n < 2 ^ 31) (hk : k < 32) : ((nI n >>> (nI k &&& 31)) &&& 1 : Int32) = 1 ↔ n / 2 ^ k % 2 = 1 := by
  rw [pk_shrN hn (nI k &&& 31) k (s_l k (by omega)), pk_andN (n := n / 2 ^ k) (Nat.lt_of_le_of_lt (Nat.div_le_self _ _) (by omega)) (m := 1) 1 rfl, i1, nI_eq (by omega) (by omega)]
theorem dst_iff {B : Nat → Nat} {f : Nat} : dst B f = true ↔ ∀ k, k < 25 → ∀ j, j < k → ¬ B (f + j) = B (f + k) := by
  unfold dst
  rw [decide_eq_true_iff]
  constructor
  · intro h k hk j hj e
    have a := fnd_no (fun k => decide (fnd (fun j => B (f + j) == B (f + k)) k < k)) 25 k (by omega)
    have a := of_decide_eq_false a
    have b := fnd_no (fun j => B (f + j) == B (f + k)) k j (by have := fnd_le (fun j => B (f + j) == B (f + k)) k; omega)
    simp [e] at b
  · intro h
    refine fnd_none (fun k hk => decide_eq_false (fun z => ?_))
    have y := fnd_yes (fun j => B (f + j) == B (f + k)) k z
    have y : B (f + fnd (fun j => B (f + j) == B (f + k)) k) = B (f + k) := by simpa using y
    exact h k hk _ z y
section
variable {B : Nat → Nat} {n a a0 : Nat} {s : Ps} {tape rt rr : Nat → Int32} {bra sp he to va : Int32}
theorem sp_X12_takeTable (hn : n ≤ 320) (hB : ∀ k, k < n → B k < 256 ∧ tape k = nI (B k)) (ha : a ≤ n) (hk : ¬ (tkn B n a).1 = 0) {post : Int32 → Int32 → Int32 → Int32 → Int32 → Int32 → (Nat → Int32) → Prop} (h0 : ¬ fNm B n 25 25 a = 0 → ∀ sp' he' to' va' rt', post (nI (fNm B n 25 25 a)) (nI (tf B n a)) sp' he' to' va' rt') (h1 : fNm B n 25 25 a = 0 → ¬ dst B (tf B n a) = true → ∀ sp' he' to' va' rt', post 3 (nI (tf B n a)) sp' he' to' va' rt') (h2 : fNm B n 25 25 a = 0 → dst B (tf B n a) = true → (tkn B n (te B n a)).1 = 0 → ∀ sp' he' to' va' rt', post 1 (nI (tf B n (te B n a))) sp' he' to' va' rt') (h3 : fNm B n 25 25 a = 0 → dst B (tf B n a) = true → ¬ (tkn B n (te B n a)).1 = 0 → ∀ rt', (∀ p, p < 25 → rt' p = nI (B (tf B n a + p) - 97)) → post 0 bra (nI (te B n (te B n a))) (nI (tf B n (te B n a))) (nI ((tkn B n (te B n a)).1 - 1)) (nI (tv B n (te B n a))) rt') : wp_X12_takeTable (nI n) 0 bra (nI (te B n a)) (nI (tf B n a)) (nI ((tkn B n a).1 - 1)) (nI (tv B n a)) rt tape post := by
  have hr := tk_rng (B := B) hn ha
  unfold wp_X12_takeTable
  refine rl_nm (o := 0) (lo := 25) (hi := 25) hn hB ha hk (by omega) (by omega) (by omega) (by omega) (fun w r => ?_) (fun w p1' k1 k2 k3 => ?_)
  · have h9 := fNm_9 (B := B) (n := n) (a := a) (lo := 25) (hi := 25)
    have e0 : ¬ nI (fNm B n 25 25 a) = 0 := fun z => by have := (nI_eq (b := 0) (by omega) (by omega)).mp z; omega
    refine ⟨1, ?_⟩
    show F_X12_takeTable_18 _ _ _ _ _ _ _ _ _ _
    unfold F_X12_takeTable_18
    dsimp only
    exact ⟨fun q => absurd q (by decide), fun _ => ⟨fun _ => sp_next_no (by omega) (by omega) (h0 w _ _ _ _ _), fun q => absurd q e0⟩⟩
  · have hf := fNm_0 w
    have hl := (hr.2.2.2.2.2.2 hf.1).2
    have h25 : te B n a - tf B n a = 25 := by omega
    have hc : ∀ p, p < 25 → 97 ≤ B (tf B n a + p) ∧ B (tf B n a + p) < 123 := fun p hp => isLt_iff.mp (hl _ (Nat.le_add_right _ _) (by omega))
    have hp1 : ∀ p, p < 25 → p1' p = nI (B (tf B n a + p) - 97) := fun p hp => by
      have := k1 p (by omega); rw [Nat.zero_add] at this; exact this
    refine fix_iv (fun k v => v.2.1 = nI k ∧ ((v.2.2.1 = 0 ∧ v.2.2.2 = bra ∧ v.1 = nI (orN (fun p => 2 ^ (B (tf B n a + p) - 97)) k) ∧ ∀ i, i < k → ∀ j, j < i → ¬ B (tf B n a + j) = B (tf B n a + i)) ∨ (v.2.2.1 = 3 ∧ v.2.2.2 = nI (tf B n a) ∧ ¬ dst B (tf B n a) = true))) 25 (fun K k v hk2 hI hK => ?_) 0 (by omega) ⟨rfl, Or.inl ⟨rfl, rfl, rfl, fun i hi => absurd hi (by omega)⟩⟩
    obtain ⟨x1, x2, br, ba⟩ := v
    obtain ⟨e1, e2⟩ := hI
    dsimp only at e1 e2
    subst e1
    unfold F_X12_takeTable_18 B_X12_takeTable_50
    dsimp only
    rw [i25, nI_leI (by omega) (by omega)]
    rcases e2 with ⟨e2, e3, e4, e5⟩ | ⟨e2, e3, e4⟩
    · subst e2; subst e3; subst e4
      refine ⟨fun q => ?_, fun q => ⟨fun t => absurd rfl t, fun _ => ⟨(vin_n (by omega)).mpr (by omega), ?_⟩⟩⟩
      · have hd : dst B (tf B n a) = true := dst_iff.mpr (fun i hi j hj => e5 i (by omega) j hj)
        exact rl_next hn hB hr.2.2.1 (fun z _ _ _ => h2 w hd z _ _ _ _ _) (fun z => h3 w hd z _ hp1)
      · have hck := hc k (by omega)
        have hlt : orN (fun p => 2 ^ (B (tf B n a + p) - 97)) k < 2 ^ 26 := orS_lt (S := fun p => B (tf B n a + p) - 97) (fun j hj => by have := hc j (by omega); show B (tf B n a + j) - 97 < 26; omega)
        rw [nI_clamp (by omega), hp1 k (by omega), bit_I1 (by omega) (by omega), one_shl (by omega), nI_or, nI_1]
        have bo := bit_or (g := fun p => B (tf B n a + p) - 97) (l := B (tf B n a + k) - 97) k
        have v : vp_in (nI k) 25 := (vin_n (by omega)).mpr (by omega)
        refine ⟨fun z => ⟨v, hK (by omega) _ ⟨rfl, Or.inl ⟨rfl, rfl, rfl, fun i hi j hj => ?_⟩⟩⟩, fun z => ?_⟩
        · rcases Nat.lt_or_ge i k with y | y
          · exact e5 i y j hj
          · have : i = k := by omega
            subst this
            have := bo.mp (by omega) j hj
            intro e; exact this (by rw [e])
        · unfold wp_X12_fails
          refine ⟨fun t => absurd rfl t, fun _ => ⟨v, hK (by omega) _ ⟨rfl, Or.inr ⟨rfl, rfl, fun hd => ?_⟩⟩⟩⟩
          have hd := dst_iff.mp hd k (by omega)
          have := bo.mpr (fun j hj e => hd j hj (by have := hc j (by omega); omega))
          omega
    · subst e2; subst e3
      exact ⟨fun q => sp_next_no (b := 3) (by omega) (by omega) (h1 w e4 _ _ _ _ _), fun q => ⟨fun _ => sp_next_no (b := 3) (by omega) (by omega) (h1 w e4 _ _ _ _ _), fun t => absurd t (by decide)⟩⟩
def tdN (s : Ps) : Nat := s.2.2.1 + 8 * s.2.2.2.1 + 16 * s.2.2.2.2
theorem tdN_or {x y z : Nat} (hx : x ≤ 1) (hy : y ≤ 1) (hz : z ≤ 1) : (x = 0 → x + 8 * y + 16 * z ||| 2 ^ 0 = 1 + 8 * y + 16 * z) ∧ (y = 0 → x + 8 * y + 16 * z ||| 2 ^ 3 = x + 8 * 1 + 16 * z) ∧ (z = 0 → x + 8 * y + 16 * z ||| 2 ^ 4 = x + 8 * y + 16 * 1) := by
  rcases (show x = 0 ∨ x = 1 by omega) with rfl | rfl <;> rcases (show y = 0 ∨ y = 1 by omega) with rfl | rfl <;> rcases (show z = 0 ∨ z = 1 by omega) with rfl | rfl <;> decide
theorem rl_T (hn : n ≤ 320) (hB : ∀ k, k < n → B k < 256 ∧ tape k = nI (B k)) (ha : a ≤ n) (hf1 : s.2.2.1 ≤ 1) (hf2 : s.2.2.2.1 ≤ 1) (hf3 : s.2.2.2.2 ≤ 1) {post : Int32 → Int32 → Int32 → Int32 → Int32 → Int32 → Int32 → (Nat → Int32) → (Nat → Int32) → Prop}
    (h0 : ¬ (lnT B n s a0 a).1 = 0 → ∀ sp' he' to' va' tn' rr' rt', post (nI (lnT B n s a0 a).1) (nI (lnT B n s a0 a).2.1) sp' he' to' va' tn' rr' rt')
    (h1 : ∀ f b, lnT B n s a0 a = lnS B n (s.1, fun p => B (f + p) - 97, 1, s.2.2.2.1, s.2.2.2.2) b → b ≤ n → ¬ (tkn B n b).1 = 0 → ∀ rt', (∀ p, p < 25 → rt' p = nI (B (f + p) - 97)) → post 0 bra (nI (te B n b)) (nI (tf B n b)) (nI ((tkn B n b).1 - 1)) (nI (tv B n b)) (nI (1 + 8 * s.2.2.2.1 + 16 * s.2.2.2.2)) rr rt') :
    wp_X12_readOnce (nI n) 0 bra (nI a) (nI (tf B n a0)) to va (nI (tdN s)) tape rr rt (nI 0) post := by
  have hr := tk_rng (B := B) hn ha
  have ho := (tdN_or hf1 hf2 hf3).1
  unfold wp_X12_readOnce
  have bt : tdN s / 2 ^ 0 % 2 = 1 ↔ ¬ s.2.2.1 = 0 := by unfold tdN; omega
  rw [bit_I1 (by unfold tdN; omega) (by omega), bt]
  refine ⟨fun q => ?_, fun q => ?_⟩
  · have q : s.2.2.1 = 0 := Classical.byContradiction q
    unfold B_X12_readOnce_17
    rw [one_shl (by omega), nI_or, show tdN s ||| 2 ^ 0 = 1 + 8 * s.2.2.2.1 + 16 * s.2.2.2.2 from ho q]
    refine rl_next hn hB ha (fun z sp1 tk1 v1 => ⟨fun t => absurd rfl t, fun _ => ?_⟩) (fun z => ⟨fun t => absurd rfl t, fun _ => ?_⟩)
    · have e : lnT B n s a0 a = (1, tf B n a, s, a) := by unfold lnT; rw [if_neg (fun t => t q), thn_n (by rw [fNm_1 z]; decide), fNm_1 z]
      rw [e] at h0
      have h0 := h0 (Nat.succ_ne_zero _)
      unfold wp_X12_takeTable
      refine sp_takeName_no (b := 1) (by omega) (by omega) ⟨1, ?_⟩
      show F_X12_takeTable_18 _ _ _ _ _ _ _ _ _ _
      unfold F_X12_takeTable_18
      dsimp only
      exact ⟨fun t => absurd t (by decide), fun _ => ⟨fun _ => sp_next_no (b := 1) (by omega) (by omega) (h0 _ _ _ _ _ _ _), fun t => absurd t (by decide)⟩⟩
    · refine sp_X12_takeTable hn hB ha z (fun w _ _ _ _ _ => ?_) (fun w w2 _ _ _ _ _ => ?_) (fun w w2 w3 _ _ _ _ _ => ?_) (fun w w2 w3 rt' hrt => ?_)
      · have e : lnT B n s a0 a = (fNm B n 25 25 a, tf B n a, s, a) := by unfold lnT; rw [if_neg (fun t => t q), thn_n w]
        rw [e] at h0; exact h0 w _ _ _ _ _ _ _
      · have e : lnT B n s a0 a = (3, tf B n a, s, a) := by unfold lnT; rw [if_neg (fun t => t q), thn_0 w, if_neg w2]
        rw [e] at h0; exact h0 (Nat.succ_ne_zero _) _ _ _ _ _ _ _
      · have e : lnT B n s a0 a = lnS B n (s.1, fun p => B (tf B n a + p) - 97, 1, s.2.2.2.1, s.2.2.2.2) (te B n a) := by unfold lnT; rw [if_neg (fun t => t q), thn_0 w, if_pos w2]
        rw [e, lnS_1 w3] at h0; exact h0 (Nat.succ_ne_zero _) _ _ _ _ _ _ _
      · have e : lnT B n s a0 a = lnS B n (s.1, fun p => B (tf B n a + p) - 97, 1, s.2.2.2.1, s.2.2.2.2) (te B n a) := by unfold lnT; rw [if_neg (fun t => t q), thn_0 w, if_pos w2]
        exact h1 _ _ e hr.2.2.1 w3 _ hrt
  · have e : lnT B n s a0 a = (4, tf B n a0, s, a) := by unfold lnT; rw [if_pos q]
    rw [e] at h0
    have h0 := h0 (Nat.succ_ne_zero _)
    unfold wp_X12_fails B_X12_readOnce_17 wp_X12_takeTable
    refine ⟨fun t => absurd rfl t, fun _ => sp_next_no (b := 4) (by omega) (by omega) ⟨fun t => absurd rfl t, fun _ => sp_takeName_no (b := 4) (by omega) (by omega) ⟨1, ?_⟩⟩⟩
    show F_X12_takeTable_18 _ _ _ _ _ _ _ _ _ _
    unfold F_X12_takeTable_18
    dsimp only
    exact ⟨fun t => absurd t (by decide), fun _ => ⟨fun _ => sp_next_no (b := 4) (by omega) (by omega) (h0 _ _ _ _ _ _ _), fun t => absurd t (by decide)⟩⟩
theorem rl_P (hn : n ≤ 320) (hB : ∀ k, k < n → B k < 256 ∧ tape k = nI (B k)) (ha : a ≤ n) (hf1 : s.2.2.1 ≤ 1) (hf2 : s.2.2.2.1 ≤ 1) (hf3 : s.2.2.2.2 ≤ 1) {post : Int32 → Int32 → Int32 → Int32 → Int32 → Int32 → Int32 → (Nat → Int32) → (Nat → Int32) → Prop}
    (h0 : ¬ (lnP B n s a0 a).1 = 0 → ∀ sp' he' to' va' tn' rr' rt', post (nI (lnP B n s a0 a).1) (nI (lnP B n s a0 a).2.1) sp' he' to' va' tn' rr' rt')
    (h1 : ∀ x y b, lnP B n s a0 a = lnS B n (sS (sS s.1 2 x) 3 y, s.2.1, s.2.2.1, 1, s.2.2.2.2) b → b ≤ n → ¬ (tkn B n b).1 = 0 → post 0 bra (nI (te B n b)) (nI (tf B n b)) (nI ((tkn B n b).1 - 1)) (nI (tv B n b)) (nI (s.2.2.1 + 8 * 1 + 16 * s.2.2.2.2)) (upd (upd rr 0 (nI x)) 1 (nI y)) rt) :
    wp_X12_readOnce (nI n) 0 bra (nI a) (nI (tf B n a0)) to va (nI (tdN s)) tape rr rt (nI 3) post := by
  have hr := tk_rng (B := B) hn ha
  have hr2 := tk_rng (B := B) hn hr.2.2.1
  have ho := (tdN_or hf1 hf2 hf3).2.1
  unfold wp_X12_readOnce
  have bt : tdN s / 2 ^ 3 % 2 = 1 ↔ ¬ s.2.2.2.1 = 0 := by unfold tdN; omega
  have v0 : vp_in 0 8 := by unfold vp_in; decide
  have v1 : vp_in 1 8 := by unfold vp_in; decide
  rw [bit_I1 (by unfold tdN; omega) (by omega), bt]
  refine ⟨fun q => ?_, fun q => ?_⟩
  · have q : s.2.2.2.1 = 0 := Classical.byContradiction q
    unfold B_X12_readOnce_17
    rw [one_shl (by omega), nI_or, show tdN s ||| 2 ^ 3 = s.2.2.1 + 8 * 1 + 16 * s.2.2.2.2 from ho q]
    refine rl_next hn hB ha (fun z sp1 tk1 v1' => ⟨fun _ => ⟨fun t => absurd rfl t, fun _ => sp_number_no (b := 1) (by omega) (by omega) ⟨v0, sp_number_no (b := 1) (by omega) (by omega) ⟨v1, ?_⟩⟩⟩, fun t => absurd t (by decide)⟩) (fun z => ⟨fun _ => ⟨fun t => absurd rfl t, fun _ => ?_⟩, fun t => absurd t (by decide)⟩)
    · have e : lnP B n s a0 a = (1, tf B n a, s, a) := by unfold lnP; rw [if_neg (fun t => t q), thn_n (by rw [fNu_1 z]; decide), fNu_1 z]
      rw [e] at h0; exact h0 (Nat.succ_ne_zero _) _ _ _ _ _ _ _
    · refine rl_num (lo := 0) (hi := 9) hn hB ha z (by omega) (by omega) (fun w r sp2 he2 to2 va2 => ⟨v0, ?_⟩) (fun w y r sp2 to2 va2 => ⟨v0, sp_number_no (b := 1) (by omega) (by omega) ⟨v1, ?_⟩⟩) (fun w y => ⟨v0, ?_⟩)
      · have e : lnP B n s a0 a = (fNu B n 0 9 a, tf B n a, s, a) := by unfold lnP; rw [if_neg (fun t => t q), thn_n w]
        rw [e] at h0
        have h9 := fNu_9 (B := B) (n := n) (a := a) (lo := 0) (hi := 9)
        exact sp_number_no (by omega) (by omega) ⟨v1, h0 w _ _ _ _ _ _ _⟩
      · have e : lnP B n s a0 a = (1, tf B n (te B n a), s, te B n a) := by unfold lnP; rw [if_neg (fun t => t q), thn_0 w, thn_n (by rw [fNu_1 (a := te B n a) y]; decide), fNu_1 (a := te B n a) y]
        rw [e] at h0; exact h0 (Nat.succ_ne_zero _) _ _ _ _ _ _ _
      · refine rl_num (lo := 0) (hi := 9) hn hB hr.2.2.1 y (by omega) (by omega) (fun x r sp3 he3 to3 va3 => ⟨v1, ?_⟩) (fun x x2 r sp3 to3 va3 => ⟨v1, ?_⟩) (fun x x2 => ⟨v1, ?_⟩)
        · have e : lnP B n s a0 a = (fNu B n 0 9 (te B n a), tf B n (te B n a), s, te B n a) := by unfold lnP; rw [if_neg (fun t => t q), thn_0 w, thn_n x]
          rw [e] at h0; exact h0 x _ _ _ _ _ _ _
        · have e : lnP B n s a0 a = lnS B n (sS (sS s.1 2 (tv B n a)) 3 (tv B n (te B n a)), s.2.1, s.2.2.1, 1, s.2.2.2.2) (te B n (te B n a)) := by unfold lnP; rw [if_neg (fun t => t q), thn_0 w, thn_0 x]
          rw [e, lnS_1 (a := te B n (te B n a)) x2] at h0; exact h0 (Nat.succ_ne_zero _) _ _ _ _ _ _ _
        · have e : lnP B n s a0 a = lnS B n (sS (sS s.1 2 (tv B n a)) 3 (tv B n (te B n a)), s.2.1, s.2.2.1, 1, s.2.2.2.2) (te B n (te B n a)) := by unfold lnP; rw [if_neg (fun t => t q), thn_0 w, thn_0 x]
          exact h1 _ _ _ e hr2.2.2.1 x2
  · have e : lnP B n s a0 a = (4, tf B n a0, s, a) := by unfold lnP; rw [if_pos q]
    rw [e] at h0
    unfold wp_X12_fails B_X12_readOnce_17
    exact ⟨fun t => absurd rfl t, fun _ => sp_next_no (b := 4) (by omega) (by omega) ⟨fun _ => ⟨fun t => absurd rfl t, fun _ => sp_number_no (b := 4) (by omega) (by omega) ⟨v0, sp_number_no (b := 4) (by omega) (by omega) ⟨v1, h0 (Nat.succ_ne_zero _) _ _ _ _ _ _ _⟩⟩⟩, fun t => absurd t (by decide)⟩⟩
theorem brk_80 {tn : Int32} {post : Int32 → Int32 → Int32 → Int32 → Int32 → Int32 → Int32 → (Nat → Int32) → (Nat → Int32) → Prop} {b : Nat} (hb : 1 ≤ b) (hb9 : b ≤ 9) (h : ∀ sp' he' to' va' rr', post (nI b) bra sp' he' to' va' tn rr' rt) : ∀ m k, k + m = 5 → ∀ sp he to va rr, fixN (F_X12_readOnce_80 (nI n) tape tn rt post) (m + 1) (nI k, nI b, bra, sp, he, to, va, rr)
  | 0, k, hk, sp, he, to, va, rr => by
    have : k = 5 := by omega
    subst this
    show F_X12_readOnce_80 _ _ _ _ _ _ _
    unfold F_X12_readOnce_80
    exact ⟨fun _ => h _ _ _ _ _, fun q => absurd (show (4 : Int32) < nI 5 by decide) q⟩
  | m + 1, k, hk, sp, he, to, va, rr => by
    have ih := brk_80 hb hb9 h m (k + 1) (by omega)
    show F_X12_readOnce_80 _ _ _ _ _ _ _
    unfold F_X12_readOnce_80
    dsimp only
    rw [i4, nI_ltI (by omega) (by omega), nI_1]
    exact ⟨fun _ => h _ _ _ _ _, fun q => sp_number_no hb hb9 ⟨(vin_n (by omega)).mpr (by omega), ih _ _ _ _ _⟩⟩
theorem rl_M (hn : n ≤ 320) (hB : ∀ k, k < n → B k < 256 ∧ tape k = nI (B k)) (ha : a ≤ n) (hf1 : s.2.2.1 ≤ 1) (hf2 : s.2.2.2.1 ≤ 1) (hf3 : s.2.2.2.2 ≤ 1) {post : Int32 → Int32 → Int32 → Int32 → Int32 → Int32 → Int32 → (Nat → Int32) → (Nat → Int32) → Prop}
    (h0 : ¬ (lnM B n s a0 a).1 = 0 → ∀ sp' he' to' va' tn' rr' rt', post (nI (lnM B n s a0 a).1) (nI (lnM B n s a0 a).2.1) sp' he' to' va' tn' rr' rt')
    (h1 : ∀ x y z b, lnM B n s a0 a = lnS B n (sS (sS (sS s.1 4 x) 5 y) 6 z, s.2.1, s.2.2.1, s.2.2.2.1, 1) b → b ≤ n → ¬ (tkn B n b).1 = 0 → post 0 bra (nI (te B n b)) (nI (tf B n b)) (nI ((tkn B n b).1 - 1)) (nI (tv B n b)) (nI (s.2.2.1 + 8 * s.2.2.2.1 + 16 * 1)) (upd (upd (upd rr 2 (nI x)) 3 (nI y)) 4 (nI z)) rt) :
    wp_X12_readOnce (nI n) 0 bra (nI a) (nI (tf B n a0)) to va (nI (tdN s)) tape rr rt (nI 4) post := by
  have hr := tk_rng (B := B) hn ha
  have hr2 := tk_rng (B := B) hn hr.2.2.1
  have hr3 := tk_rng (B := B) hn hr2.2.2.1
  have ho := (tdN_or hf1 hf2 hf3).2.2
  unfold wp_X12_readOnce
  have bt : tdN s / 2 ^ 4 % 2 = 1 ↔ ¬ s.2.2.2.2 = 0 := by unfold tdN; omega
  have v2 : vp_in 2 8 := by unfold vp_in; decide
  have v3 : vp_in (2 + 1) 8 := by unfold vp_in; decide
  have v4 : vp_in (2 + 1 + 1) 8 := by unfold vp_in; decide
  have n0 : ¬ nI 4 = 0 := by decide
  have n3 : ¬ nI 4 = 3 := by decide
  rw [bit_I1 (by unfold tdN; omega) (by omega), bt]
  refine ⟨fun q => ?_, fun q => ?_⟩
  · have q : s.2.2.2.2 = 0 := Classical.byContradiction q
    unfold B_X12_readOnce_17
    rw [one_shl (by omega), nI_or, show tdN s ||| 2 ^ 4 = s.2.2.1 + 8 * s.2.2.2.1 + 16 * 1 from ho q]
    refine rl_next hn hB ha (fun z sp1 tk1 v1' => ⟨fun _ => ⟨fun _ => ⟨4, brk_80 (b := 1) (by omega) (by omega) (fun _ _ _ _ _ => ?_) 3 2 rfl _ _ _ _ _⟩, fun t => absurd t n3⟩, fun t => absurd t n0⟩) (fun z => ⟨fun _ => ⟨fun _ => ⟨4, ?_⟩, fun t => absurd t n3⟩, fun t => absurd t n0⟩)
    · have e : lnM B n s a0 a = (1, tf B n a, s, a) := by unfold lnM; rw [if_neg (fun t => t q), thn_n (by rw [fNu_1 z]; decide), fNu_1 z]
      rw [e] at h0; exact h0 (Nat.succ_ne_zero _) _ _ _ _ _ _ _
    · show F_X12_readOnce_80 _ _ _ _ _ _ _
      unfold F_X12_readOnce_80
      dsimp only
      refine ⟨fun t => absurd t (by decide), fun _ => ?_⟩
      refine rl_num (lo := 1) (hi := 99) hn hB ha z (by omega) (by omega) (fun w r sp2 he2 to2 va2 => ⟨v2, ?_⟩) (fun w y r sp2 to2 va2 => ⟨v2, brk_80 (b := 1) (by omega) (by omega) (fun _ _ _ _ _ => ?_) 2 3 rfl _ _ _ _ _⟩) (fun w y => ⟨v2, ?_⟩)
      · have e : lnM B n s a0 a = (fNu B n 1 99 a, tf B n a, s, a) := by unfold lnM; rw [if_neg (fun t => t q), thn_n w]
        rw [e] at h0
        have h9 := fNu_9 (B := B) (n := n) (a := a) (lo := 1) (hi := 99)
        exact brk_80 (by omega) (by omega) (fun _ _ _ _ _ => h0 w _ _ _ _ _ _ _) 2 3 rfl _ _ _ _ _
      · have e : lnM B n s a0 a = (1, tf B n (te B n a), s, te B n a) := by unfold lnM; rw [if_neg (fun t => t q), thn_0 w, thn_n (by rw [fNu_1 (a := te B n a) y]; decide), fNu_1 (a := te B n a) y]
        rw [e] at h0; exact h0 (Nat.succ_ne_zero _) _ _ _ _ _ _ _
      · show F_X12_readOnce_80 _ _ _ _ _ _ _
        unfold F_X12_readOnce_80
        dsimp only
        refine ⟨fun t => absurd t (by decide), fun _ => ?_⟩
        refine rl_num (lo := 1) (hi := 99) hn hB hr.2.2.1 y (by omega) (by omega) (fun x r sp2 he2 to2 va2 => ⟨v3, ?_⟩) (fun x x2 r sp2 to2 va2 => ⟨v3, brk_80 (b := 1) (by omega) (by omega) (fun _ _ _ _ _ => ?_) 1 4 rfl _ _ _ _ _⟩) (fun x x2 => ⟨v3, ?_⟩)
        · have e : lnM B n s a0 a = (fNu B n 1 99 (te B n a), tf B n (te B n a), s, te B n a) := by unfold lnM; rw [if_neg (fun t => t q), thn_0 w, thn_n x]
          rw [e] at h0
          have h9 := fNu_9 (B := B) (n := n) (a := te B n a) (lo := 1) (hi := 99)
          have x' : ¬ fNu B n 1 99 (te B n a) = 0 := x
          exact brk_80 (b := fNu B n 1 99 (te B n a)) (by omega) (by omega) (fun _ _ _ _ _ => h0 x _ _ _ _ _ _ _) 1 4 rfl _ _ _ _ _
        · have e : lnM B n s a0 a = (1, tf B n (te B n (te B n a)), s, te B n (te B n a)) := by unfold lnM; rw [if_neg (fun t => t q), thn_0 w, thn_0 x, thn_n (by rw [fNu_1 (a := te B n (te B n a)) x2]; decide), fNu_1 (a := te B n (te B n a)) x2]
          rw [e] at h0; exact h0 (Nat.succ_ne_zero _) _ _ _ _ _ _ _
        · show F_X12_readOnce_80 _ _ _ _ _ _ _
          unfold F_X12_readOnce_80
          dsimp only
          refine ⟨fun t => absurd t (by decide), fun _ => ?_⟩
          refine rl_num (lo := 1) (hi := 99) hn hB hr2.2.2.1 x2 (by omega) (by omega) (fun y3 r sp2 he2 to2 va2 => ⟨v4, ?_⟩) (fun y3 y4 r sp2 to2 va2 => ⟨v4, brk_80 (b := 1) (by omega) (by omega) (fun _ _ _ _ _ => ?_) 0 5 rfl _ _ _ _ _⟩) (fun y3 y4 => ⟨v4, ?_⟩)
          · have e : lnM B n s a0 a = (fNu B n 1 99 (te B n (te B n a)), tf B n (te B n (te B n a)), s, te B n (te B n a)) := by unfold lnM; rw [if_neg (fun t => t q), thn_0 w, thn_0 x, thn_n y3]
            rw [e] at h0
            have h9 := fNu_9 (B := B) (n := n) (a := te B n (te B n a)) (lo := 1) (hi := 99)
            have x' : ¬ fNu B n 1 99 (te B n (te B n a)) = 0 := y3
            exact brk_80 (b := fNu B n 1 99 (te B n (te B n a))) (by omega) (by omega) (fun _ _ _ _ _ => h0 y3 _ _ _ _ _ _ _) 0 5 rfl _ _ _ _ _
          · have e : lnM B n s a0 a = lnS B n (sS (sS (sS s.1 4 (tv B n a)) 5 (tv B n (te B n a))) 6 (tv B n (te B n (te B n a))), s.2.1, s.2.2.1, s.2.2.2.1, 1) (te B n (te B n (te B n a))) := by unfold lnM; rw [if_neg (fun t => t q), thn_0 w, thn_0 x, thn_0 y3]
            rw [e, lnS_1 (a := te B n (te B n (te B n a))) y4] at h0; exact h0 (Nat.succ_ne_zero _) _ _ _ _ _ _ _
          · have e : lnM B n s a0 a = lnS B n (sS (sS (sS s.1 4 (tv B n a)) 5 (tv B n (te B n a))) 6 (tv B n (te B n (te B n a))), s.2.1, s.2.2.1, s.2.2.2.1, 1) (te B n (te B n (te B n a))) := by unfold lnM; rw [if_neg (fun t => t q), thn_0 w, thn_0 x, thn_0 y3]
            show F_X12_readOnce_80 _ _ _ _ _ _ _
            unfold F_X12_readOnce_80
            dsimp only
            exact ⟨fun _ => h1 _ _ _ _ e hr3.2.2.1 y4, fun t => absurd (show (4 : Int32) < 2 + 1 + 1 + 1 by decide) t⟩
  · have e : lnM B n s a0 a = (4, tf B n a0, s, a) := by unfold lnM; rw [if_pos q]
    rw [e] at h0
    unfold wp_X12_fails B_X12_readOnce_17
    exact ⟨fun t => absurd rfl t, fun _ => sp_next_no (b := 4) (by omega) (by omega) ⟨fun _ => ⟨fun _ => ⟨4, brk_80 (b := 4) (by omega) (by omega) (fun _ _ _ _ _ => h0 (Nat.succ_ne_zero _) _ _ _ _ _ _ _) 3 2 rfl _ _ _ _ _⟩, fun t => absurd t n3⟩, fun t => absurd t n0⟩⟩
end
