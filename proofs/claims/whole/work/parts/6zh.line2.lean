section
variable {B : Nat → Nat} {n a a0 : Nat} {s : Ps} {bytes : Nat → Int32} {kd wh to va : Int32}
theorem cl_H (hn : n ≤ 320) (hB : ∀ k, k < n → B k < 256 ∧ bytes k = sx (B k)) (ha : a ≤ n) {sz lz : Int32} {sln sms slt lln lms llt : Nat → Int32} (hX : XN 3 6 18 (nsh s.1) (sl s.1) (sc s.1) 3 sz sln slt) (hm : XMs (nsh s.1) (sl s.1) (sc s.1) sms) (hX2 : XN 8 6 48 (nsh s.1) (ll s.1) (lc s.1) 8 lz lln llt) (hm2 : XMs (nsh s.1) (ll s.1) (lc s.1) lms) {post : Int32 → Int32 → Int32 → Int32 → Int32 → Int32 → Int32 → Int32 → (Nat → Int32) → (Nat → Int32) → (Nat → Int32) → Int32 → (Nat → Int32) → (Nat → Int32) → (Nat → Int32) → Prop}
    (h0 : ¬ (lnH B n s a0 a).1 = 0 → ∀ at' to' fr' va' sz' sln' sms' slt' lz' lln' lms' llt', post 0 (nI (lnH B n s a0 a).1) (nI (lnH B n s a0 a).2.1) at' to' fr' va' sz' sln' sms' slt' lz' lln' lms' llt')
    (h1 : ∀ f e f' e' b, lnH B n s a0 a = (0, 0, (adS B s.1 f e f' e', s.2.1, s.2.2.1, s.2.2.2.1, s.2.2.2.2), b) → ∀ to' fr' va' sz' sln' sms' slt' lz' lln' lms' llt', XN 3 6 18 (nsh (adS B s.1 f e f' e')) (sl (adS B s.1 f e f' e')) (sc (adS B s.1 f e f' e')) 3 sz' sln' slt' → XMs (nsh (adS B s.1 f e f' e')) (sl (adS B s.1 f e f' e')) (sc (adS B s.1 f e f' e')) sms' → XN 8 6 48 (nsh (adS B s.1 f e f' e')) (ll (adS B s.1 f e f' e')) (lc (adS B s.1 f e f' e')) 8 lz' lln' llt' → XMs (nsh (adS B s.1 f e f' e')) (ll (adS B s.1 f e f' e')) (lc (adS B s.1 f e f' e')) lms' → post 1 kd wh (nI b) to' fr' va' sz' sln' sms' slt' lz' lln' lms' llt') :
    wp_X6_takeShortLine 6 6 18 6 6 48 kd wh (nI n) (nI a) to (nI (tf B n a0)) va 6 3 sz bytes sln sms slt 6 8 lz lln lms llt post := by
  have hr := tk_rng (B := B) hn ha
  have hr2 := tk_rng (B := B) hn hr.2.2.1
  have hsz := hX.2.1
  have h6 := hX.2.2.1
  subst hsz
  unfold wp_X6_takeShortLine wp_X6_fail
  rw [i6, nI_ltI (by omega) (by omega)]
  refine ⟨fun q => cl_nm (lo := 1) (hi := 3) hn hB ha (by omega) (by omega) (fun z _ _ => ⟨fun y => absurd rfl y, fun _ => ?_⟩) (fun z to1 va1 => ⟨fun _ => ?_, fun y => absurd y (by decide)⟩), fun q => ⟨Or.inl rfl, ?_⟩⟩
  · have e : lnH B n s a0 a = (fNm B n 1 3 a, tf B n a, s, a) := by unfold lnH; rw [if_neg (by omega), thn_n z]
    rw [e] at h0; exact h0 z _ _ _ _ _ _ _ _ _ _ _ _
  · have hf := fNm_0 z
    have hl := (hr.2.2.2.2.2.2 hf.1).2
    generalize hD : adS B s.1 (tf B n a) (te B n a) (tf B n (te B n a)) (te B n (te B n a)) = D at *
    have e0 : nsh D = nsh s.1 + 1 := by rw [← hD]; show adS _ _ _ _ _ _ 0 1 = _; rw [adS_0, if_pos rfl]
    refine sp_X4_add (len' := sl D) (ch' := fun w k => if w = nsh s.1 then B (tf B n a + k) - 97 else sc s.1 w k) hn hB hX hm rfl q (by omega) hr.2.1 hr.2.2.1 hf.2.2 hl (fun w hw => ⟨?_, fun k => if_neg (by omega)⟩) ?_ (fun k _ => if_pos rfl) (fun sz' sln' sms' slt' hN' hm' => ?_)
    · rw [← hD]; show adS _ _ _ _ _ _ 4 w = _; rw [adS_4, if_neg (by omega)]
    · rw [← hD]; show adS _ _ _ _ _ _ 4 _ = _; rw [adS_4, if_pos rfl]
    · refine cl_nm (lo := 2) (hi := 8) hn hB hr.2.2.1 (by omega) (by omega) (fun y _ _ => ⟨fun t => absurd rfl t, fun _ => ?_⟩) (fun y to2 va2 => ⟨fun _ => ?_, fun t => absurd t (by decide)⟩)
      · have e : lnH B n s a0 a = (fNm B n 2 8 (te B n a), tf B n (te B n a), s, te B n a) := by unfold lnH; rw [if_neg (by omega), thn_0 z, thn_n y]
        rw [e] at h0; exact h0 y _ _ _ _ _ _ _ _ _ _ _ _
      · have hu := fNm_0 y
        have hl2 := (hr2.2.2.2.2.2.2 hu.1).2
        refine sp_X4_add (len' := ll D) (ch' := fun w k => if w = nsh s.1 then B (tf B n (te B n a) + k) - 97 else lc s.1 w k) hn hB hX2 hm2 rfl q (by omega) hr2.2.1 hr2.2.2.1 hu.2.2 hl2 (fun w hw => ⟨?_, fun k => if_neg (by omega)⟩) ?_ (fun k _ => if_pos rfl) (fun lz' lln' lms' llt' hN2' hm2' => ?_)
        · rw [← hD]; show adS _ _ _ _ _ _ 6 w = _; rw [adS_6, if_neg (by omega)]
        · rw [← hD]; show adS _ _ _ _ _ _ 6 _ = _; rw [adS_6, if_pos rfl]
        · have e : lnH B n s a0 a = lnS B n (D, s.2.1, s.2.2.1, s.2.2.2.1, s.2.2.2.2) (te B n (te B n a)) := by unfold lnH; rw [if_neg (by omega), thn_0 z, thn_0 y, hD]
          refine cl_S (s := (D, s.2.1, s.2.2.1, s.2.2.2.1, s.2.2.2.2)) hn hB hr2.2.2.1 (fun w ew at' to' fr' va' => ⟨Or.inl rfl, ?_⟩) (fun ew to' fr' va' => ⟨Or.inr rfl, ?_⟩)
          · rw [e, ew] at h0; exact h0 w _ _ _ _ _ _ _ _ _ _ _ _
          · have h1 := h1 (tf B n a) (te B n a) (tf B n (te B n a)) (te B n (te B n a)) (te B n (te B n (te B n a)))
            rw [hD, e0] at h1
            refine h1 (e.trans ew) _ _ _ _ _ _ _ _ _ _ _ ?_ ?_ ?_ ?_
            · exact XN_cong hN' (fun w hw => rfl) (fun w hw k hk => by rw [← hD]; exact adS_sc w k (by omega) hk)
            · exact XMs_cong (W := 3) hm' (fun w hw => (hN'.2.2.2.2.2.2.2 w hw).1) (fun w hw => rfl) (fun w hw k hk => by rw [← hD]; exact adS_sc w k (by omega) hk)
            · exact XN_cong hN2' (fun w hw => rfl) (fun w hw k hk => by rw [← hD]; exact adS_lc w k (by omega) hk)
            · exact XMs_cong (W := 8) hm2' (fun w hw => (hN2'.2.2.2.2.2.2.2 w hw).1) (fun w hw => rfl) (fun w hw k hk => by rw [← hD]; exact adS_lc w k (by omega) hk)
  · have e : lnH B n s a0 a = (5, tf B n a0, s, a) := by unfold lnH; rw [if_pos (by omega)]
    rw [e] at h0; exact h0 (Nat.succ_ne_zero _) _ _ _ _ _ _ _ _ _ _ _ _
theorem cl_T (hn : n ≤ 320) (hB : ∀ k, k < n → B k < 256 ∧ bytes k = sx (B k)) (ha : a ≤ n) {lt : Nat → Int32} (hs : s.2.2.1 ≤ 1) {post : Int32 → Int32 → Int32 → Int32 → Int32 → Int32 → Int32 → Int32 → (Nat → Int32) → Prop}
    (h0 : ¬ (lnT B n s a0 a).1 = 0 → ∀ at' to' fr' va' tt' lt', post 0 (nI (lnT B n s a0 a).1) (nI (lnT B n s a0 a).2.1) at' to' fr' va' tt' lt')
    (h1 : ∀ f b, lnT B n s a0 a = (0, 0, (s.1, fun p => B (f + p) - 97, 1, s.2.2.2.1, s.2.2.2.2), b) → ∀ to' fr' va' lt', (∀ p, p < 25 → lt' p = nI (97 + (B (f + p) - 97))) → post 1 kd wh (nI b) to' fr' va' 1 lt') :
    wp_X6_takeTableLine kd wh (nI n) (nI a) to (nI (tf B n a0)) va (nI s.2.2.1) bytes lt post := by
  have hr := tk_rng (B := B) hn ha
  have e0 : nI s.2.2.1 = 0 ↔ s.2.2.1 = 0 := nI_eq (b := 0) (by omega) (by omega)
  unfold wp_X6_takeTableLine wp_X6_fail
  rw [e0]
  refine ⟨fun q => cl_nm (lo := 25) (hi := 25) hn hB ha (by omega) (by omega) (fun z _ _ => ⟨fun y => absurd rfl y, fun _ => ?_⟩) (fun z to1 va1 => ⟨fun _ => ?_, fun y => absurd y (by decide)⟩), fun q => ⟨Or.inl rfl, ?_⟩⟩
  · have e : lnT B n s a0 a = (fNm B n 25 25 a, tf B n a, s, a) := by unfold lnT; rw [if_neg (fun t => t q), thn_n z]
    rw [e] at h0; exact h0 z _ _ _ _ _ _
  · have hf := fNm_0 z
    have hl := (hr.2.2.2.2.2.2 hf.1).2
    refine sp_X0_takeTable hn hB hr.2.1 hr.2.2.1 (by omega) hl (fun y le' => ⟨fun _ => ⟨Or.inl rfl, ?_⟩, fun t => absurd rfl t⟩) (fun y le' hle => ⟨fun t => absurd t (by decide), fun _ => ?_⟩)
    · have e : lnT B n s a0 a = (3, tf B n a, s, a) := by unfold lnT; rw [if_neg (fun t => t q), thn_0 z, if_neg (by rw [show dst B (tf B n a) = false from y]; decide)]
      rw [e] at h0; exact h0 (Nat.succ_ne_zero _) _ _ _ _ _ _
    · have e : lnT B n s a0 a = lnS B n (s.1, fun p => B (tf B n a + p) - 97, 1, s.2.2.2.1, s.2.2.2.2) (te B n a) := by unfold lnT; rw [if_neg (fun t => t q), thn_0 z, if_pos (show dst B (tf B n a) = true from y)]
      refine cl_S (s := (s.1, fun p => B (tf B n a + p) - 97, 1, s.2.2.2.1, s.2.2.2.2)) hn hB hr.2.2.1 (fun w ew at' to' fr' va' => ⟨Or.inl rfl, ?_⟩) (fun ew to' fr' va' => ⟨Or.inr rfl, ?_⟩)
      · rw [e, ew] at h0; exact h0 w _ _ _ _ _ _
      · exact h1 _ _ (e.trans ew) _ _ _ _ hle
  · have e : lnT B n s a0 a = (4, tf B n a0, s, a) := by unfold lnT; rw [if_pos q]
    rw [e] at h0; exact h0 (Nat.succ_ne_zero _) _ _ _ _ _ _
theorem cl_P (hn : n ≤ 320) (hB : ∀ k, k < n → B k < 256 ∧ bytes k = sx (B k)) (ha : a ≤ n) {le mo : Int32} (hs : s.2.2.2.1 ≤ 1) {post : Int32 → Int32 → Int32 → Int32 → Int32 → Int32 → Int32 → Int32 → Int32 → Int32 → Prop}
    (h0 : ¬ (lnP B n s a0 a).1 = 0 → ∀ at' to' fr' va' le' mo' tt', post 0 (nI (lnP B n s a0 a).1) (nI (lnP B n s a0 a).2.1) at' to' fr' va' le' mo' tt')
    (h1 : ∀ x y b, lnP B n s a0 a = (0, 0, (sS (sS s.1 2 x) 3 y, s.2.1, s.2.2.1, 1, s.2.2.2.2), b) → ∀ to' fr' va', post 1 kd wh (nI b) to' fr' va' (nI x) (nI y) 1) :
    wp_X6_takeSlipLine kd wh (nI n) (nI a) to (nI (tf B n a0)) va le mo (nI s.2.2.2.1) bytes post := by
  have hr := tk_rng (B := B) hn ha
  have hr2 := tk_rng (B := B) hn hr.2.2.1
  have e0 : nI s.2.2.2.1 = 0 ↔ s.2.2.2.1 = 0 := nI_eq (b := 0) (by omega) (by omega)
  unfold wp_X6_takeSlipLine wp_X6_fail
  rw [e0]
  refine ⟨fun q => cl_nu (lo := 0) (hi := 9) hn hB ha (by omega) (by omega) (fun z _ _ => ⟨fun y => absurd rfl y, fun _ => ?_⟩) (fun z to1 => ⟨fun _ => cl_nu (lo := 0) (hi := 9) hn hB hr.2.2.1 (by omega) (by omega) (fun y _ _ => ⟨fun t => absurd rfl t, fun _ => ?_⟩) (fun y to2 => ⟨fun _ => ?_, fun t => absurd t (by decide)⟩), fun y => absurd y (by decide)⟩), fun q => ⟨Or.inl rfl, ?_⟩⟩
  · have e : lnP B n s a0 a = (fNu B n 0 9 a, tf B n a, s, a) := by unfold lnP; rw [if_neg (fun t => t q), thn_n z]
    rw [e] at h0; exact h0 z _ _ _ _ _ _ _
  · have e : lnP B n s a0 a = (fNu B n 0 9 (te B n a), tf B n (te B n a), s, te B n a) := by unfold lnP; rw [if_neg (fun t => t q), thn_0 z, thn_n y]
    rw [e] at h0; exact h0 y _ _ _ _ _ _ _
  · have e : lnP B n s a0 a = lnS B n (sS (sS s.1 2 (tv B n a)) 3 (tv B n (te B n a)), s.2.1, s.2.2.1, 1, s.2.2.2.2) (te B n (te B n a)) := by unfold lnP; rw [if_neg (fun t => t q), thn_0 z, thn_0 y]
    refine cl_S (s := (sS (sS s.1 2 (tv B n a)) 3 (tv B n (te B n a)), s.2.1, s.2.2.1, 1, s.2.2.2.2)) hn hB hr2.2.2.1 (fun w ew at' to' fr' va' => ⟨Or.inl rfl, ?_⟩) (fun ew to' fr' va' => ⟨Or.inr rfl, ?_⟩)
    · rw [e, ew] at h0; exact h0 w _ _ _ _ _ _ _
    · exact h1 _ _ _ (e.trans ew) _ _ _
  · have e : lnP B n s a0 a = (4, tf B n a0, s, a) := by unfold lnP; rw [if_pos q]
    rw [e] at h0; exact h0 (Nat.succ_ne_zero _) _ _ _ _ _ _ _
theorem cl_M (hn : n ≤ 320) (hB : ∀ k, k < n → B k < 256 ∧ bytes k = sx (B k)) (ha : a ≤ n) {kk pa ga : Int32} (hs : s.2.2.2.2 ≤ 1) {post : Int32 → Int32 → Int32 → Int32 → Int32 → Int32 → Int32 → Int32 → Int32 → Int32 → Int32 → Prop}
    (h0 : ¬ (lnM B n s a0 a).1 = 0 → ∀ at' to' fr' va' kk' pa' ga' tt', post 0 (nI (lnM B n s a0 a).1) (nI (lnM B n s a0 a).2.1) at' to' fr' va' kk' pa' ga' tt')
    (h1 : ∀ x y z b, lnM B n s a0 a = (0, 0, (sS (sS (sS s.1 4 x) 5 y) 6 z, s.2.1, s.2.2.1, s.2.2.2.1, 1), b) → ∀ to' fr' va', post 1 kd wh (nI b) to' fr' va' (nI x) (nI y) (nI z) 1) :
    wp_X6_takeTimeLine kd wh (nI n) (nI a) to (nI (tf B n a0)) va kk pa ga (nI s.2.2.2.2) bytes post := by
  have hr := tk_rng (B := B) hn ha
  have hr2 := tk_rng (B := B) hn hr.2.2.1
  have hr3 := tk_rng (B := B) hn hr2.2.2.1
  have e0 : nI s.2.2.2.2 = 0 ↔ s.2.2.2.2 = 0 := nI_eq (b := 0) (by omega) (by omega)
  unfold wp_X6_takeTimeLine wp_X6_fail
  rw [e0]
  refine ⟨fun q => cl_nu (lo := 1) (hi := 99) hn hB ha (by omega) (by omega) (fun z _ _ => ⟨fun y => absurd rfl y, fun _ => ?_⟩) (fun z to1 => ⟨fun _ => cl_nu (lo := 1) (hi := 99) hn hB hr.2.2.1 (by omega) (by omega) (fun y _ _ => ⟨fun t => absurd rfl t, fun _ => ?_⟩) (fun y to2 => ⟨fun _ => cl_nu (lo := 1) (hi := 99) hn hB hr2.2.2.1 (by omega) (by omega) (fun x _ _ => ⟨fun t => absurd rfl t, fun _ => ?_⟩) (fun x to3 => ⟨fun _ => ?_, fun t => absurd t (by decide)⟩), fun t => absurd t (by decide)⟩), fun y => absurd y (by decide)⟩), fun q => ⟨Or.inl rfl, ?_⟩⟩
  · have e : lnM B n s a0 a = (fNu B n 1 99 a, tf B n a, s, a) := by unfold lnM; rw [if_neg (fun t => t q), thn_n z]
    rw [e] at h0; exact h0 z _ _ _ _ _ _ _ _
  · have e : lnM B n s a0 a = (fNu B n 1 99 (te B n a), tf B n (te B n a), s, te B n a) := by unfold lnM; rw [if_neg (fun t => t q), thn_0 z, thn_n y]
    rw [e] at h0; exact h0 y _ _ _ _ _ _ _ _
  · have e : lnM B n s a0 a = (fNu B n 1 99 (te B n (te B n a)), tf B n (te B n (te B n a)), s, te B n (te B n a)) := by unfold lnM; rw [if_neg (fun t => t q), thn_0 z, thn_0 y, thn_n x]
    rw [e] at h0; exact h0 x _ _ _ _ _ _ _ _
  · have e : lnM B n s a0 a = lnS B n (sS (sS (sS s.1 4 (tv B n a)) 5 (tv B n (te B n a))) 6 (tv B n (te B n (te B n a))), s.2.1, s.2.2.1, s.2.2.2.1, 1) (te B n (te B n (te B n a))) := by unfold lnM; rw [if_neg (fun t => t q), thn_0 z, thn_0 y, thn_0 x]
    refine cl_S (s := (sS (sS (sS s.1 4 (tv B n a)) 5 (tv B n (te B n a))) 6 (tv B n (te B n (te B n a))), s.2.1, s.2.2.1, s.2.2.2.1, 1)) hn hB hr3.2.2.1 (fun w ew at' to' fr' va' => ⟨Or.inl rfl, ?_⟩) (fun ew to' fr' va' => ⟨Or.inr rfl, ?_⟩)
    · rw [e, ew] at h0; exact h0 w _ _ _ _ _ _ _ _
    · exact h1 _ _ _ _ (e.trans ew) _ _ _
  · have e : lnM B n s a0 a = (4, tf B n a0, s, a) := by unfold lnM; rw [if_pos q]
    rw [e] at h0; exact h0 (Nat.succ_ne_zero _) _ _ _ _ _ _ _ _
theorem cl_G (hn : n ≤ 320) (hB : ∀ k, k < n → B k < 256 ∧ bytes k = sx (B k)) (ha : a ≤ n) {wa : Nat → Int32} (hs : ngd s.1 ≤ 6) (hX : XG s.1 wa) {post : Int32 → Int32 → Int32 → Int32 → Int32 → Int32 → Int32 → Int32 → (Nat → Int32) → Prop}
    (h0 : ¬ (lnG B n s a0 a).1 = 0 → ∀ at' to' fr' va' gu' wa', post 0 (nI (lnG B n s a0 a).1) (nI (lnG B n s a0 a).2.1) at' to' fr' va' gu' wa')
    (h1 : ∀ x y b, lnG B n s a0 a = (0, 0, (adG s.1 x y, s.2.1, s.2.2.1, s.2.2.2.1, s.2.2.2.2), b) → ∀ to' fr' va' wa', XG (adG s.1 x y) wa' → post 1 kd wh (nI b) to' fr' va' (nI (ngd s.1 + 1)) wa') :
    wp_X6_takeGuardLine kd wh (nI n) (nI a) to (nI (tf B n a0)) va (nI (ngd s.1)) bytes wa post := by
  have hr := tk_rng (B := B) hn ha
  have hr2 := tk_rng (B := B) hn hr.2.2.1
  unfold wp_X6_takeGuardLine wp_X6_fail
  rw [i6, nI_ltI (by omega) (by omega), nI_1]
  refine ⟨fun q => cl_nu (lo := 0) (hi := 599) hn hB ha (by omega) (by omega) (fun z _ _ => ⟨fun y => absurd rfl y, fun _ => ?_⟩) (fun z to1 => ⟨fun _ => cl_nu (lo := 1) (hi := 60) hn hB hr.2.2.1 (by omega) (by omega) (fun y _ _ => ⟨fun t => absurd rfl t, fun _ => ?_⟩) (fun y to2 => ⟨fun _ => ?_, fun t => absurd t (by decide)⟩), fun y => absurd y (by decide)⟩), fun q => ⟨Or.inl rfl, ?_⟩⟩
  · have e : lnG B n s a0 a = (fNu B n 0 599 a, tf B n a, s, a) := by unfold lnG; rw [if_neg (by omega), thn_n z]
    rw [e] at h0; exact h0 z _ _ _ _ _ _
  · have e : lnG B n s a0 a = (fNu B n 1 60 (te B n a), tf B n (te B n a), s, te B n a) := by unfold lnG; rw [if_neg (by omega), thn_0 z, thn_n y]
    rw [e] at h0; exact h0 y _ _ _ _ _ _
  · have e : lnG B n s a0 a = lnS B n (adG s.1 (tv B n a) (tv B n (te B n a)), s.2.1, s.2.2.1, s.2.2.2.1, s.2.2.2.2) (te B n (te B n a)) := by unfold lnG; rw [if_neg (by omega), thn_0 z, thn_0 y]
    have hz := fNu_0 z
    have hy := fNu_0 y
    refine sp_X5_watch (by omega) (by omega) (fun wa' hw => ?_)
    refine cl_S (s := (adG s.1 (tv B n a) (tv B n (te B n a)), s.2.1, s.2.2.1, s.2.2.2.1, s.2.2.2.2)) hn hB hr2.2.2.1 (fun w ew at' to' fr' va' => ⟨Or.inl rfl, ?_⟩) (fun ew to' fr' va' => ⟨Or.inr rfl, ?_⟩)
    · rw [e, ew] at h0; exact h0 w _ _ _ _ _ _
    · refine h1 _ _ _ (e.trans ew) _ _ _ _ (fun m hm => ?_)
      rw [hw m hm, hX m hm]
      have e7 : ngd (adG s.1 (tv B n a) (tv B n (te B n a))) = ngd s.1 + 1 := by show adG _ _ _ 0 7 = _; rw [adG_0, if_pos rfl]
      have es : ∀ k, k ≤ ngd s.1 → stl (adG s.1 (tv B n a) (tv B n (te B n a))) m k = stl s.1 m k := fun k hk => by
        induction k with
        | zero => rfl
        | succ k ih => rw [stl, stl, ih (by omega), adG_8, adG_9, if_neg (by omega), if_neg (by omega)]
      unfold stil
      rw [e7, stl, es _ (Nat.le_refl _), adG_8, adG_9, if_pos rfl, if_pos rfl]
      show (if tv B n a ≤ m ∧ m < tv B n a + tv B n (te B n a) then _ else _) = _
      by_cases c : tv B n a ≤ m ∧ m < tv B n a + tv B n (te B n a)
      · rw [if_pos c, decide_eq_true c, Bool.or_true]; rfl
      · rw [if_neg c, decide_eq_false c, Bool.or_false]
  · have e : lnG B n s a0 a = (5, tf B n a0, s, a) := by unfold lnG; rw [if_pos (by omega)]
    rw [e] at h0; exact h0 (Nat.succ_ne_zero _) _ _ _ _ _ _
end
