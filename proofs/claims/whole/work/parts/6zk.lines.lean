/-! all lines, class side -/
section
variable {N n : Nat} {len : Nat → Nat} {ch : Nat → Nat → Nat} {ms : Nat → Int32}
def alL (n : Nat) (len : Nat → Nat) (ch : Nat → Nat → Nat) : Nat := orN (fun w => orN (fun k => 2 ^ ch w k) (len w)) n
theorem sp_allL (hn : n ≤ N) (hN : N ≤ 100) (hX : XMs n len ch ms) {post : Int32 → Prop} (h : post (nI (alL n len ch))) : wp_X4_allLetters N (nI n) ms post := by
  unfold wp_X4_allLetters
  refine fix_0 (fun w => (nI (alL w len ch), nI w)) n rfl ?_
  intro K w hw hK
  unfold F_X4_allLetters_4
  dsimp only
  rw [nI_leI (by omega) (by omega)]
  refine ⟨fun c => ?_, fun c => ?_⟩
  · have : w = n := by omega
    subst this; exact h
  · rw [nI_clamp (by omega), hX w (by omega), nI_or, nI_1]
    exact ⟨(vin_n (by omega)).mpr (by omega), hK (by omega)⟩
theorem alL_bit {i : Nat} : (alL n len ch).testBit i = true ↔ ∃ w, w < n ∧ ∃ k, k < len w ∧ ch w k = i := by
  unfold alL
  rw [orN_bit]
  constructor
  · rintro ⟨w, hw, h⟩
    obtain ⟨k, hk, h⟩ := (orN_bit _).mp h
    rw [Nat.testBit_two_pow] at h
    exact ⟨w, hw, k, hk, of_decide_eq_true h⟩
  · rintro ⟨w, hw, k, hk, h⟩
    exact ⟨w, hw, (orN_bit _).mpr ⟨k, hk, by rw [Nat.testBit_two_pow, h]; exact decide_eq_true rfl⟩⟩
theorem alL_lt (h : ∀ w, w < n → ∀ k, k < len w → ch w k < 26) : alL n len ch < 2 ^ 26 := orN_lt _ (fun w hw => orN_lt _ (fun k hk => pow_lt (h w hw k hk)))
theorem dif_0 {x y : Nat} : dif x y = 0 ↔ ∀ i, x.testBit i = true → y.testBit i = true := by
  unfold dif
  constructor
  · intro h i hi
    have : (x ^^^ (x &&& y)).testBit i = false := by rw [h, Nat.zero_testBit]
    rw [Nat.testBit_xor, Nat.testBit_and, hi] at this
    cases z : y.testBit i with
    | true => rfl
    | false => rw [z] at this; exact absurd this (by decide)
  · intro h
    apply Nat.eq_of_testBit_eq
    intro i
    rw [Nat.testBit_xor, Nat.testBit_and, Nat.zero_testBit]
    cases z : x.testBit i with
    | false => rfl
    | true => rw [h i z]; rfl
end
theorem sp_hasAll {s : Ps} {wz sz lz : Int32} {wms sms lms lt : Nat → Int32} (hs : okPs s) (hw : XMs (nw s.1) (wl s.1) (wc s.1) wms) (hz : wz = nI (nw s.1)) (hsm : XMs (nsh s.1) (sl s.1) (sc s.1) sms) (hsz : sz = nI (nsh s.1)) (hl : XMs (nsh s.1) (ll s.1) (lc s.1) lms) (hlz : lz = nI (nsh s.1)) (ht : ∀ p, p < 25 → lt p = nI (97 + s.2.1 p)) {post : Int32 → Prop} (h0 : ¬ cov s.1 s.2.1 → post 0) (h1 : cov s.1 s.2.1 → post 1) : wp_X0_hasAllLetters 10 6 6 wz wms sz sms lz lms lt post := by
  obtain ⟨⟨g1, g2, g3, g4, g5, g6, g7, g8, g9⟩, hT⟩ := hs
  subst hz; subst hsz; subst hlz
  unfold wp_X0_hasAllLetters
  refine sp_allL g1 (by omega) hw (sp_allL g2 (by omega) hsm (sp_allL g2 (by omega) hl (sp_X0_tableLetters (c := s.2.1) (fun p hp => ⟨hT.1 p hp, ht p hp⟩) ?_)))
  have b1 : alL (nw s.1) (wl s.1) (wc s.1) < 2 ^ 26 := alL_lt (fun w hw k hk => (g7 w hw).2.2.2.2 k hk)
  have b2 : alL (nsh s.1) (sl s.1) (sc s.1) < 2 ^ 26 := alL_lt (fun w hw k hk => (g8 w hw).2.2.2.2.1 k hk)
  have b3 : alL (nsh s.1) (ll s.1) (lc s.1) < 2 ^ 26 := alL_lt (fun w hw k hk => (g8 w hw).2.2.2.2.2 k hk)
  have b4 := Nat.or_lt_two_pow (Nat.or_lt_two_pow b1 b2) b3
  have b5 : dif (alL (nw s.1) (wl s.1) (wc s.1) ||| alL (nsh s.1) (sl s.1) (sc s.1) ||| alL (nsh s.1) (ll s.1) (lc s.1)) (orN (fun p => 2 ^ s.2.1 p) 25) < 2 ^ 26 := by
    unfold dif
    exact Nat.xor_lt_two_pow b4 (Nat.lt_of_le_of_lt Nat.and_le_left b4)
  rw [nI_or, nI_or, nI_dif]
  have e0 : nI (dif (alL (nw s.1) (wl s.1) (wc s.1) ||| alL (nsh s.1) (sl s.1) (sc s.1) ||| alL (nsh s.1) (ll s.1) (lc s.1)) (orN (fun p => 2 ^ s.2.1 p) 25)) = 0 ↔ cov s.1 s.2.1 := by
    rw [i0, nI_eq (by omega) (by omega), dif_0]
    have tb : ∀ l, (orN (fun p => 2 ^ s.2.1 p) 25).testBit l = true ↔ pidx s.2.1 l < 25 := fun l => by
      rw [orN_bit]
      constructor
      · rintro ⟨p, hp, h⟩
        rw [Nat.testBit_two_pow] at h
        have h := of_decide_eq_true h
        rw [← h, pidx_of hT hp]; exact hp
      · intro h
        exact ⟨_, h, by rw [Nat.testBit_two_pow, pidx_T h]; exact decide_eq_true rfl⟩
    unfold cov
    constructor
    · intro h
      refine ⟨fun w hw k hk => (tb _).mp (h _ ?_), fun w hw k hk => (tb _).mp (h _ ?_), fun w hw k hk => (tb _).mp (h _ ?_)⟩
      · rw [Nat.testBit_or, Nat.testBit_or, alL_bit.mpr ⟨w, hw, k, hk, rfl⟩]; rfl
      · rw [Nat.testBit_or, Nat.testBit_or, (alL_bit (len := sl s.1)).mpr ⟨w, hw, k, hk, rfl⟩, Bool.or_true]; rfl
      · rw [Nat.testBit_or, (alL_bit (len := ll s.1)).mpr ⟨w, hw, k, hk, rfl⟩, Bool.or_true]
    · rintro ⟨c1, c2, c3⟩ i hi
      rw [tb]
      rw [Nat.testBit_or, Nat.testBit_or, Bool.or_eq_true, Bool.or_eq_true, alL_bit, alL_bit, alL_bit] at hi
      rcases hi with (⟨w, hw, k, hk, rfl⟩ | ⟨w, hw, k, hk, rfl⟩) | ⟨w, hw, k, hk, rfl⟩
      · exact c1 w hw k hk
      · exact c2 w hw k hk
      · exact c3 w hw k hk
  rw [e0]
  exact ⟨fun q => h0 q, fun q => h1 q⟩
section
variable {B : Nat → Nat} {n : Nat} {s0 : Ps} {bytes : Nat → Int32} {kd wh at0 to fr va : Int32} {gu le mo kk pa ga tt st tm sz lz wz : Int32} {wa sln sms slt lln lms llt wln wms wlt wts lt : Nat → Int32}
theorem cl_lines (hn : n ≤ 320) (hB : ∀ k, k < n → B k < 256 ∧ bytes k = sx (B k)) (hs : okPs s0) (hX : XP s0 gu le mo kk pa ga tt st tm wa sz sln sms slt lz lln lms llt wz wln wms wlt wts lt) {post : Int32 → Int32 → Int32 → Int32 → Int32 → Int32 → Int32 → Int32 → Int32 → Int32 → Int32 → Int32 → Int32 → Int32 → Int32 → Int32 → Int32 → (Nat → Int32) → Int32 → (Nat → Int32) → Int32 → (Nat → Int32) → (Nat → Int32) → (Nat → Int32) → (Nat → Int32) → (Nat → Int32) → (Nat → Int32) → (Nat → Int32) → (Nat → Int32) → (Nat → Int32) → (Nat → Int32) → Prop}
    (h0 : ¬ (lns B n 320 s0 0 0).1 = 0 → ∀ r at' to' fr' va' gu' le' mo' kk' pa' ga' tt' st' tm' wz' wms' sz' sms' lz' lms' lt' wa' sln' slt' lln' llt' wln' wlt' wts', post r (nI (lns B n 320 s0 0 0).1) (nI (lns B n 320 s0 0 0).2.1) at' to' fr' va' gu' le' mo' kk' pa' ga' tt' st' tm' wz' wms' sz' sms' lz' lms' lt' wa' sln' slt' lln' llt' wln' wlt' wts')
    (h1 : (lns B n 320 s0 0 0).1 = 0 → ¬ cov (lns B n 320 s0 0 0).2.2.1.1 (lns B n 320 s0 0 0).2.2.1.2.1 → ∀ r at' to' fr' va' gu' le' mo' kk' pa' ga' tt' st' tm' wz' wms' sz' sms' lz' lms' lt' wa' sln' slt' lln' llt' wln' wlt' wts', post r 6 (nI n) at' to' fr' va' gu' le' mo' kk' pa' ga' tt' st' tm' wz' wms' sz' sms' lz' lms' lt' wa' sln' slt' lln' llt' wln' wlt' wts')
    (h2 : (lns B n 320 s0 0 0).1 = 0 → cov (lns B n 320 s0 0 0).2.2.1.1 (lns B n 320 s0 0 0).2.2.1.2.1 → okPs (lns B n 320 s0 0 0).2.2.1 → ∀ at' to' fr' va' gu' le' mo' kk' pa' ga' tt' st' tm' wz' wms' sz' sms' lz' lms' lt' wa' sln' slt' lln' llt' wln' wlt' wts', XP (lns B n 320 s0 0 0).2.2.1 gu' le' mo' kk' pa' ga' tt' st' tm' wa' sz' sln' sms' slt' lz' lln' lms' llt' wz' wln' wms' wlt' wts' lt' → post (nI (lns B n 320 s0 0 0).2.2.2) 0 0 at' to' fr' va' gu' le' mo' kk' pa' ga' tt' st' tm' wz' wms' sz' sms' lz' lms' lt' wa' sln' slt' lln' llt' wln' wlt' wts') :
    wp_X6_readLines 10 6 6 6 18 6 48 10 80 kd wh (nI n) at0 to fr va gu le mo kk pa ga tt st tm 10 8 wz wms 6 3 sz sms 6 8 lz lms lt bytes wa sln slt lln llt wln wlt wts post := by
  unfold wp_X6_readLines
  refine fix_iv (fun j v => (fun (x3 : Int32) (tk : Int32) (tw : Int32) (at0 : Int32) (to : Int32) (fr : Int32) (va : Int32) (gu : Int32) (le : Int32) (mo : Int32) (kk : Int32) (pa : Int32) (ga : Int32) (tt : Int32) (st : Int32) (tm : Int32) (wz : Int32) (wms : Nat → Int32) (sz : Int32) (sms : Nat → Int32) (lz : Int32) (lms : Nat → Int32) (lt : Nat → Int32) (wa : Nat → Int32) (sln : Nat → Int32) (slt : Nat → Int32) (lln : Nat → Int32) (llt : Nat → Int32) (wln : Nat → Int32) (wlt : Nat → Int32) (wts : Nat → Int32) => ∃ s a, x3 = nI j ∧ tk = 0 ∧ tw = 0 ∧ at0 = nI a ∧ a ≤ n ∧ okPs s ∧ XP s gu le mo kk pa ga tt st tm wa sz sln sms slt lz lln lms llt wz wln wms wlt wts lt ∧ lns B n (320 - j) s a j = lns B n 320 s0 0 0) v.1 v.2.1 v.2.2.1 v.2.2.2.1 v.2.2.2.2.1 v.2.2.2.2.2.1 v.2.2.2.2.2.2.1 v.2.2.2.2.2.2.2.1 v.2.2.2.2.2.2.2.2.1 v.2.2.2.2.2.2.2.2.2.1 v.2.2.2.2.2.2.2.2.2.2.1 v.2.2.2.2.2.2.2.2.2.2.2.1 v.2.2.2.2.2.2.2.2.2.2.2.2.1 v.2.2.2.2.2.2.2.2.2.2.2.2.2.1 v.2.2.2.2.2.2.2.2.2.2.2.2.2.2.1 v.2.2.2.2.2.2.2.2.2.2.2.2.2.2.2.1 v.2.2.2.2.2.2.2.2.2.2.2.2.2.2.2.2.1 v.2.2.2.2.2.2.2.2.2.2.2.2.2.2.2.2.2.1 v.2.2.2.2.2.2.2.2.2.2.2.2.2.2.2.2.2.2.1 v.2.2.2.2.2.2.2.2.2.2.2.2.2.2.2.2.2.2.2.1 v.2.2.2.2.2.2.2.2.2.2.2.2.2.2.2.2.2.2.2.2.1 v.2.2.2.2.2.2.2.2.2.2.2.2.2.2.2.2.2.2.2.2.2.1 v.2.2.2.2.2.2.2.2.2.2.2.2.2.2.2.2.2.2.2.2.2.2.1 v.2.2.2.2.2.2.2.2.2.2.2.2.2.2.2.2.2.2.2.2.2.2.2.1 v.2.2.2.2.2.2.2.2.2.2.2.2.2.2.2.2.2.2.2.2.2.2.2.2.1 v.2.2.2.2.2.2.2.2.2.2.2.2.2.2.2.2.2.2.2.2.2.2.2.2.2.1 v.2.2.2.2.2.2.2.2.2.2.2.2.2.2.2.2.2.2.2.2.2.2.2.2.2.2.1 v.2.2.2.2.2.2.2.2.2.2.2.2.2.2.2.2.2.2.2.2.2.2.2.2.2.2.2.1 v.2.2.2.2.2.2.2.2.2.2.2.2.2.2.2.2.2.2.2.2.2.2.2.2.2.2.2.2.1 v.2.2.2.2.2.2.2.2.2.2.2.2.2.2.2.2.2.2.2.2.2.2.2.2.2.2.2.2.2.1 v.2.2.2.2.2.2.2.2.2.2.2.2.2.2.2.2.2.2.2.2.2.2.2.2.2.2.2.2.2.2) 320 (fun K j v hj hI hK => ?_) 0 (by omega) ⟨s0, 0, rfl, rfl, rfl, rfl, Nat.zero_le n, hs, hX, rfl⟩
  obtain ⟨x3, tk, tw, at0, to, fr, va, gu, le, mo, kk, pa, ga, tt, st, tm, wz, wms, sz, sms, lz, lms, lt, wa, sln, slt, lln, llt, wln, wlt, wts⟩ := v
  obtain ⟨s, a, e1, e2, e3, e4, ha, hs, hX, hL⟩ := hI
  dsimp only at e1 e2 e3 e4 hX
  subst e1; subst e2; subst e3; subst e4
  have fin : ∀ at' to' fr' va', lns B n 320 s0 0 0 = (0, 0, s, j) → B_X6_readLines_54 10 6 6 (nI n) (nI j) 0 0 at' to' fr' va' gu le mo kk pa ga tt st tm wz wms sz sms lz lms lt wa sln slt lln llt wln wlt wts post := fun at' to' fr' va' e => by
    rw [e] at h1 h2
    unfold B_X6_readLines_54 wp_X6_fail
    refine ⟨fun q => absurd rfl q, fun _ => ?_⟩
    have hX2 := hX
    obtain ⟨x1, x2, x3, x4, x5, x6⟩ := hX2
    exact sp_hasAll hs x5.2 x5.1.1.2.1 x4.2.1 x4.1.2.1 x4.2.2.2 x4.2.2.1.2.1 x6 (fun c => ⟨fun q => absurd rfl q, fun _ => h1 rfl c _ _ _ _ _ _ _ _ _ _ _ _ _ _ _ _ _ _ _ _ _ _ _ _ _ _ _ _ _⟩) (fun c => ⟨fun _ => h2 rfl c hs _ _ _ _ _ _ _ _ _ _ _ _ _ _ _ _ _ _ _ _ _ _ _ _ _ _ _ _ hX, fun q => absurd q (by decide)⟩)
  unfold F_X6_readLines_17
  dsimp only
  rw [i320, nI_leI (by omega) (by omega)]
  refine ⟨fun q => fin _ _ _ _ ?_, fun q => ?_⟩
  · rw [← hL, show 320 - j = 0 by omega]; rfl
  · have hL' : lns B n 320 s0 0 0 = if (tkn B n a).1 = 1 then (0, 0, s, j) else if (lne B n s a).1 = 0 then lns B n (319 - j) (lne B n s a).2.2.1 (lne B n s a).2.2.2 (j + 1) else ((lne B n s a).1, (lne B n s a).2.1, s, j) := by
      rw [← hL, show 320 - j = (319 - j) + 1 by omega]; rfl
    have hr := tk_rng (B := B) hn ha
    refine sp_X9_nextToken hn hB ha (fun va' hv => ?_)
    rw [i1, nI_eq (by omega) (by omega)]
    refine ⟨fun z => fin _ _ _ _ (by rw [hL', if_pos z]), fun z => ?_⟩
    rw [if_neg z] at hL'
    refine cl_line hn hB ha hX (fun w at' to' fr' va' gu' le' mo' kk' pa' ga' tt' st' tm' wa' sz' sln' sms' slt' lz' lln' lms' llt' wz' wln' wms' wlt' wts' lt' => ⟨fun y => absurd rfl y, fun _ => ?_⟩) (fun w to' fr' va' gu' le' mo' kk' pa' ga' tt' st' tm' wa' sz' sln' sms' slt' lz' lln' lms' llt' wz' wln' wms' wlt' wts' lt' hX' => ⟨fun _ => ?_, fun y => absurd y (by decide)⟩)
    · rw [if_neg w] at hL'
      rw [hL'] at h0
      unfold B_X6_readLines_54
      have h6 := lne_6 (B := B) (n := n) (a := a) (s := s)
      refine ⟨fun _ => h0 w _ _ _ _ _ _ _ _ _ _ _ _ _ _ _ _ _ _ _ _ _ _ _ _ _ _ _ _ _, fun y => absurd ((nI_eq (b := 0) (by omega) (by omega)).mp y) w⟩
    · rw [if_pos w] at hL'
      have ok := lne_ok hn ha hs w
      rw [← i1, nI_1]
      exact hK (by omega) _ ⟨(lne B n s a).2.2.1, (lne B n s a).2.2.2, rfl, rfl, rfl, rfl, ok.2.2, ok.1, hX', by rw [hL', show 320 - (j + 1) = 319 - j by omega]⟩
end
