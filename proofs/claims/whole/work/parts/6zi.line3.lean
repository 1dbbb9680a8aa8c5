/-! a line of the class: what is told so far -/
def XP (s : Ps) (gu : Int32) (le : Int32) (mo : Int32) (kk : Int32) (pa : Int32) (ga : Int32) (tt : Int32) (st : Int32) (tm : Int32) (wa : Nat → Int32) (sz : Int32) (sln : Nat → Int32) (sms : Nat → Int32) (slt : Nat → Int32) (lz : Int32) (lln : Nat → Int32) (lms : Nat → Int32) (llt : Nat → Int32) (wz : Int32) (wln : Nat → Int32) (wms : Nat → Int32) (wlt : Nat → Int32) (wts : Nat → Int32) (lt : Nat → Int32) : Prop := XS s.1 gu le mo kk pa ga ∧ (tt = nI s.2.2.1 ∧ st = nI s.2.2.2.1 ∧ tm = nI s.2.2.2.2 ∧ s.2.2.1 ≤ 1 ∧ s.2.2.2.1 ≤ 1 ∧ s.2.2.2.2 ≤ 1 ∧ ngd s.1 ≤ 6) ∧ XG s.1 wa ∧ (XN 3 6 18 (nsh s.1) (sl s.1) (sc s.1) 3 sz sln slt ∧ XMs (nsh s.1) (sl s.1) (sc s.1) sms ∧ XN 8 6 48 (nsh s.1) (ll s.1) (lc s.1) 8 lz lln llt ∧ XMs (nsh s.1) (ll s.1) (lc s.1) lms) ∧ (XW s.1 8 wz wln wlt wts ∧ XMs (nw s.1) (wl s.1) (wc s.1) wms) ∧ ∀ p, p < 25 → lt p = nI (97 + s.2.1 p)
section
variable {d d' : PD}
theorem tr_W {wz : Int32} {wln wms wlt wts : Nat → Int32} (h0 : d' 0 0 = d 0 0) (h1 : ∀ w, d' 1 w = d 1 w) (h2 : ∀ w, d' 2 w = d 2 w) (h3 : ∀ j, d' 3 j = d 3 j) (h : XW d 8 wz wln wlt wts ∧ XMs (nw d) (wl d) (wc d) wms) : XW d' 8 wz wln wlt wts ∧ XMs (nw d') (wl d') (wc d') wms := by
  have e0 : nw d' = nw d := h0
  have e1 : wl d' = wl d := funext h1
  have e2 : ww d' = ww d := funext h2
  have e3 : wc d' = wc d := by funext w k; exact h3 _
  unfold XW at h ⊢
  rw [e0, e1, e3]
  exact ⟨⟨h.1.1, fun w hw => by rw [h.1.2 w hw]; show nI (ww d w) = nI (ww d' w); rw [e2]⟩, h.2⟩
theorem tr_H {sz lz : Int32} {sln sms slt lln lms llt : Nat → Int32} (h0 : d' 0 1 = d 0 1) (h4 : ∀ w, d' 4 w = d 4 w) (h5 : ∀ w, d' 5 w = d 5 w) (h6 : ∀ j, d' 6 j = d 6 j) (h7 : ∀ j, d' 7 j = d 7 j) (h : XN 3 6 18 (nsh d) (sl d) (sc d) 3 sz sln slt ∧ XMs (nsh d) (sl d) (sc d) sms ∧ XN 8 6 48 (nsh d) (ll d) (lc d) 8 lz lln llt ∧ XMs (nsh d) (ll d) (lc d) lms) : XN 3 6 18 (nsh d') (sl d') (sc d') 3 sz sln slt ∧ XMs (nsh d') (sl d') (sc d') sms ∧ XN 8 6 48 (nsh d') (ll d') (lc d') 8 lz lln llt ∧ XMs (nsh d') (ll d') (lc d') lms := by
  have e0 : nsh d' = nsh d := h0
  have e1 : sl d' = sl d := funext h4
  have e2 : ll d' = ll d := funext h6
  have e3 : sc d' = sc d := by funext w k; exact h5 _
  have e4 : lc d' = lc d := by funext w k; exact h7 _
  rw [e0, e1, e2, e3, e4]
  exact h
theorem tr_G {wa : Nat → Int32} (h0 : d' 0 7 = d 0 7) (h8 : ∀ w, d' 8 w = d 8 w) (h9 : ∀ w, d' 9 w = d 9 w) (h : XG d wa) : XG d' wa := fun m hm => by
  rw [h m hm]
  have es : ∀ k, stl d' m k = stl d m k := fun k => by
    induction k with
    | zero => rfl
    | succ k ih => rw [stl, stl, ih, h8, h9]
  unfold stil
  have e0 : ngd d' = ngd d := h0
  rw [e0, es]
theorem tr_S {gu le mo kk pa ga : Int32} (h : ∀ k, 2 ≤ k → d' 0 k = d 0 k) (hX : XS d gu le mo kk pa ga) : XS d' gu le mo kk pa ga := by
  unfold XS at hX ⊢
  rw [h 7 (by omega), h 2 (by omega), h 3 (by omega), h 4 (by omega), h 5 (by omega), h 6 (by omega)]
  exact hX
theorem sS_0 {j v : Nat} (k : Nat) : sS d j v 0 k = if k = j then v else d 0 k := by
  unfold sS; by_cases h : k = j <;> simp [h]
theorem sS_o {j v i : Nat} (hi : 1 ≤ i) (k : Nat) : sS d j v i k = d i k := by
  unfold sS; rw [if_neg (by omega)]
end
theorem lne_at {B : Nat → Nat} {n a : Nat} {s : Ps} (z : ¬ (tkn B n a).1 = 0) (z2 : (tkn B n a).1 = 2) : (nmF B (tf B n a) (te B n a) = 0 → lne B n s a = lnT B n s a (te B n a)) ∧ (nmF B (tf B n a) (te B n a) = 1 → lne B n s a = lnW B n s a (te B n a)) ∧ (nmF B (tf B n a) (te B n a) = 2 → lne B n s a = lnH B n s a (te B n a)) ∧ (nmF B (tf B n a) (te B n a) = 3 → lne B n s a = lnP B n s a (te B n a)) ∧ (nmF B (tf B n a) (te B n a) = 4 → lne B n s a = lnM B n s a (te B n a)) ∧ (nmF B (tf B n a) (te B n a) = 5 → lne B n s a = lnG B n s a (te B n a)) ∧ (nmF B (tf B n a) (te B n a) = 6 → lne B n s a = (2, tf B n a, s, a)) := by
  refine ⟨fun hk => ?_, fun hk => ?_, fun hk => ?_, fun hk => ?_, fun hk => ?_, fun hk => ?_, fun hk => ?_⟩ <;> (unfold lne; rw [if_neg z, if_neg (fun t => t z2), hk]; rfl)
section
variable {B : Nat → Nat} {n a : Nat} {s : Ps} {bytes : Nat → Int32} {kd wh va : Int32} {gu le mo kk pa ga tt st tm sz lz wz : Int32} {wa sln sms slt lln lms llt wln wms wlt wts lt : Nat → Int32}
theorem cl_line (hn : n ≤ 320) (hB : ∀ k, k < n → B k < 256 ∧ bytes k = sx (B k)) (ha : a ≤ n) (hX : XP s gu le mo kk pa ga tt st tm wa sz sln sms slt lz lln lms llt wz wln wms wlt wts lt) {post : Int32 → Int32 → Int32 → Int32 → Int32 → Int32 → Int32 → Int32 → Int32 → Int32 → Int32 → Int32 → Int32 → Int32 → Int32 → Int32 → (Nat → Int32) → Int32 → (Nat → Int32) → (Nat → Int32) → (Nat → Int32) → Int32 → (Nat → Int32) → (Nat → Int32) → (Nat → Int32) → Int32 → (Nat → Int32) → (Nat → Int32) → (Nat → Int32) → (Nat → Int32) → (Nat → Int32) → Prop}
    (h0 : ¬ (lne B n s a).1 = 0 → ∀ at' to' fr' va' gu' le' mo' kk' pa' ga' tt' st' tm' wa' sz' sln' sms' slt' lz' lln' lms' llt' wz' wln' wms' wlt' wts' lt', post 0 (nI (lne B n s a).1) (nI (lne B n s a).2.1) at' to' fr' va' gu' le' mo' kk' pa' ga' tt' st' tm' wa' sz' sln' sms' slt' lz' lln' lms' llt' wz' wln' wms' wlt' wts' lt')
    (h1 : (lne B n s a).1 = 0 → ∀ to' fr' va' gu' le' mo' kk' pa' ga' tt' st' tm' wa' sz' sln' sms' slt' lz' lln' lms' llt' wz' wln' wms' wlt' wts' lt', XP (lne B n s a).2.2.1 gu' le' mo' kk' pa' ga' tt' st' tm' wa' sz' sln' sms' slt' lz' lln' lms' llt' wz' wln' wms' wlt' wts' lt' → post 1 kd wh (nI (lne B n s a).2.2.2) to' fr' va' gu' le' mo' kk' pa' ga' tt' st' tm' wa' sz' sln' sms' slt' lz' lln' lms' llt' wz' wln' wms' wlt' wts' lt') :
    wp_X6_takeLine 6 6 18 6 6 48 10 10 80 kd wh (nI n) (nI (te B n a)) (nI (tkn B n a).1) (nI (tf B n a)) va gu le mo kk pa ga tt st tm bytes wa 6 3 sz sln sms slt 6 8 lz lln lms llt 10 8 wz wln wms wlt wts lt post := by
  have hr := tk_rng (B := B) hn ha
  obtain ⟨x1, ⟨x2a, x2b, x2c, x2d, x2e, x2f, x2g⟩, x3, x4, x5, x6⟩ := hX
  subst x2a; subst x2b; subst x2c
  have hgu := x1.1
  have hgu : gu = nI (ngd s.1) := hgu
  have bad : ∀ F, 1 ≤ F → lne B n s a = (F, tf B n a, s, a) → ∀ at' to' fr' va' gu' le' mo' kk' pa' ga' tt' st' tm' wa' sz' sln' sms' slt' lz' lln' lms' llt' wz' wln' wms' wlt' wts' lt', post 0 (nI F) (nI (tf B n a)) at' to' fr' va' gu' le' mo' kk' pa' ga' tt' st' tm' wa' sz' sln' sms' slt' lz' lln' lms' llt' wz' wln' wms' wlt' wts' lt' := fun F hF e => by
    rw [e] at h0; exact h0 (show ¬ F = 0 by omega)
  unfold wp_X6_takeLine
  refine sp_isToken (w := 2) (by omega) (by omega) (fun z => ⟨fun y => absurd rfl y, fun _ => bad 1 (by omega) (by unfold lne; rw [if_pos z]) _ _ _ _ _ _ _ _ _ _ _ _ _ _ _ _ _ _ _ _ _ _ _ _ _ _ _ _⟩) (fun z z2 => ⟨fun y => absurd rfl y, fun _ => bad 2 (by omega) (by unfold lne; rw [if_neg z, if_pos z2]) _ _ _ _ _ _ _ _ _ _ _ _ _ _ _ _ _ _ _ _ _ _ _ _ _ _ _ _⟩) (fun z z2 => ⟨fun _ => ?_, fun y => absurd y (by decide)⟩)
  have el := lne_at (s := s) z z2
  refine sp_isName hn hB hr.2.1 hr.2.2.1 (by omega) (fun t0 => ⟨fun _ => ?_, fun y => absurd rfl y⟩) (fun t0 => ⟨fun y => absurd y (by decide), fun _ => ?_⟩)
  · refine sp_isName hn hB hr.2.1 hr.2.2.1 (by omega) (fun t1 => ⟨fun _ => ?_, fun y => absurd rfl y⟩) (fun t1 => ⟨fun y => absurd y (by decide), fun _ => ?_⟩)
    · refine sp_isName hn hB hr.2.1 hr.2.2.1 (by omega) (fun t2 => ⟨fun _ => ?_, fun y => absurd rfl y⟩) (fun t2 => ⟨fun y => absurd y (by decide), fun _ => ?_⟩)
      · refine sp_isName hn hB hr.2.1 hr.2.2.1 (by omega) (fun t3 => ⟨fun _ => ?_, fun y => absurd rfl y⟩) (fun t3 => ⟨fun y => absurd y (by decide), fun _ => ?_⟩)
        · refine sp_isName hn hB hr.2.1 hr.2.2.1 (by omega) (fun t4 => ⟨fun _ => ?_, fun y => absurd rfl y⟩) (fun t4 => ⟨fun y => absurd y (by decide), fun _ => ?_⟩)
          · refine sp_isName hn hB hr.2.1 hr.2.2.1 (by omega) (fun t5 => ⟨fun _ => ?_, fun y => absurd rfl y⟩) (fun t5 => ⟨fun y => absurd y (by decide), fun _ => ?_⟩)
            · -- no name of a line
              unfold wp_X6_fail
              refine ⟨Or.inl rfl, bad 2 (by omega) (el.2.2.2.2.2.2 (fnd_none (fun k hk => ?_))) _ _ _ _ _ _ _ _ _ _ _ _ _ _ _ _ _ _ _ _ _ _ _ _ _ _ _ _⟩
              rcases (show k = 0 ∨ k = 1 ∨ k = 2 ∨ k = 3 ∨ k = 4 ∨ k = 5 by omega) with rfl | rfl | rfl | rfl | rfl | rfl <;> assumption
            · -- guard
              have e := el.2.2.2.2.2.1 (fnd_at (by omega) t5 (fun k hk => by rcases (show k = 0 ∨ k = 1 ∨ k = 2 ∨ k = 3 ∨ k = 4 by omega) with rfl | rfl | rfl | rfl | rfl <;> assumption))
              subst hgu
              rw [e] at h0 h1
              refine cl_G hn hB hr.2.2.1 x2g x3 (fun w at' to' fr' va' gu' wa' => ⟨Or.inl rfl, h0 w _ _ _ _ _ _ _ _ _ _ _ _ _ _ _ _ _ _ _ _ _ _ _ _ _ _ _ _⟩) (fun x y b ee to' fr' va' wa' hG => ⟨Or.inr rfl, ?_⟩)
              have h6 : ¬ 6 ≤ ngd s.1 := fun q => by unfold lnG at ee; rw [if_pos q] at ee; exact absurd (show (5 : Nat) = 0 from congrArg Prod.fst ee) (by decide)
              have e7 : ngd (adG s.1 x y) = ngd s.1 + 1 := by show adG _ _ _ 0 7 = _; rw [adG_0, if_pos rfl]
              rw [ee] at h1
              dsimp only at h1
              refine h1 rfl _ _ _ _ _ _ _ _ _ _ _ _ _ _ _ _ _ _ _ _ _ _ _ _ _ _ _ ⟨?_, ⟨rfl, rfl, rfl, x2d, x2e, x2f, by show ngd (adG s.1 x y) ≤ 6; omega⟩, hG, ?_, ?_, x6⟩
              · show XS (adG s.1 x y) _ _ _ _ _ _
                unfold XS at x1 ⊢
                rw [adG_0, adG_0, adG_0, adG_0, adG_0, adG_0, if_pos rfl, if_neg (by decide), if_neg (by decide), if_neg (by decide), if_neg (by decide), if_neg (by decide)]
                exact ⟨rfl, x1.2⟩
              · exact tr_H (d := s.1) (d' := adG s.1 x y) (by rw [adG_0, if_neg (by decide)]) (fun w => adG_o (by decide) (by decide) (by decide) w) (fun w => adG_o (by decide) (by decide) (by decide) w) (fun w => adG_o (by decide) (by decide) (by decide) w) (fun w => adG_o (by decide) (by decide) (by decide) w) x4
              · exact tr_W (d := s.1) (d' := adG s.1 x y) (by rw [adG_0, if_neg (by decide)]) (fun w => adG_o (by decide) (by decide) (by decide) w) (fun w => adG_o (by decide) (by decide) (by decide) w) (fun w => adG_o (by decide) (by decide) (by decide) w) x5
          · -- time
            have e := el.2.2.2.2.1 (fnd_at (by omega) t4 (fun k hk => by rcases (show k = 0 ∨ k = 1 ∨ k = 2 ∨ k = 3 by omega) with rfl | rfl | rfl | rfl <;> assumption))
            rw [e] at h0 h1
            refine cl_M hn hB hr.2.2.1 x2f (fun w at' to' fr' va' k' p' g' tt' => ⟨Or.inl rfl, h0 w _ _ _ _ _ _ _ _ _ _ _ _ _ _ _ _ _ _ _ _ _ _ _ _ _ _ _ _⟩) (fun x y w b ee to' fr' va' => ⟨Or.inr rfl, ?_⟩)
            rw [ee] at h1
            dsimp only at h1
            refine h1 rfl _ _ _ _ _ _ _ _ _ _ _ _ _ _ _ _ _ _ _ _ _ _ _ _ _ _ _ ⟨?_, ⟨rfl, rfl, rfl, x2d, x2e, Nat.le_refl 1, ?_⟩, ?_, ?_, ?_, x6⟩
            · show XS (sS (sS (sS s.1 4 x) 5 y) 6 w) _ _ _ _ _ _
              unfold XS at x1 ⊢
              simp only [sS_0]
              exact ⟨x1.1, x1.2.1, x1.2.2.1, rfl, rfl, rfl⟩
            · show sS (sS (sS s.1 4 x) 5 y) 6 w 0 7 ≤ 6
              simp only [sS_0]; exact x2g
            · exact tr_G (d := s.1) (d' := sS (sS (sS s.1 4 x) 5 y) 6 w) (by simp only [sS_0]; rfl) (fun w => by rw [sS_o (by decide), sS_o (by decide), sS_o (by decide)]) (fun w => by rw [sS_o (by decide), sS_o (by decide), sS_o (by decide)]) x3
            · exact tr_H (d := s.1) (d' := sS (sS (sS s.1 4 x) 5 y) 6 w) (by simp only [sS_0]; rfl) (fun w => by rw [sS_o (by decide), sS_o (by decide), sS_o (by decide)]) (fun w => by rw [sS_o (by decide), sS_o (by decide), sS_o (by decide)]) (fun w => by rw [sS_o (by decide), sS_o (by decide), sS_o (by decide)]) (fun w => by rw [sS_o (by decide), sS_o (by decide), sS_o (by decide)]) x4
            · exact tr_W (d := s.1) (d' := sS (sS (sS s.1 4 x) 5 y) 6 w) (by simp only [sS_0]; rfl) (fun w => by rw [sS_o (by decide), sS_o (by decide), sS_o (by decide)]) (fun w => by rw [sS_o (by decide), sS_o (by decide), sS_o (by decide)]) (fun w => by rw [sS_o (by decide), sS_o (by decide), sS_o (by decide)]) x5
        · -- slip
          have e := el.2.2.2.1 (fnd_at (by omega) t3 (fun k hk => by rcases (show k = 0 ∨ k = 1 ∨ k = 2 by omega) with rfl | rfl | rfl <;> assumption))
          rw [e] at h0 h1
          refine cl_P hn hB hr.2.2.1 x2e (fun w at' to' fr' va' k' p' tt' => ⟨Or.inl rfl, h0 w _ _ _ _ _ _ _ _ _ _ _ _ _ _ _ _ _ _ _ _ _ _ _ _ _ _ _ _⟩) (fun x y b ee to' fr' va' => ⟨Or.inr rfl, ?_⟩)
          rw [ee] at h1
          dsimp only at h1
          refine h1 rfl _ _ _ _ _ _ _ _ _ _ _ _ _ _ _ _ _ _ _ _ _ _ _ _ _ _ _ ⟨?_, ⟨rfl, rfl, rfl, x2d, Nat.le_refl 1, x2f, ?_⟩, ?_, ?_, ?_, x6⟩
          · show XS (sS (sS s.1 2 x) 3 y) _ _ _ _ _ _
            unfold XS at x1 ⊢
            simp only [sS_0]
            exact ⟨x1.1, rfl, rfl, x1.2.2.2.1, x1.2.2.2.2.1, x1.2.2.2.2.2⟩
          · show sS (sS s.1 2 x) 3 y 0 7 ≤ 6
            simp only [sS_0]; exact x2g
          · exact tr_G (d := s.1) (d' := sS (sS s.1 2 x) 3 y) (by simp only [sS_0]; rfl) (fun w => by rw [sS_o (by decide), sS_o (by decide)]) (fun w => by rw [sS_o (by decide), sS_o (by decide)]) x3
          · exact tr_H (d := s.1) (d' := sS (sS s.1 2 x) 3 y) (by simp only [sS_0]; rfl) (fun w => by rw [sS_o (by decide), sS_o (by decide)]) (fun w => by rw [sS_o (by decide), sS_o (by decide)]) (fun w => by rw [sS_o (by decide), sS_o (by decide)]) (fun w => by rw [sS_o (by decide), sS_o (by decide)]) x4
          · exact tr_W (d := s.1) (d' := sS (sS s.1 2 x) 3 y) (by simp only [sS_0]; rfl) (fun w => by rw [sS_o (by decide), sS_o (by decide)]) (fun w => by rw [sS_o (by decide), sS_o (by decide)]) (fun w => by rw [sS_o (by decide), sS_o (by decide)]) x5
      · -- short
        have e := el.2.2.1 (fnd_at (by omega) t2 (fun k hk => by rcases (show k = 0 ∨ k = 1 by omega) with rfl | rfl <;> assumption))
        rw [e] at h0 h1
        refine cl_H hn hB hr.2.2.1 x4.1 x4.2.1 x4.2.2.1 x4.2.2.2 (fun w at' to' fr' va' p1 p2 p3 p4 p5 p6 p7 p8 => ⟨Or.inl rfl, h0 w _ _ _ _ _ _ _ _ _ _ _ _ _ _ _ _ _ _ _ _ _ _ _ _ _ _ _ _⟩) (fun f e f' e' b ee to' fr' va' p1 p2 p3 p4 p5 p6 p7 p8 q1 q2 q3 q4 => ⟨Or.inr rfl, ?_⟩)
        rw [ee] at h1
        dsimp only at h1
        refine h1 rfl _ _ _ _ _ _ _ _ _ _ _ _ _ _ _ _ _ _ _ _ _ _ _ _ _ _ _ ⟨tr_S (d := s.1) (d' := adS B s.1 f e f' e') (fun k hk => by rw [adS_0, if_neg (by omega)]) x1, ⟨rfl, rfl, rfl, x2d, x2e, x2f, ?_⟩, ?_, ⟨q1, q2, q3, q4⟩, ?_, x6⟩
        · show adS B s.1 f e f' e' 0 7 ≤ 6
          rw [adS_0, if_neg (by omega)]; exact x2g
        · exact tr_G (d := s.1) (d' := adS B s.1 f e f' e') (by rw [adS_0, if_neg (by omega)]) (fun w => adS_o (by decide) (by decide) (by decide) (by decide) (by decide) w) (fun w => adS_o (by decide) (by decide) (by decide) (by decide) (by decide) w) x3
        · exact tr_W (d := s.1) (d' := adS B s.1 f e f' e') (by rw [adS_0, if_neg (by omega)]) (fun w => adS_o (by decide) (by decide) (by decide) (by decide) (by decide) w) (fun w => adS_o (by decide) (by decide) (by decide) (by decide) (by decide) w) (fun w => adS_o (by decide) (by decide) (by decide) (by decide) (by decide) w) x5
    · -- word
      have e := el.2.1 (fnd_at (by omega) t1 (fun k hk => by rw [show k = 0 by omega]; exact t0))
      rw [e] at h0 h1
      refine cl_W hn hB hr.2.2.1 x5.1 x5.2 (fun w at' to' fr' va' p1 p2 p3 p4 p5 => ⟨Or.inl rfl, h0 w _ _ _ _ _ _ _ _ _ _ _ _ _ _ _ _ _ _ _ _ _ _ _ _ _ _ _ _⟩) (fun f e v b ee to' fr' va' p1 p2 p3 p4 p5 q1 q2 => ⟨Or.inr rfl, ?_⟩)
      rw [ee] at h1
      dsimp only at h1
      refine h1 rfl _ _ _ _ _ _ _ _ _ _ _ _ _ _ _ _ _ _ _ _ _ _ _ _ _ _ _ ⟨tr_S (d := s.1) (d' := adW B s.1 f e v) (fun k hk => by rw [adW_0, if_neg (by omega)]) x1, ⟨rfl, rfl, rfl, x2d, x2e, x2f, ?_⟩, ?_, ?_, ⟨q1, q2⟩, x6⟩
      · show adW B s.1 f e v 0 7 ≤ 6
        rw [adW_0, if_neg (by omega)]; exact x2g
      · exact tr_G (d := s.1) (d' := adW B s.1 f e v) (by rw [adW_0, if_neg (by omega)]) (fun w => adW_o (by decide) w) (fun w => adW_o (by decide) w) x3
      · exact tr_H (d := s.1) (d' := adW B s.1 f e v) (by rw [adW_0, if_neg (by omega)]) (fun w => adW_o (by decide) w) (fun w => adW_o (by decide) w) (fun w => adW_o (by decide) w) (fun w => adW_o (by decide) w) x4
  · -- table
    have e := el.1 (fnd_at (by omega) t0 (fun k hk => absurd hk (by omega)))
    rw [e] at h0 h1
    refine cl_T hn hB hr.2.2.1 x2d (fun w at' to' fr' va' p1 p2 => ⟨Or.inl rfl, h0 w _ _ _ _ _ _ _ _ _ _ _ _ _ _ _ _ _ _ _ _ _ _ _ _ _ _ _ _⟩) (fun f b ee to' fr' va' p1 hp => ⟨Or.inr rfl, ?_⟩)
    rw [ee] at h1
    dsimp only at h1
    exact h1 rfl _ _ _ _ _ _ _ _ _ _ _ _ _ _ _ _ _ _ _ _ _ _ _ _ _ _ _ ⟨x1, ⟨rfl, rfl, rfl, Nat.le_refl 1, x2e, x2f, x2g⟩, x3, x4, x5, hp⟩
end
