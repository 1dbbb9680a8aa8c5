/-! code of both -/
/-- what a new plan is: d' in the class's cells and in the reference's -/
def NP (d : PD) (gu le mo kk pa ga wz sz lz : Int32) (wa wms sln slt lln llt wln wlt wts wo sh gd ru : Nat → Int32) : Prop := okP d ∧ XS d gu le mo kk pa ga ∧ XG d wa ∧ XL d 8 lz lln llt 3 sz sln slt ∧ XW d 8 wz wln wlt wts ∧ XM d wms ∧ MS d ru ∧ MG d ru gd ∧ MH d sh ∧ MW d ru wo
section
variable {B : Nat → Nat} {n : Nat} {size taped : Int32} {bytes tape : Nat → Int32} {ap as : Nat} {lf rk rw ta tt0 tf0 tv0 hs k0 k1 : Int32} {pl kn ln hc : Nat → Int32} {gu le mo kk pa ga tt st tm sz lz wz : Int32} {wa sln sms slt lln lms llt wln wms wlt wts lt : Nat → Int32} {fl bk ba sp he to va tn aw : Int32} {km sta rt wo rw0 sh rs gd rg ru rr cu lt2 pn : Nat → Int32}
theorem sim_code (hRT : RT n B size bytes taped tape) (hC : MK cu lt2) (hpl : ∀ k, k < 8 → pn k = nI (plL k)) :
    wp_X11_code 10 6 6 6 18 6 48 10 80 ap as lf gu le mo kk pa ga tt st tm 10 8 wz 6 3 sz 6 8 lz wa lt rk rw size ta tt0 tf0 tv0 wms sms lms bytes sln slt lln llt wln wlt wts hs pl kn ln k0 k1 (fun r ap' as' lf' gu' le' mo' kk' pa' ga' tt' st' tm' wz' sz' lz' wa' lt' rk' rw' ts' ta' tt0' tf0' tv0' wms' sms' lms' sln' slt' lln' llt' wln' wlt' wts' hs' pl' kn' ln' k0' k1' => wp_X12_code taped fl bk ba sp he to va tn aw tape km sta rt wo rw0 sh rs gd rg ru rr cu lt2 pn (fun r' tpd' fl' bk' ba' sp' he' to' va' tn' aw' km' sta' rt' wo' rw0' sh' rs' gd' rg' ru' rr' =>
      r = r' ∧ lf' = fl' ∧ ts' = 0 ∧ tpd' = 0 ∧ ((ap' = ap ∧ as' = as ∧ hs' = hs ∧ pl' = pl ∧ kn' = kn ∧ ln' = ln ∧ k0' = k0 ∧ k1' = k1 ∧ aw' = aw ∧ km' = km ∧ sta' = sta ∧ wo' = wo ∧ sh' = sh ∧ gd' = gd ∧ ru' = ru) ∨ (ap' = as ∧ as' = ap ∧ k0' = 0 ∧ k1' = 0 ∧ km' 0 = 0 ∧ km' 1 = 0 ∧ aw' = 1 ∧ ∃ d, NP d gu' le' mo' kk' pa' ga' wz' sz' lz' wa' wms' sln' slt' lln' llt' wln' wlt' wts' wo' sh' gd' ru' ∧ RI d aw' sta' ln' pl' hs' hc kn')))) := by
  obtain ⟨hn, e1, e2, hB⟩ := hRT
  subst e1; subst e2
  have hBx : ∀ k, k < n → B k < 256 ∧ bytes k = sx (B k) := fun k hk => ⟨(hB k hk).1, (hB k hk).2.1⟩
  have hBm : ∀ k, k < n → B k < 256 ∧ tape k = nI (B k) := fun k hk => ⟨(hB k hk).1, (hB k hk).2.2⟩
  refine cl_code hn hBx ?_ ?_ ?_
  · intro z
    intros
    refine rl_code hn hBm hC hpl ?_ (fun y => absurd y z) (fun y => absurd y z)
    intros
    exact ⟨rfl, rfl, rfl, rfl, Or.inl ⟨rfl, rfl, rfl, rfl, rfl, rfl, rfl, rfl, rfl, rfl, rfl, rfl, rfl, rfl, rfl⟩⟩
  · intro z c
    intros
    refine rl_code hn hBm hC hpl (fun y => absurd z y) ?_ (fun _ y => absurd y c)
    intros
    exact ⟨rfl, rfl, rfl, rfl, Or.inl ⟨rfl, rfl, rfl, rfl, rfl, rfl, rfl, rfl, rfl, rfl, rfl, rfl, rfl, rfl, rfl⟩⟩
  · intro z c ok
    intro gu1 le1 mo1 kk1 pa1 ga1 tt1 st1 tm1 wz1 sz1 lz1 wa1 lt1 ta1 tt01 tf01 tv01 wms1 sms1 lms1 sln1 slt1 lln1 llt1 wln1 wlt1 wts1 pl1 kn1 ln1 hX a1 a2 a3
    refine rl_code hn hBm hC hpl (fun y => absurd z y) (fun _ y => absurd c y) ?_
    intro _ _ ba2 sp2 he2 to2 va2 tn2 km2 st2 rt2 wo2 rw2 sh2 rs2 gd2 rg2 ru2 rr2 b1 b2 b3 b4 b5 b6 b7 b8
    obtain ⟨x1, x2, x3, x4, x5, x6⟩ := hX
    refine ⟨rfl, rfl, rfl, rfl, Or.inr ⟨rfl, rfl, rfl, rfl, b1, b2, rfl, (lns B n 320 ps0 0 0).2.2.1.1, ⟨ok.1, x1, x3, ⟨x4.2.2.1, x4.1⟩, x5.1, fun w hw => x5.2 w hw, b5, b6, b7, b8⟩, ?_⟩⟩
    refine ⟨(lns B n 320 ps0 0 0).2.2.1.2.1, fun _ => 0, fun _ => 0, 0, ⟨ok.2, by decide, fun i hi => absurd hi (Nat.not_lt_zero i), fun w hw => (by decide : 0 < 2048)⟩, c, ⟨a1, a2, rfl, fun i hi => absurd hi (Nat.not_lt_zero i), fun w hw => a3 w hw⟩, Or.inl ⟨rfl, fun p hp => by rw [Nat.zero_add]; exact b3 p hp⟩, ⟨?_, fun i hi => absurd hi (Nat.not_lt_zero i), fun w hw => ?_⟩⟩
    · rw [Nat.zero_add]; exact b4 49 (by omega) (by omega)
    · rw [Nat.zero_add]; exact b4 (50 + w) (by omega) (by omega)
end
