/-! the reference's lines -/
section
variable {B : Nat → Nat} {n a a0 : Nat} {s : Ps} {tape p1 : Nat → Int32} {bra sp he to va : Int32}
theorem sp_takeName_no {b N : Nat} (hb : 1 ≤ b) (hb9 : b ≤ 9) {o lo hi : Int32} {post : Int32 → Int32 → Int32 → (Nat → Int32) → Prop} (h : post (sp - he) (nI b) bra p1) : wp_X12_takeName N (nI n) (nI b) bra sp he to p1 tape o lo hi post := by
  have e0 : ¬ nI b = 0 := fun z => by have := (nI_eq (b := 0) (by omega) (by omega)).mp z; omega
  have bad : ∃ m, fixN (F_X12_takeName_60 N (nI n) he tape o (sp - he) (nI b) bra post) m (0, p1) := by
    refine ⟨1, ?_⟩
    show F_X12_takeName_60 _ _ _ _ _ _ _ _ _ _ _
    unfold F_X12_takeName_60
    exact ⟨fun _ => h, fun _ => ⟨fun _ => h, fun q => absurd q e0⟩⟩
  unfold wp_X12_takeName B_X12_takeName_20
  exact ⟨fun _ => ⟨fun _ => bad, fun q => absurd q e0⟩, fun q => absurd q e0⟩
theorem rl_next (hn : n ≤ 320) (hB : ∀ k, k < n → B k < 256 ∧ tape k = nI (B k)) (ha : a ≤ n) {post : Int32 → Int32 → Int32 → Int32 → Int32 → Int32 → Prop} (h0 : (tkn B n a).1 = 0 → ∀ sp tk v, post 1 (nI (tf B n a)) sp (nI (tf B n a)) tk v) (h1 : ¬ (tkn B n a).1 = 0 → post 0 bra (nI (te B n a)) (nI (tf B n a)) (nI ((tkn B n a).1 - 1)) (nI (tv B n a))) : wp_X12_next (nI n) 0 bra (nI a) he to va tape post := sp_X12_next hn hB ha h0 h1
theorem rl_num (hn : n ≤ 320) (hB : ∀ k, k < n → B k < 256 ∧ tape k = nI (B k)) (ha : a ≤ n) (hk : ¬ (tkn B n a).1 = 0) {lo hi : Nat} (hlo : lo < 1000) (hhi : hi < 1000) {post : Int32 → Int32 → Int32 → Int32 → Int32 → Int32 → Int32 → Prop} (h0 : ¬ fNu B n lo hi a = 0 → ∀ r sp' he' to' va', post r (nI (fNu B n lo hi a)) (nI (tf B n a)) sp' he' to' va') (h1 : fNu B n lo hi a = 0 → (tkn B n (te B n a)).1 = 0 → ∀ r sp' to' va', post r 1 (nI (tf B n (te B n a))) sp' (nI (tf B n (te B n a))) to' va') (h2 : fNu B n lo hi a = 0 → ¬ (tkn B n (te B n a)).1 = 0 → post (nI (tv B n a)) 0 bra (nI (te B n (te B n a))) (nI (tf B n (te B n a))) (nI ((tkn B n (te B n a)).1 - 1)) (nI (tv B n (te B n a)))) : wp_X12_number (nI n) 0 bra (nI (te B n a)) (nI (tf B n a)) (nI ((tkn B n a).1 - 1)) (nI (tv B n a)) tape (nI lo) (nI hi) post := sp_X12_number hn hB ha hk hlo hhi h0 h1 h2
theorem rl_nm (hn : n ≤ 320) (hB : ∀ k, k < n → B k < 256 ∧ tape k = nI (B k)) (ha : a ≤ n) (hk : ¬ (tkn B n a).1 = 0) {N o lo hi : Nat} (hlo : lo < 1000) (hhi : hi < 1000) (ho : o + hi ≤ N) (hN : N < 1000) {post : Int32 → Int32 → Int32 → (Nat → Int32) → Prop} (h0 : ¬ fNm B n lo hi a = 0 → ∀ r, post r (nI (fNm B n lo hi a)) (nI (tf B n a)) p1) (h1 : fNm B n lo hi a = 0 → ∀ p1', (∀ k, k < te B n a - tf B n a → p1' (o + k) = nI (B (tf B n a + k) - 97)) → (∀ j, j < o → p1' j = p1 j) → (∀ j, o + (te B n a - tf B n a) ≤ j → p1' j = p1 j) → post (nI (te B n a - tf B n a)) 0 bra p1') : wp_X12_takeName N (nI n) 0 bra (nI (te B n a)) (nI (tf B n a)) (nI ((tkn B n a).1 - 1)) p1 tape (nI o) (nI lo) (nI hi) post := sp_X12_takeName hn hB ha hk hlo hhi ho hN h0 h1
theorem fNm_1 {lo hi : Nat} (h : (tkn B n a).1 = 0) : fNm B n lo hi a = 1 := by unfold fNm; rw [if_pos h]
theorem fNu_1 {lo hi : Nat} (h : (tkn B n a).1 = 0) : fNu B n lo hi a = 1 := by unfold fNu; rw [if_pos h]
theorem fSi_1 (h : (tkn B n a).1 = 0) : fSi B n a = 1 := by unfold fSi; rw [if_pos h]
theorem lnS_1 (h : (tkn B n a).1 = 0) : lnS B n s a = (1, tf B n a, s, a) := by unfold lnS; rw [thn_n (by rw [fSi_1 h]; decide), fSi_1 h]
theorem rl_W (hn : n ≤ 320) (hB : ∀ k, k < n → B k < 256 ∧ tape k = nI (B k)) (ha : a ≤ n) (hd : okP s.1) {rr rw0 : Nat → Int32} (hM : MW s.1 rr rw0) {post : Int32 → Int32 → Int32 → Int32 → Int32 → Int32 → (Nat → Int32) → (Nat → Int32) → Prop}
    (h0 : ¬ (lnW B n s a0 a).1 = 0 → ∀ sp' he' to' va' rr' rw', post (nI (lnW B n s a0 a).1) (nI (lnW B n s a0 a).2.1) sp' he' to' va' rr' rw')
    (h1 : ∀ f e v b, lnW B n s a0 a = lnS B n (adW B s.1 f e v, s.2.1, s.2.2.1, s.2.2.2.1, s.2.2.2.2) b → b ≤ n → ¬ (tkn B n b).1 = 0 → ∀ rw', MW (adW B s.1 f e v) (upd rr 5 (nI (nw s.1 + 1))) rw' → post 0 bra (nI (te B n b)) (nI (tf B n b)) (nI ((tkn B n b).1 - 1)) (nI (tv B n b)) (upd rr 5 (nI (nw s.1 + 1))) rw') :
    wp_X12_readWord (nI n) 0 bra (nI a) (nI (tf B n a0)) to va rr tape rw0 post := by
  have hr := tk_rng (B := B) hn ha
  have hr2 := tk_rng (B := B) hn hr.2.2.1
  have h10 := hd.1
  have h5 := hM.1
  unfold wp_X12_readWord
  rw [show (5 : Int32).toNatClampNeg = 5 from rfl, h5, i10, nI_eq (by omega) (by omega), pk_mul]
  have v5 : vp_in 5 8 := by unfold vp_in; decide
  refine ⟨v5, fun q => ?_, fun q => ?_⟩
  · have v8 : vp_in (nI (10 * nw s.1) + 8) 100 := by rw [i8, nI_add]; exact (vin_n (by omega)).mpr (by omega)
    have v9 : vp_in (nI (10 * nw s.1) + 9) 100 := by rw [i9, nI_add]; exact (vin_n (by omega)).mpr (by omega)
    have c8 : (nI (10 * nw s.1) + 8).toNatClampNeg = 10 * nw s.1 + 8 := by rw [i8, nI_add]; exact nI_clamp (by omega)
    have c9 : (nI (10 * nw s.1) + 9).toNatClampNeg = 10 * nw s.1 + 9 := by rw [i9, nI_add]; exact nI_clamp (by omega)
    refine rl_next hn hB ha (fun z sp1 tk1 v1 => ⟨v5, sp_takeName_no (b := 1) (by omega) (by omega) ⟨v8, sp_next_no (b := 1) (by omega) (by omega) (sp_number_no (b := 1) (by omega) (by omega) ⟨v9, v5, v5, ?_⟩)⟩⟩) (fun z => ⟨v5, rl_nm (o := 10 * nw s.1) (lo := 1) (hi := 8) hn hB ha z (by omega) (by omega) (by omega) (by omega) (fun w r => ⟨v8, ?_⟩) (fun w p1' k1 k2 k3 => ⟨v8, ?_⟩)⟩)
    · have e : lnW B n s a0 a = (1, tf B n a, s, a) := by unfold lnW; rw [if_neg (by omega), thn_n (by rw [fNm_1 z]; decide), fNm_1 z]
      rw [e] at h0; exact h0 (Nat.succ_ne_zero _) _ _ _ _ _ _
    · have e : lnW B n s a0 a = (fNm B n 1 8 a, tf B n a, s, a) := by unfold lnW; rw [if_neg (by omega), thn_n w]
      rw [e] at h0
      have h9 := fNm_9 (B := B) (n := n) (a := a) (lo := 1) (hi := 8)
      exact sp_next_no (by omega) (by omega) (sp_number_no (by omega) (by omega) ⟨v9, v5, v5, h0 w _ _ _ _ _ _⟩)
    · have hf := fNm_0 w
      refine rl_next hn hB hr.2.2.1 (fun y sp2 tk2 v2 => sp_number_no (b := 1) (by omega) (by omega) ⟨v9, v5, v5, ?_⟩) (fun y => ?_)
      · have e : lnW B n s a0 a = (1, tf B n (te B n a), s, te B n a) := by unfold lnW; rw [if_neg (by omega), thn_0 w, thn_n (by rw [fNu_1 y]; decide), fNu_1 (a := te B n a) y]
        rw [e] at h0; exact h0 (Nat.succ_ne_zero _) _ _ _ _ _ _
      · refine rl_num (lo := 1) (hi := 99) hn hB hr.2.2.1 y (by omega) (by omega) (fun x r sp3 he3 to3 va3 => ⟨v9, v5, v5, ?_⟩) (fun x x2 r sp3 to3 va3 => ⟨v9, v5, v5, ?_⟩) (fun x x2 => ⟨v9, v5, v5, ?_⟩)
        · have e : lnW B n s a0 a = (fNu B n 1 99 (te B n a), tf B n (te B n a), s, te B n a) := by unfold lnW; rw [if_neg (by omega), thn_0 w, thn_n x]
          rw [e] at h0; exact h0 x _ _ _ _ _ _
        · have e : lnW B n s a0 a = lnS B n (adW B s.1 (tf B n a) (te B n a) (tv B n (te B n a)), s.2.1, s.2.2.1, s.2.2.2.1, s.2.2.2.2) (te B n (te B n a)) := by unfold lnW; rw [if_neg (by omega), thn_0 w, thn_0 x]
          rw [e, lnS_1 (a := te B n (te B n a)) x2] at h0; exact h0 (Nat.succ_ne_zero _) _ _ _ _ _ _
        · have e : lnW B n s a0 a = lnS B n (adW B s.1 (tf B n a) (te B n a) (tv B n (te B n a)), s.2.1, s.2.2.1, s.2.2.2.1, s.2.2.2.2) (te B n (te B n a)) := by unfold lnW; rw [if_neg (by omega), thn_0 w, thn_0 x]
          rw [nI_1, c8, c9]
          refine h1 _ _ _ _ e hr2.2.2.1 x2 _ ⟨?_, fun w' hw' => ?_⟩
          · rw [pk_us]; congr 1
          · have e0 : nw (adW B s.1 (tf B n a) (te B n a) (tv B n (te B n a))) = nw s.1 + 1 := by show adW _ _ _ _ _ 0 0 = _; rw [adW_0, if_pos rfl]
            rw [e0] at hw'
            have el : wl (adW B s.1 (tf B n a) (te B n a) (tv B n (te B n a))) w' = if w' = nw s.1 then te B n a - tf B n a else wl s.1 w' := adW_1 w'
            have ev : ww (adW B s.1 (tf B n a) (te B n a) (tv B n (te B n a))) w' = if w' = nw s.1 then tv B n (te B n a) else ww s.1 w' := adW_2 w'
            rw [el, ev]
            by_cases c : w' = nw s.1
            · subst c
              rw [if_pos rfl, if_pos rfl, pk_un (by omega), pk_us, pk_us]
              refine ⟨rfl, rfl, fun k hk => ?_⟩
              have hk' : k < te B n a - tf B n a := hk
              rw [pk_un (by omega), pk_un (by omega), k1 k hk', adW_wc _ k (Nat.le_refl _) (by omega), if_pos rfl]
            · have b := hM.2 w' (by omega)
              have bl := (hd.2.2.2.2.2.2.1 w' (by omega)).2.1
              rw [if_neg c, if_neg c, pk_un (by omega), pk_un (by omega), pk_un (by omega), pk_un (by omega), k2 _ (by omega), k2 _ (by omega)]
              refine ⟨b.1, b.2.1, fun k hk => ?_⟩
              rw [pk_un (by omega), pk_un (by omega), k2 _ (by omega), adW_wc _ k (by omega) (by omega), if_neg c]
              exact b.2.2 k hk
  · unfold wp_X12_fails
    have e : lnW B n s a0 a = (5, tf B n a0, s, a) := by unfold lnW; rw [if_pos (by omega)]
    rw [e] at h0
    exact ⟨fun t => absurd rfl t, fun _ => h0 (Nat.succ_ne_zero _) _ _ _ _ _ _⟩
theorem rl_G (hn : n ≤ 320) (hB : ∀ k, k < n → B k < 256 ∧ tape k = nI (B k)) (ha : a ≤ n) (hd : okP s.1) {rr rg : Nat → Int32} (hM : MG s.1 rr rg) {post : Int32 → Int32 → Int32 → Int32 → Int32 → Int32 → (Nat → Int32) → (Nat → Int32) → Prop}
    (h0 : ¬ (lnG B n s a0 a).1 = 0 → ∀ sp' he' to' va' rr' rg', post (nI (lnG B n s a0 a).1) (nI (lnG B n s a0 a).2.1) sp' he' to' va' rr' rg')
    (h1 : ∀ x y b, lnG B n s a0 a = lnS B n (adG s.1 x y, s.2.1, s.2.2.1, s.2.2.2.1, s.2.2.2.2) b → b ≤ n → ¬ (tkn B n b).1 = 0 → ∀ rg', MG (adG s.1 x y) (upd rr 7 (nI (ngd s.1 + 1))) rg' → post 0 bra (nI (te B n b)) (nI (tf B n b)) (nI ((tkn B n b).1 - 1)) (nI (tv B n b)) (upd rr 7 (nI (ngd s.1 + 1))) rg') :
    wp_X12_readGuard (nI n) 0 bra (nI a) (nI (tf B n a0)) to va rr tape rg post := by
  have hr := tk_rng (B := B) hn ha
  have hr2 := tk_rng (B := B) hn hr.2.2.1
  have h10 := hd.2.2.1
  have h5 := hM.1
  unfold wp_X12_readGuard
  rw [show (7 : Int32).toNatClampNeg = 7 from rfl, h5, i6, nI_eq (by omega) (by omega), i2, pk_mul]
  have v5 : vp_in 7 8 := by unfold vp_in; decide
  refine ⟨v5, fun q => ?_, fun q => ?_⟩
  · have v8 : vp_in (nI (2 * ngd s.1)) 12 := (vin_n (by omega)).mpr (by omega)
    have v9 : vp_in (nI (2 * ngd s.1) + 1) 12 := by rw [nI_1]; exact (vin_n (by omega)).mpr (by omega)
    have c8 : (nI (2 * ngd s.1)).toNatClampNeg = 2 * ngd s.1 := nI_clamp (by omega)
    have c9 : (nI (2 * ngd s.1) + 1).toNatClampNeg = 2 * ngd s.1 + 1 := by rw [nI_1]; exact nI_clamp (by omega)
    refine rl_next hn hB ha (fun z sp1 tk1 v1 => ⟨v5, sp_number_no (b := 1) (by omega) (by omega) ⟨v8, sp_number_no (b := 1) (by omega) (by omega) ⟨v9, v5, v5, ?_⟩⟩⟩) (fun z => ⟨v5, rl_num (lo := 0) (hi := 599) hn hB ha z (by omega) (by omega) (fun w r sp2 he2 to2 va2 => ⟨v8, ?_⟩) (fun w y r sp2 to2 va2 => ⟨v8, sp_number_no (b := 1) (by omega) (by omega) ⟨v9, v5, v5, ?_⟩⟩) (fun w y => ⟨v8, ?_⟩)⟩)
    · have e : lnG B n s a0 a = (1, tf B n a, s, a) := by unfold lnG; rw [if_neg (by omega), thn_n (by rw [fNu_1 z]; decide), fNu_1 z]
      rw [e] at h0; exact h0 (Nat.succ_ne_zero _) _ _ _ _ _ _
    · have e : lnG B n s a0 a = (fNu B n 0 599 a, tf B n a, s, a) := by unfold lnG; rw [if_neg (by omega), thn_n w]
      rw [e] at h0
      have h9 := fNu_9 (B := B) (n := n) (a := a) (lo := 0) (hi := 599)
      exact sp_number_no (by omega) (by omega) ⟨v9, v5, v5, h0 w _ _ _ _ _ _⟩
    · have e : lnG B n s a0 a = (1, tf B n (te B n a), s, te B n a) := by unfold lnG; rw [if_neg (by omega), thn_0 w, thn_n (by rw [fNu_1 (a := te B n a) y]; decide), fNu_1 (a := te B n a) y]
      rw [e] at h0; exact h0 (Nat.succ_ne_zero _) _ _ _ _ _ _
    · refine rl_num (lo := 1) (hi := 60) hn hB hr.2.2.1 y (by omega) (by omega) (fun x r sp3 he3 to3 va3 => ⟨v9, v5, v5, ?_⟩) (fun x x2 r sp3 to3 va3 => ⟨v9, v5, v5, ?_⟩) (fun x x2 => ⟨v9, v5, v5, ?_⟩)
      · have e : lnG B n s a0 a = (fNu B n 1 60 (te B n a), tf B n (te B n a), s, te B n a) := by unfold lnG; rw [if_neg (by omega), thn_0 w, thn_n x]
        rw [e] at h0; exact h0 x _ _ _ _ _ _
      · have e : lnG B n s a0 a = lnS B n (adG s.1 (tv B n a) (tv B n (te B n a)), s.2.1, s.2.2.1, s.2.2.2.1, s.2.2.2.2) (te B n (te B n a)) := by unfold lnG; rw [if_neg (by omega), thn_0 w, thn_0 x]
        rw [e, lnS_1 (a := te B n (te B n a)) x2] at h0; exact h0 (Nat.succ_ne_zero _) _ _ _ _ _ _
      · have e : lnG B n s a0 a = lnS B n (adG s.1 (tv B n a) (tv B n (te B n a)), s.2.1, s.2.2.1, s.2.2.2.1, s.2.2.2.2) (te B n (te B n a)) := by unfold lnG; rw [if_neg (by omega), thn_0 w, thn_0 x]
        rw [c8, c9, nI_1]
        refine h1 _ _ _ e hr2.2.2.1 x2 _ ⟨?_, fun g hg => ?_⟩
        · rw [pk_us]; congr 1
        · have e0 : ngd (adG s.1 (tv B n a) (tv B n (te B n a))) = ngd s.1 + 1 := by show adG _ _ _ 0 7 = _; rw [adG_0, if_pos rfl]
          rw [e0] at hg
          rw [adG_8, adG_9]
          by_cases c : g = ngd s.1
          · subst c
            rw [if_pos rfl, if_pos rfl, pk_un (by omega), pk_us, pk_us]; exact ⟨rfl, rfl⟩
          · rw [if_neg c, if_neg c, pk_un (by omega), pk_un (by omega), pk_un (by omega), pk_un (by omega)]
            exact hM.2 g (by omega)
  · unfold wp_X12_fails
    have e : lnG B n s a0 a = (5, tf B n a0, s, a) := by unfold lnG; rw [if_pos (by omega)]
    rw [e] at h0
    exact ⟨fun t => absurd rfl t, fun _ => h0 (Nat.succ_ne_zero _) _ _ _ _ _ _⟩
theorem rl_H (hn : n ≤ 320) (hB : ∀ k, k < n → B k < 256 ∧ tape k = nI (B k)) (ha : a ≤ n) (hd : okP s.1) {rr rs : Nat → Int32} (h5 : rr 6 = nI (nsh s.1)) (hM : MH s.1 rs) {post : Int32 → Int32 → Int32 → Int32 → Int32 → Int32 → (Nat → Int32) → (Nat → Int32) → Prop}
    (h0 : ¬ (lnH B n s a0 a).1 = 0 → ∀ sp' he' to' va' rr' rs', post (nI (lnH B n s a0 a).1) (nI (lnH B n s a0 a).2.1) sp' he' to' va' rr' rs')
    (h1 : ∀ f e f' e' b, lnH B n s a0 a = lnS B n (adS B s.1 f e f' e', s.2.1, s.2.2.1, s.2.2.2.1, s.2.2.2.2) b → b ≤ n → ¬ (tkn B n b).1 = 0 → ∀ rs', MH (adS B s.1 f e f' e') rs' → post 0 bra (nI (te B n b)) (nI (tf B n b)) (nI ((tkn B n b).1 - 1)) (nI (tv B n b)) (upd rr 6 (nI (nsh s.1 + 1))) rs') :
    wp_X12_readShort (nI n) 0 bra (nI a) (nI (tf B n a0)) to va rr tape rs post := by
  have hr := tk_rng (B := B) hn ha
  have hr2 := tk_rng (B := B) hn hr.2.2.1
  have h10 := hd.2.1
  unfold wp_X12_readShort
  rw [show (6 : Int32).toNatClampNeg = 6 from rfl, h5]
  rw [show ((nI (nsh s.1) : Int32) = 6) = (nI (nsh s.1) = nI 6) from rfl, nI_eq (by omega) (by omega), i13, pk_mul]
  have v5 : vp_in 6 8 := by unfold vp_in; decide
  refine ⟨v5, fun q => ?_, fun q => ?_⟩
  · have v3 : vp_in (nI (13 * nsh s.1) + 3) 78 := by rw [i3, nI_add]; exact (vin_n (by omega)).mpr (by omega)
    have v12 : vp_in (nI (13 * nsh s.1) + 12) 78 := by rw [i12, nI_add]; exact (vin_n (by omega)).mpr (by omega)
    have c3 : (nI (13 * nsh s.1) + 3).toNatClampNeg = 13 * nsh s.1 + 3 := by rw [i3, nI_add]; exact nI_clamp (by omega)
    have c12 : (nI (13 * nsh s.1) + 12).toNatClampNeg = 13 * nsh s.1 + 12 := by rw [i12, nI_add]; exact nI_clamp (by omega)
    have c4 : nI (13 * nsh s.1) + 4 = nI (13 * nsh s.1 + 4) := by rw [i4, nI_add]
    rw [c4]
    refine rl_next hn hB ha (fun z sp1 tk1 v1 => ⟨v5, sp_takeName_no (b := 1) (by omega) (by omega) ⟨v3, sp_next_no (b := 1) (by omega) (by omega) (sp_takeName_no (b := 1) (by omega) (by omega) ⟨v12, sp_next_no (b := 1) (by omega) (by omega) ⟨v5, v5, ?_⟩⟩)⟩⟩) (fun z => ⟨v5, rl_nm (o := 13 * nsh s.1) (lo := 1) (hi := 3) hn hB ha z (by omega) (by omega) (by omega) (by omega) (fun w r => ⟨v3, ?_⟩) (fun w p1' k1 k2 k3 => ⟨v3, ?_⟩)⟩)
    · have e : lnH B n s a0 a = (1, tf B n a, s, a) := by unfold lnH; rw [if_neg (by omega), thn_n (by rw [fNm_1 z]; decide), fNm_1 z]
      rw [e] at h0; exact h0 (Nat.succ_ne_zero _) _ _ _ _ _ _
    · have e : lnH B n s a0 a = (fNm B n 1 3 a, tf B n a, s, a) := by unfold lnH; rw [if_neg (by omega), thn_n w]
      rw [e] at h0
      have h9 := fNm_9 (B := B) (n := n) (a := a) (lo := 1) (hi := 3)
      exact sp_next_no (by omega) (by omega) (sp_takeName_no (by omega) (by omega) ⟨v12, sp_next_no (by omega) (by omega) ⟨v5, v5, h0 w _ _ _ _ _ _⟩⟩)
    · have hf := fNm_0 w
      refine rl_next hn hB hr.2.2.1 (fun y sp2 tk2 v2 => sp_takeName_no (b := 1) (by omega) (by omega) ⟨v12, sp_next_no (b := 1) (by omega) (by omega) ⟨v5, v5, ?_⟩⟩) (fun y => ?_)
      · have e : lnH B n s a0 a = (1, tf B n (te B n a), s, te B n a) := by unfold lnH; rw [if_neg (by omega), thn_0 w, thn_n (by rw [fNm_1 (a := te B n a) y]; decide), fNm_1 (a := te B n a) y]
        rw [e] at h0; exact h0 (Nat.succ_ne_zero _) _ _ _ _ _ _
      · refine rl_nm (o := 13 * nsh s.1 + 4) (lo := 2) (hi := 8) hn hB hr.2.2.1 y (by omega) (by omega) (by omega) (by omega) (fun x r => ⟨v12, ?_⟩) (fun x p2' l1 l2 l3 => ⟨v12, ?_⟩)
        · have e : lnH B n s a0 a = (fNm B n 2 8 (te B n a), tf B n (te B n a), s, te B n a) := by unfold lnH; rw [if_neg (by omega), thn_0 w, thn_n x]
          rw [e] at h0
          have h9 := fNm_9 (B := B) (n := n) (a := te B n a) (lo := 2) (hi := 8)
          have x' : ¬ fNm B n 2 8 (te B n a) = 0 := x
          exact sp_next_no (b := fNm B n 2 8 (te B n a)) (by omega) (by omega) ⟨v5, v5, h0 x _ _ _ _ _ _⟩
        · have hu := fNm_0 x
          have e : lnH B n s a0 a = lnS B n (adS B s.1 (tf B n a) (te B n a) (tf B n (te B n a)) (te B n (te B n a)), s.2.1, s.2.2.1, s.2.2.2.1, s.2.2.2.2) (te B n (te B n a)) := by unfold lnH; rw [if_neg (by omega), thn_0 w, thn_0 x]
          refine rl_next hn hB hr2.2.2.1 (fun x2 sp2 tk2 v2 => ⟨v5, v5, ?_⟩) (fun x2 => ⟨v5, v5, ?_⟩)
          · rw [e, lnS_1 (a := te B n (te B n a)) x2] at h0; exact h0 (Nat.succ_ne_zero _) _ _ _ _ _ _
          · rw [nI_1, c12]
            refine h1 _ _ _ _ _ e hr2.2.2.1 x2 _ (fun w' hw' => ?_)
            have e0 : nsh (adS B s.1 (tf B n a) (te B n a) (tf B n (te B n a)) (te B n (te B n a))) = nsh s.1 + 1 := by show adS _ _ _ _ _ _ 0 1 = _; rw [adS_0, if_pos rfl]
            rw [e0] at hw'
            have el : sl (adS B s.1 (tf B n a) (te B n a) (tf B n (te B n a)) (te B n (te B n a))) w' = if w' = nsh s.1 then te B n a - tf B n a else sl s.1 w' := adS_4 w'
            have ev : ll (adS B s.1 (tf B n a) (te B n a) (tf B n (te B n a)) (te B n (te B n a))) w' = if w' = nsh s.1 then te B n (te B n a) - tf B n (te B n a) else ll s.1 w' := adS_6 w'
            rw [el, ev]
            by_cases c : w' = nsh s.1
            · subst c
              rw [if_pos rfl, if_pos rfl, pk_us, pk_un (by omega), l2 _ (by omega), c3, pk_us]
              refine ⟨rfl, rfl, fun k hk => ?_, fun k hk => ?_⟩
              · have hk' : k < te B n a - tf B n a := hk
                rw [pk_un (by omega), l2 _ (by omega), pk_un (by omega), k1 k hk', adS_sc _ k (Nat.le_refl _) (by omega), if_pos rfl]
              · have hk' : k < te B n (te B n a) - tf B n (te B n a) := hk
                have hk8 : k < 8 := by unfold te at hk'; omega
                rw [pk_un (by omega), l1 k hk', adS_lc _ k (Nat.le_refl _) hk8, if_pos rfl]
            · have b := hM w' (by omega)
              have bl := hd.2.2.2.2.2.2.2.1 w' (by omega)
              rw [if_neg c, if_neg c, pk_un (by omega), pk_un (by omega), l2 _ (by omega), l2 _ (by omega), c3, pk_un (by omega), pk_un (by omega), k2 _ (by omega), k2 _ (by omega)]
              refine ⟨b.1, b.2.1, fun k hk => ?_, fun k hk => ?_⟩
              · rw [pk_un (by omega), l2 _ (by omega), pk_un (by omega), k2 _ (by omega), adS_sc _ k (by omega) (by omega), if_neg c]
                exact b.2.2.1 k hk
              · rw [pk_un (by omega), l2 _ (by omega), pk_un (by omega), k2 _ (by omega), adS_lc _ k (by omega) (by omega), if_neg c]
                exact b.2.2.2 k hk
  · unfold wp_X12_fails
    have e : lnH B n s a0 a = (5, tf B n a0, s, a) := by unfold lnH; rw [if_pos (by omega)]
    rw [e] at h0
    exact ⟨fun t => absurd rfl t, fun _ => h0 (Nat.succ_ne_zero _) _ _ _ _ _ _⟩
end
