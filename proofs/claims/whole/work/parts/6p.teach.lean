/-! to teach all letters -/
def dif (m l : Nat) : Nat := m ^^^ (m &&& l)
theorem nI_dif (m l : Nat) : nI m &&& (nI l ^^^ (-1)) = nI (dif m l) := by
  unfold dif
  apply Int32.toBitVec_inj.1
  rw [Int32.toBitVec_and, Int32.toBitVec_xor, nI_bv, nI_bv, nI_bv, show (-1 : Int32).toBitVec = BitVec.allOnes 32 from by decide]
  apply BitVec.eq_of_getLsbD_eq
  intro i hi
  simp only [BitVec.getLsbD_and, BitVec.getLsbD_xor, BitVec.getLsbD_ofNat, Nat.testBit_xor, Nat.testBit_and, BitVec.getLsbD_allOnes, hi, decide_true, Bool.true_and]
  cases m.testBit i <;> cases l.testBit i <;> rfl
theorem sh20 {k : Nat} (h : k < 81) : lN k <<< ((20 : Int32).toInt64 &&& 63) = lN (k * 2 ^ 20) := by
  have : ∀ j : Fin 81, lN j.val <<< ((20 : Int32).toInt64 &&& 63) = lN (j.val * 2 ^ 20) := by decide +kernel
  exact this ⟨k, h⟩
theorem lbv (n : Nat) : (lN n).toBitVec = BitVec.ofNat 64 n := rfl
theorem and1023 (n : Nat) (h : n < 2 ^ 63) : (lN n &&& 1023).toInt32 = nI (n % 1024) := by
  have e : lN n &&& 1023 = lN (n % 1024) := by
    apply Int64.toBitVec_inj.mp
    apply BitVec.eq_of_toNat_eq
    rw [Int64.toBitVec_and, BitVec.toNat_and, lbv, lbv, BitVec.toNat_ofNat, BitVec.toNat_ofNat, show (1023 : Int64).toBitVec.toNat = 2 ^ 10 - 1 from by decide, Nat.and_two_pow_sub_one_eq_mod]
    omega
  rw [e, lN_i]
theorem shr20 (n : Nat) (h : n < 2 ^ 63) : (lN n >>> ((20 : Int32).toInt64 &&& 63)).toInt32 = nI (n / 2 ^ 20) := by
  have e : lN n >>> ((20 : Int32).toInt64 &&& 63) = lN (n / 2 ^ 20) := by
    apply Int64.toInt_inj.mp
    have e1 : (lN n >>> ((20 : Int32).toInt64 &&& 63)).toInt = (lN n).toInt >>> 20 := by
      show ((lN n).toBitVec.sshiftRight (((20 : Int32).toInt64 &&& 63).toBitVec.smod 64).toNat).toInt = _
      rw [show (((20 : Int32).toInt64 &&& 63).toBitVec.smod 64).toNat = 20 from by decide, BitVec.toInt_sshiftRight]
      rfl
    have h2 : n / 2 ^ 20 ≤ n := Nat.div_le_self _ _
    rw [e1, lN_T h, lN_T (by omega), Int.shiftRight_eq_div_pow]
    rfl
  rw [e, lN_i]
def mor (d : PD) (T : Nat → Nat) (w : Nat) : Nat := kw d T w * 2 ^ 20 + 2 ^ 12 + 2 ^ w
def NOL : Nat := 1099511627776
def ls (d : PD) (T : Nat → Nat) : Nat → Nat → Nat → Nat
  | 0, m, ch => if m = 0 then ch else NOL
  | k + 1, m, ch => if m = 0 then ch else if wm d (nw d - (k + 1)) &&& m = 0 then ls d T k m ch else if ls d T k (dif m (wm d (nw d - (k + 1)))) (ch + mor d T (nw d - (k + 1))) < ls d T k m ch then ls d T k (dif m (wm d (nw d - (k + 1)))) (ch + mor d T (nw d - (k + 1))) else ls d T k m ch
def lf (d : PD) (b : Nat → Bool) : Nat → Nat
  | 0 => 0
  | k + 1 => (if b (nw d - (k + 1)) then wm d (nw d - (k + 1)) else 0) ||| lf d b k
def sf (d : PD) (T : Nat → Nat) (b : Nat → Bool) : Nat → Nat
  | 0 => 0
  | k + 1 => (if b (nw d - (k + 1)) then mor d T (nw d - (k + 1)) else 0) + sf d T b k
def sbt (m l : Nat) : Prop := ∀ i, m.testBit i = true → l.testBit i = true
theorem m0 {m : Nat} : m = 0 ↔ ∀ i, m.testBit i = false := ⟨fun h i => by rw [h]; exact Nat.zero_testBit i, fun h => Nat.eq_of_testBit_eq (fun i => by rw [h i, Nat.zero_testBit])⟩
theorem dif_b (m l i : Nat) : (dif m l).testBit i = (m.testBit i && !l.testBit i) := by
  unfold dif; rw [Nat.testBit_xor, Nat.testBit_and]; cases m.testBit i <;> cases l.testBit i <;> rfl
section
variable {d : PD} {T : Nat → Nat}
theorem ls_le : ∀ k m ch (b : Nat → Bool), sbt m (lf d b k) → ls d T k m ch ≤ ch + sf d T b k
  | 0, m, ch, b, h => by
    have : m = 0 := m0.mpr (fun i => by
      cases q : m.testBit i with
      | false => rfl
      | true => have := h i q; unfold lf at this; rw [Nat.zero_testBit] at this; exact this.symm)
    unfold ls; rw [if_pos this]; exact Nat.le_add_right _ _
  | k + 1, m, ch, b, h => by
    unfold ls sf
    split
    · exact Nat.le_add_right _ _
    · rename_i hm
      unfold lf at h
      by_cases hb : b (nw d - (k + 1)) = true
      · rw [if_pos hb] at h ⊢
        by_cases hz : wm d (nw d - (k + 1)) &&& m = 0
        · rw [if_pos hz]
          have ih := ls_le k m ch b (fun i hi => by
            have h1 := h i hi
            have h2 := (m0.mp hz) i
            rw [Nat.testBit_and, hi, Bool.and_true] at h2
            rw [Nat.testBit_or, h2, Bool.false_or] at h1; exact h1)
          omega
        · rw [if_neg hz]
          have ih := ls_le k (dif m (wm d (nw d - (k + 1)))) (ch + mor d T (nw d - (k + 1))) b (fun i hi => by
            rw [dif_b] at hi
            have hi1 : m.testBit i = true := by cases q : m.testBit i <;> simp_all
            have hi2 : (wm d (nw d - (k + 1))).testBit i = false := by cases q : (wm d (nw d - (k + 1))).testBit i <;> simp_all
            have h1 := h i hi1
            rw [Nat.testBit_or, hi2, Bool.false_or] at h1; exact h1)
          split <;> omega
      · rw [if_neg hb] at h ⊢
        have ih := ls_le k m ch b (fun i hi => by have h1 := h i hi; rw [Nat.zero_or] at h1; exact h1)
        split
        · omega
        · split <;> omega
theorem lf_cong {b b' : Nat → Bool} : ∀ k, (∀ j, j < k → b (nw d - (j + 1)) = b' (nw d - (j + 1))) → lf d b k = lf d b' k ∧ sf d T b k = sf d T b' k
  | 0, _ => ⟨rfl, rfl⟩
  | k + 1, h => by
    have ih := lf_cong k (fun j hj => h j (by omega))
    unfold lf sf
    rw [h k (by omega), ih.1, ih.2]
    exact ⟨rfl, rfl⟩
theorem ls_at : ∀ k m ch, k ≤ nw d → ls d T k m ch = NOL ∨ ∃ b, sbt m (lf d b k) ∧ ls d T k m ch = ch + sf d T b k
  | 0, m, ch, _ => by
    unfold ls
    split
    · rename_i q; exact Or.inr ⟨fun _ => false, fun i hi => by rw [q, Nat.zero_testBit] at hi; exact absurd hi (by decide), rfl⟩
    · exact Or.inl rfl
  | k + 1, m, ch, hk => by
    unfold ls
    have fal : ∀ j, sf d T (fun _ => false) j = 0 := fun j => by
      induction j with
      | zero => rfl
      | succ j ih => unfold sf; rw [ih]; rfl
    have put : ∀ (b : Nat → Bool) (y : Bool), lf d (fun i => if i = nw d - (k + 1) then y else b i) k = lf d b k ∧ sf d T (fun i => if i = nw d - (k + 1) then y else b i) k = sf d T b k := fun b y => lf_cong k (fun j hj => if_neg (by omega))
    split
    · rename_i q; exact Or.inr ⟨fun _ => false, fun i hi => by rw [q, Nat.zero_testBit] at hi; exact absurd hi (by decide), by rw [fal]; rfl⟩
    · have ih1 := ls_at k m ch (by omega)
      have ih2 := ls_at k (dif m (wm d (nw d - (k + 1)))) (ch + mor d T (nw d - (k + 1))) (by omega)
      have use1 : ls d T k m ch = NOL ∨ ∃ b, sbt m (lf d b (k + 1)) ∧ ls d T k m ch = ch + sf d T b (k + 1) := by
        rcases ih1 with z | ⟨b, z1, z2⟩
        · exact Or.inl z
        · refine Or.inr ⟨fun i => if i = nw d - (k + 1) then false else b i, fun i hi => ?_, ?_⟩
          · rw [lf, (put b false).1, Nat.testBit_or, z1 i hi, Bool.or_true]
          · rw [sf, (put b false).2, if_pos rfl, z2]; simp
      split
      · exact use1
      · split
        · rcases ih2 with z | ⟨b, z1, z2⟩
          · exact Or.inl z
          · refine Or.inr ⟨fun i => if i = nw d - (k + 1) then true else b i, fun i hi => ?_, ?_⟩
            · rw [lf, (put b true).1, if_pos rfl, if_pos rfl, Nat.testBit_or]
              cases q : (wm d (nw d - (k + 1))).testBit i with
              | true => rfl
              | false => rw [z1 i (by rw [dif_b, hi, q]; rfl)]; rfl
            · rw [sf, (put b true).2, if_pos rfl, if_pos rfl, z2]; omega
        · exact use1
theorem sf_sum {b : Nat → Bool} : ∀ k, k ≤ nw d → sumN (fun w => if b w then mor d T w else 0) (nw d - k) + sf d T b k = sumN (fun w => if b w then mor d T w else 0) (nw d) ∧ orN (fun w => if b w then wm d w else 0) (nw d - k) ||| lf d b k = orN (fun w => if b w then wm d w else 0) (nw d)
  | 0, _ => ⟨rfl, Nat.or_zero _⟩
  | k + 1, h => by
    have ih := sf_sum (b := b) k (by omega)
    have e : nw d - k = (nw d - (k + 1)) + 1 := by omega
    rw [e, sumN, orN] at ih
    rw [← ih.1, ← ih.2, sf, lf]
    exact ⟨by omega, (Nat.or_assoc _ _ _).symm⟩
theorem ls_b (hd : okP d) (hc : cov d T) : ∀ k m ch, k ≤ nw d → ls d T k m ch ≤ NOL + ch + k * 134217728
  | 0, m, ch, _ => by unfold ls; split <;> omega
  | k + 1, m, ch, hk => by
    have h10 := hd.1
    have i1 := ls_b hd hc k m ch (by omega)
    have i2 := ls_b hd hc k (dif m (wm d (nw d - (k + 1)))) (ch + mor d T (nw d - (k + 1))) (by omega)
    have hk := kw_le hd hc (show nw d - (k + 1) < nw d by omega)
    have hp : 2 ^ (nw d - (k + 1)) ≤ 2 ^ 10 := Nat.pow_le_pow_right (by omega) (by omega)
    have hm : mor d T (nw d - (k + 1)) ≤ 134217728 := by unfold mor; omega
    rw [Nat.succ_mul]
    generalize k * 134217728 = z at *
    unfold ls
    split
    · omega
    · split
      · omega
      · split <;> omega
theorem sp_least (hd : okP d) (hc : cov d T) {ms kk : Nat → Int32} (hXM : XM d ms) (hkk : ∀ w, w < nw d → kk w = nI (kw d T w)) : ∀ k f m ch (post : Int64 → Prop), k ≤ nw d → k < f → m < 2 ^ 26 → ch + k * 134217728 ≤ 2147483648 → post (lN (ls d T k m ch)) → wp_X11_leastLesson f 10 10 (nI (nw d)) kk ms (nI (nw d - k)) (nI m) (lN ch) post := by
  have h10 := hd.1
  intro k
  induction k with
  | zero =>
    intro f m ch post hk hf hm hch h
    obtain ⟨f, rfl⟩ : ∃ g, f = g + 1 := ⟨f - 1, by omega⟩
    show wpB_X11_leastLesson _ _ _ _ _ _ _ _ _ _
    unfold wpB_X11_leastLesson
    rw [i0, nI_eq (by omega) (by omega), nI_leI (by omega) (by omega)]
    unfold ls at h
    refine ⟨fun q => ⟨fun _ => by rw [if_neg q] at h; exact h, fun q2 => absurd (by omega) q2⟩, fun q => by rw [if_pos q] at h; exact h⟩
  | succ k ih =>
    intro f m ch post hk hf hm hch h
    obtain ⟨f, rfl⟩ : ∃ g, f = g + 1 := ⟨f - 1, by omega⟩
    show wpB_X11_leastLesson _ _ _ _ _ _ _ _ _ _
    have hw : nw d - (k + 1) < nw d := by omega
    have hkw := kw_le hd hc hw
    have hwm := wm_lt hd hw
    have hp : 2 ^ (nw d - (k + 1)) ≤ 2 ^ 10 := Nat.pow_le_pow_right (by omega) (by omega)
    have hmo : mor d T (nw d - (k + 1)) ≤ 134217728 := by unfold mor; omega
    have hdl : dif m (wm d (nw d - (k + 1))) < 2 ^ 26 := by unfold dif; exact Nat.xor_lt_two_pow hm (Nat.and_lt_two_pow _ hwm)
    have hal : wm d (nw d - (k + 1)) &&& m < 2 ^ 26 := Nat.and_lt_two_pow _ hm
    have b1 := ls_b hd hc k m ch (by omega)
    have b2 := ls_b hd hc k (dif m (wm d (nw d - (k + 1)))) (ch + mor d T (nw d - (k + 1))) (by omega)
    have e1 : nI (nw d - (k + 1)) + 1 = nI (nw d - k) := by rw [nI_1]; congr 1; omega
    have hN : NOL = 1099511627776 := rfl
    unfold wpB_X11_leastLesson
    rw [e1, nI_clamp (by omega), hXM _ hw, hkk _ hw, nI_and, nI_dif, nI_l (by omega), sh20 (by omega), one_shl (by omega), nI_l (by omega), show (4096 : Int64) = lN 4096 from rfl, lN_add, lN_add, lN_add, i0, nI_eq (by omega) (by omega), nI_eq (by omega) (by omega), nI_leI (by omega) (by omega), i10, nI_ltI (by omega) (by omega)]
    unfold ls at h
    refine ⟨fun q => ⟨fun q2 => absurd q2 (by omega), fun _ => ⟨fun _ => ?_, fun q2 => absurd (by omega) q2⟩⟩, fun q => by rw [if_pos q] at h; exact h⟩
    rw [if_neg q] at h
    have v10 : vp_in (nI (nw d - (k + 1))) 10 := (vin_n (by omega)).mpr (by omega)
    have c1 : ch + mor d T (nw d - (k + 1)) + k * 134217728 ≤ 2147483648 := by omega
    have c2 : ls d T k m ch < 2 ^ 63 := by omega
    have c3 : ls d T k (dif m (wm d (nw d - (k + 1)))) (ch + mor d T (nw d - (k + 1))) < 2 ^ 63 := by omega
    have c4 : k ≤ nw d := by omega
    have c5 : k < f := by omega
    have c0 : ch + k * 134217728 ≤ 2147483648 := by rw [Nat.succ_mul] at hch; generalize k * 134217728 = z at *; omega
    refine ih f m ch _ c4 c5 hm c0 ⟨v10, fun z => ⟨v10, ?_⟩, fun z => ?_⟩
    · rw [if_neg z] at h
      refine ih f _ (ch + mor d T (nw d - (k + 1))) _ c4 c5 hdl c1 ?_
      by_cases y : ls d T k (dif m (wm d (nw d - (k + 1)))) (ch + mor d T (nw d - (k + 1))) < ls d T k m ch
      · rw [if_pos ((pk_lLT c3 c2).mpr y)]; rw [if_pos y] at h; exact h
      · rw [if_neg (fun t => y ((pk_lLT c3 c2).mp t))]; rw [if_neg y] at h; exact h
    · rw [if_pos z] at h; exact h
end
