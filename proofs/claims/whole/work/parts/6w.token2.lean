section
variable {B : Nat → Nat} {n a : Nat} {tape : Nat → Int32}
def bA (B : Nat → Nat) (n k : Nat) : Int32 := if k < n then nI (B k) else -4
theorem sp_byteAt (hn : n ≤ 320) (hB : ∀ k, k < n → B k < 256 ∧ tape k = nI (B k)) {k : Nat} (hk : k ≤ 1000) {post : Int32 → Prop} (h : post (bA B n k)) : wp_X12_byteAt (nI n) tape (nI k) post := by
  unfold wp_X12_byteAt
  rw [nI_leI (by omega) (by omega)]
  unfold bA at h
  refine ⟨fun q => by rw [if_neg (by omega)] at h; exact h, fun q => ⟨(vin_n (by omega)).mpr (by omega), ?_⟩⟩
  rw [if_pos (by omega)] at h
  rw [nI_clamp (by omega), (hB k (by omega)).2]; exact h
theorem sp_inR {lo hi : Int32} {l h' : Nat} (el : lo = nI l) (eh : hi = nI h') (hl : l < 1000) (hh : h' < 1000) (hB : ∀ k, k < n → B k < 256 ∧ tape k = nI (B k)) {k : Nat} {post : Int32 → Prop} (h0 : ¬ (k < n ∧ l ≤ B k ∧ B k ≤ h') → post 0) (h1 : k < n → l ≤ B k → B k ≤ h' → post 1) : wp_X12_in (bA B n k).toInt64 lo.toInt64 hi.toInt64 post := by
  subst el; subst eh
  unfold bA
  split
  · rename_i q
    have := (hB k q).1
    refine sp_X12_in (a := nI l) (b := nI h') (fun c => h0 (fun z => c ?_)) (fun c => ?_)
    · rw [nI_leI (by omega) (by omega), nI_leI (by omega) (by omega)]; exact z.2
    · rw [nI_leI (by omega) (by omega), nI_leI (by omega) (by omega)] at c; exact h1 q c.1 c.2
  · rename_i q
    refine sp_X12_in (a := nI l) (b := nI h') (fun c => h0 (fun z => q z.1)) (fun c => ?_)
    exfalso
    have := c.1
    rw [T_le, nI_T (by omega)] at this
    have e4 : (-4 : Int32).toInt = -4 := rfl
    omega
theorem sp_X12_next (hn : n ≤ 320) (hB : ∀ k, k < n → B k < 256 ∧ tape k = nI (B k)) (ha : a ≤ n) {bra he to va : Int32} {post : Int32 → Int32 → Int32 → Int32 → Int32 → Int32 → Prop} (h0 : (tkn B n a).1 = 0 → ∀ sp tk v, post 1 (nI (tkn B n a).2.1) sp (nI (tkn B n a).2.1) tk v) (h1 : ¬ (tkn B n a).1 = 0 → post 0 bra (nI (tkn B n a).2.2.1) (nI (tkn B n a).2.1) (nI ((tkn B n a).1 - 1)) (nI (tkn B n a).2.2.2)) : wp_X12_next (nI n) 0 bra (nI a) he to va tape post := by
  have hr : a ≤ tkf B n a ∧ tkf B n a ≤ n := rnp_rng (p := fun k => B k == 32) ha
  have hfl : tkf B n a < n → ¬ B (tkf B n a) = 32 := fun q w => by
    have := rnp_out (p := fun k => B k == 32) (n := n) (a := a) q
    have : (B (tkf B n a) == 32) = false := this
    rw [w] at this; exact absurd this (by decide)
  generalize hf : tkf B n a = f at hr hfl
  unfold tkn at h0 h1
  rw [hf] at h0 h1
  unfold wp_X12_next
  refine ⟨fun _ => ?_, fun q => absurd (by decide) q⟩
  refine fix_rn (p := fun k => B k == 32) (n := n) ha hn (fun K k k1 k2 k3 hK => ?_) (fun K => ?_)
  · unfold F_X12_next_8
    dsimp only
    refine sp_byteAt hn hB (by omega) ?_
    have e : B k = 32 := by simpa using k3
    unfold bA
    rw [if_pos k2, e, nI_1]
    exact ⟨fun t => absurd rfl t, fun _ => hK⟩
  · rw [show rnp (fun k => B k == 32) n a = f from hf]
    unfold F_X12_next_8
    dsimp only
    refine sp_byteAt hn hB (by omega) ⟨fun _ => sp_byteAt hn hB (by omega) ⟨fun z => ?_, fun z => ?_⟩, fun z => ?_⟩
    · -- a byte
      have hfn : f < n := Classical.byContradiction (fun q => z (by unfold bA; rw [if_neg q]))
      have hBf := hB f hfn
      rw [if_neg (by omega)] at h0 h1
      refine sp_inR (lo := 97) (hi := 122) (l := 97) (h' := 122) rfl rfl (by omega) (by omega) hB (fun nl => ⟨fun _ => sp_inR (lo := 48) (hi := 57) (l := 48) (h' := 57) rfl rfl (by omega) (by omega) hB (fun ndg => ⟨fun _ => ?_, fun w => absurd rfl w⟩) (fun _ d1 d2 => ⟨fun w => absurd w (by decide), fun _ => ?_⟩), fun w => absurd rfl w⟩) (fun _ l1 l2 => ⟨fun w => absurd w (by decide), fun _ => ?_⟩)
      · -- a sign, or what is none
        have eb : bA B n f = nI (B f) := if_pos hfn
        have nl' : ¬ (isLt (B f) = true) := fun w => nl (by have := isLt_iff.mp w; omega)
        rw [eb, i59, nI_eq (by omega) (by omega), nI_1]
        refine ⟨fun w => ?_, fun w => ?_⟩
        · rw [if_pos w] at h1; exact h1 (fun t => absurd (show (4 : Nat) = 0 from t) (by decide))
        · rw [if_neg w, if_neg nl'] at h0
          have hre : ¬ (f < rnp (fun k => isDg (B k)) n f) := fun t => by
            have := isDg_iff.mp (rnp_in (p := fun k => isDg (B k)) (Nat.le_refl f) t); omega
          rw [if_neg (fun t => hre t.1)] at h0
          unfold wp_X12_fails
          exact ⟨fun t => absurd rfl t, fun _ => h0 rfl _ _ _⟩
      · -- a number
        have nl' : ¬ (isLt (B f) = true) := fun w => nl (by have := isLt_iff.mp w; omega)
        rw [if_neg (by omega), if_neg nl'] at h0 h1
        have hr2 := rnp_rng (p := fun k => isDg (B k)) hr.2
        have hin : ∀ k, f ≤ k → k < rnp (fun k => isDg (B k)) n f → isDg (B k) = true := fun k h1 h2 => rnp_in (p := fun k => isDg (B k)) h1 h2
        have hout : rnp (fun k => isDg (B k)) n f < n → isDg (B (rnp (fun k => isDg (B k)) n f)) = false := fun q => rnp_out (p := fun k => isDg (B k)) q
        have hfe : f < rnp (fun k => isDg (B k)) n f := by
          rcases Nat.lt_or_ge f (rnp (fun k => isDg (B k)) n f) with y | y
          · exact y
          · have e : rnp (fun k => isDg (B k)) n f = f := by omega
            have := hout (by omega)
            rw [e] at this
            rw [isDg_iff.mpr ⟨d1, by omega⟩] at this; exact absurd this (by decide)
        generalize rnp (fun k => isDg (B k)) n f = e at h0 h1 hr2 hin hout hfe
        refine fix_iv (fun k v => v.1 = nI (f + k) ∧ v.2 = nI (vlN B f (min k 3))) (e - f) (fun K k v hk hI hK => ?_) 0 (by omega) ⟨rfl, rfl⟩
        obtain ⟨x1, x2⟩ := v
        obtain ⟨e1, e2⟩ := hI
        dsimp only at e1 e2
        subst e1; subst e2
        unfold F_X12_next_140 B_X12_next_201
        dsimp only
        have es : nI (f + k) - nI f = nI k := by rw [pk_sub (by omega)]; congr 1; omega
        rw [es, i3, nI_leI (by omega) (by omega), nI_leI (by omega) (by omega), nI_1]
        refine sp_byteAt hn hB (by omega) (sp_inR (lo := 48) (hi := 57) (l := 48) (h' := 57) rfl rfl (by omega) (by omega) hB (fun nd => ⟨fun _ => ?_, fun w => absurd rfl w⟩) (fun t1 t2 t3 => ⟨fun w => absurd w (by decide), fun _ => ?_⟩))
        · have ek : k = e - f := by
            rcases Nat.lt_or_ge k (e - f) with y | y
            · exact absurd (by have := isDg_iff.mp (hin (f + k) (by omega) (by omega)); omega) nd
            · omega
          have ef : f + k = e := by omega
          rw [ef]
          refine ⟨fun w => ?_, fun w => ?_⟩
          · rw [if_pos ⟨hfe, by omega⟩] at h1
            rw [show min k 3 = e - f by omega]
            exact h1 (fun t => absurd (show (3 : Nat) = 0 from t) (by decide))
          · rw [if_neg (by omega)] at h0
            unfold wp_X12_fails
            exact ⟨fun t => absurd rfl t, fun _ => h0 rfl _ _ _⟩
        · have hke : k < e - f := by
            rcases Nat.lt_or_ge k (e - f) with y | y
            · exact y
            · have ef : f + k = e := by omega
              have := isDg_no (hout (by omega))
              rw [ef] at t2 t3; omega
          have hK := hK hke
          refine ⟨fun w => hK _ ⟨rfl, by dsimp only; rw [show min (k + 1) 3 = min k 3 by omega]⟩, fun w => sp_byteAt hn hB (by omega) ?_⟩
          have eb : bA B n (f + k) = nI (B (f + k)) := if_pos t1
          rw [eb, i10, pk_mul, nI_add, i48, pk_sub (by omega)]
          refine hK _ ⟨rfl, ?_⟩
          dsimp only
          rw [show min (k + 1) 3 = k + 1 by omega, show min k 3 = k by omega, vlN]
          congr 1; omega
      · -- a name
        have l' : isLt (B f) = true := isLt_iff.mpr ⟨l1, by omega⟩
        rw [if_neg (by omega), if_pos l'] at h1
        have hr2 := rnp_rng (p := fun k => isLt (B k)) hr.2
        have hp := h1 (fun t => absurd (show (2 : Nat) = 0 from t) (by decide))
        refine fix_rn (p := fun k => isLt (B k)) (n := n) hr.2 hn (fun K k k1 k2 k3 hK => ?_) (fun K => ?_)
        · unfold F_X12_next_84
          dsimp only
          rw [nI_1]
          refine sp_byteAt hn hB (by omega) (sp_inR (lo := 97) (hi := 122) (l := 97) (h' := 122) rfl rfl (by omega) (by omega) hB (fun t => ?_) (fun _ _ _ => ⟨fun t => absurd t (by decide), fun _ => hK⟩))
          exact absurd (by have := isLt_iff.mp k3; omega) t
        · unfold F_X12_next_84
          dsimp only
          refine sp_byteAt hn hB (by omega) (sp_inR (lo := 97) (hi := 122) (l := 97) (h' := 122) rfl rfl (by omega) (by omega) hB (fun t => ⟨fun _ => hp, fun w => absurd rfl w⟩) (fun t1 t2 t3 => ?_))
          have := isLt_no (rnp_out (p := fun k => isLt (B k)) t1)
          omega
    · -- the end
      have hfn : ¬ f < n := fun q => by unfold bA at z; rw [if_pos q] at z; exact nI_ne_ng (b := 4) (by have := (hB f q).1; omega) (by decide) (by decide) z
      rw [if_pos hfn] at h1
      exact h1 (fun t => absurd (show (1 : Nat) = 0 from t) (by decide))
    · exfalso
      unfold bA at z
      split at z
      · rename_i q
        rw [show (32 : Int32) = nI 32 from rfl, nI_eq (by have := (hB f q).1; omega) (by omega)] at z
        exact hfl q z
      · exact absurd z (by decide)
end
