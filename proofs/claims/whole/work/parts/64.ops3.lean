def toldv (ru : Nat → Int32) (x : Int32) : Int32 := if x = 0 then ru 5 else if x = 1 then ru 6 else if x = 2 then ru 0 else if x = 3 then ru 1 else if x = 4 then ru 2 else if x = 5 then ru 3 else if x = 6 then ru 4 else if x = 7 then ru 7 else -1
theorem sp_X12_told {ru : Nat → Int32} {x : Int32} {post : Int32 → Prop} (h : post (toldv ru x)) : wp_X12_told ru x post := by
    unfold wp_X12_told
    refine ⟨fun c => ?_, fun c => ?_, fun c => ?_, fun c => ?_, fun c => ?_, fun c => ?_, fun c => ?_, fun c => ?_, fun n0 n1 n2 n3 n4 n5 n6 n7 => ?_⟩
    · subst c; unfold toldv at h; rw [if_pos rfl] at h; exact ⟨by unfold vp_in; decide, h⟩
    · subst c; unfold toldv at h; rw [if_neg (by decide), if_pos rfl] at h; exact ⟨by unfold vp_in; decide, h⟩
    · subst c; unfold toldv at h; rw [if_neg (by decide), if_neg (by decide), if_pos rfl] at h; exact ⟨by unfold vp_in; decide, h⟩
    · subst c; unfold toldv at h; rw [if_neg (by decide), if_neg (by decide), if_neg (by decide), if_pos rfl] at h; exact ⟨by unfold vp_in; decide, h⟩
    · subst c; unfold toldv at h; rw [if_neg (by decide), if_neg (by decide), if_neg (by decide), if_neg (by decide), if_pos rfl] at h; exact ⟨by unfold vp_in; decide, h⟩
    · subst c; unfold toldv at h; rw [if_neg (by decide), if_neg (by decide), if_neg (by decide), if_neg (by decide), if_neg (by decide), if_pos rfl] at h; exact ⟨by unfold vp_in; decide, h⟩
    · subst c; unfold toldv at h; rw [if_neg (by decide), if_neg (by decide), if_neg (by decide), if_neg (by decide), if_neg (by decide), if_neg (by decide), if_pos rfl] at h; exact ⟨by unfold vp_in; decide, h⟩
    · subst c; unfold toldv at h; rw [if_neg (by decide), if_neg (by decide), if_neg (by decide), if_neg (by decide), if_neg (by decide), if_neg (by decide), if_neg (by decide), if_pos rfl] at h; exact ⟨by unfold vp_in; decide, h⟩
    · unfold toldv at h; rw [if_neg n0, if_neg n1, if_neg n2, if_neg n3, if_neg n4, if_neg n5, if_neg n6, if_neg n7] at h; exact h
def XS (d : PD) (gu le mo kn pa ga : Int32) : Prop := gu = nI (d 0 7) ∧ le = nI (d 0 2) ∧ mo = nI (d 0 3) ∧ kn = nI (d 0 4) ∧ pa = nI (d 0 5) ∧ ga = nI (d 0 6)
def MS (d : PD) (ru : Nat → Int32) : Prop := ru 0 = nI (d 0 2) ∧ ru 1 = nI (d 0 3) ∧ ru 2 = nI (d 0 4) ∧ ru 3 = nI (d 0 5) ∧ ru 4 = nI (d 0 6) ∧ ru 5 = nI (d 0 0) ∧ ru 6 = nI (d 0 1) ∧ ru 7 = nI (d 0 7)
theorem sim_told {d : PD} {ru : Nat → Int32} {gu le mo kn pa ga sn wn : Int32} (hX : XS d gu le mo kn pa ga) (hs : sn = nI (d 0 1)) (hw : wn = nI (d 0 0)) (hM : MS d ru) (x : Int32) : wp_X11_told gu le mo kn pa ga sn wn x (fun r => wp_X12_told ru x (fun r' => r = r')) := by
  unfold wp_X11_told
  refine ⟨fun c => ?_, fun c => ?_, fun c => ?_, fun c => ?_, fun c => ?_, fun c => ?_, fun c => ?_, fun c => ?_, fun n0 n1 n2 n3 n4 n5 n6 n7 => ?_⟩ <;> refine sp_X12_told ?_
  · subst c; unfold toldv; rw [if_pos rfl]; exact (hw).trans (hM.2.2.2.2.2.1).symm
  · subst c; unfold toldv; rw [if_neg (by decide), if_pos rfl]; exact (hs).trans (hM.2.2.2.2.2.2.1).symm
  · subst c; unfold toldv; rw [if_neg (by decide), if_neg (by decide), if_pos rfl]; exact (hX.2.1).trans (hM.1).symm
  · subst c; unfold toldv; rw [if_neg (by decide), if_neg (by decide), if_neg (by decide), if_pos rfl]; exact (hX.2.2.1).trans (hM.2.1).symm
  · subst c; unfold toldv; rw [if_neg (by decide), if_neg (by decide), if_neg (by decide), if_neg (by decide), if_pos rfl]; exact (hX.2.2.2.1).trans (hM.2.2.1).symm
  · subst c; unfold toldv; rw [if_neg (by decide), if_neg (by decide), if_neg (by decide), if_neg (by decide), if_neg (by decide), if_pos rfl]; exact (hX.2.2.2.2.1).trans (hM.2.2.2.1).symm
  · subst c; unfold toldv; rw [if_neg (by decide), if_neg (by decide), if_neg (by decide), if_neg (by decide), if_neg (by decide), if_neg (by decide), if_pos rfl]; exact (hX.2.2.2.2.2).trans (hM.2.2.2.2.1).symm
  · subst c; unfold toldv; rw [if_neg (by decide), if_neg (by decide), if_neg (by decide), if_neg (by decide), if_neg (by decide), if_neg (by decide), if_neg (by decide), if_pos rfl]; exact (hX.1).trans (hM.2.2.2.2.2.2.2).symm
  · unfold toldv; rw [if_neg n0, if_neg n1, if_neg n2, if_neg n3, if_neg n4, if_neg n5, if_neg n6, if_neg n7]
/-! THE TAPE -/
def sx (b : Nat) : Int32 := (nI b).toInt8.toInt32
theorem sx_small : ∀ b, b < 128 → sx b = nI b := by
  have : ∀ j : Fin 128, sx j.val = nI j.val := by decide +kernel
  exact fun b h => this ⟨b, h⟩
theorem sx_big : ∀ b, b < 256 → 128 ≤ b → sx b < 0 := by
  have : ∀ j : Fin 256, 128 ≤ j.val → sx j.val < 0 := by decide +kernel
  exact fun b h => this ⟨b, h⟩
theorem sx_eq {b c : Nat} (hb : b < 256) (hc : c < 128) : sx b = nI c ↔ b = c := by
  rcases Nat.lt_or_ge b 128 with h | h
  · rw [sx_small b h, nI_eq (by omega) (by omega)]
  · have := sx_big b hb h
    exact ⟨fun e => absurd this (by rw [e]; exact nI_pos (by omega)), fun e => by omega⟩
theorem sx_lt {b c : Nat} (hb : b < 256) (hc : c < 128) : sx b < nI c ↔ (b < c ∨ 128 ≤ b) := by
  rcases Nat.lt_or_ge b 128 with h | h
  · rw [sx_small b h, nI_ltI (by omega) (by omega)]; omega
  · have h1 := sx_big b hb h
    have h2 := nI_nn (n := c) (by omega)
    rw [T_lt] at h1 ⊢
    rw [T_le] at h2
    exact ⟨fun _ => Or.inr h, fun _ => Int.lt_of_lt_of_le h1 h2⟩
theorem lt_sx {b c : Nat} (hb : b < 256) (hc : c < 128) : nI c < sx b ↔ (c < b ∧ b < 128) := by
  rcases Nat.lt_or_ge b 128 with h | h
  · rw [sx_small b h, nI_ltI (by omega) (by omega)]; omega
  · have h1 := sx_big b hb h
    have h2 := nI_nn (n := c) (by omega)
    rw [T_lt] at h1 ⊢
    rw [T_le] at h2
    have z : (0 : Int32).toInt = 0 := rfl
    constructor
    · intro q; omega
    · intro q; omega
theorem sx_let {b : Nat} (hb : b < 256) : vp_in (sx b - 97) 26 ↔ (97 ≤ b ∧ b < 123) := by
  rcases Nat.lt_or_ge b 128 with h | h
  · rw [sx_small b h, i97]
    rcases Nat.lt_or_ge b 97 with q | q
    · refine ⟨fun z => ?_, fun z => by omega⟩
      exact absurd (Or.inl (pk_sneg (by omega) q)) z
    · rw [pk_sub q, vin_n (by omega)]; omega
  · have h1 := sx_big b hb h
    refine ⟨fun z => ?_, fun z => by omega⟩
    obtain ⟨k, hk, e⟩ := vin_ex (by decide) z
    obtain ⟨c, ec⟩ := T_sub (sx b) 97
    rw [e, nI_T (by omega)] at ec
    have r := T_rng (sx b)
    rw [T_lt] at h1
    have z0 : (0 : Int32).toInt = 0 := rfl
    have z97 : (97 : Int32).toInt = 97 := rfl
    omega
def RT (n : Nat) (B : Nat → Nat) (size : Int32) (bytes : Nat → Int32) (taped : Int32) (tape : Nat → Int32) : Prop := n ≤ 320 ∧ size = nI n ∧ taped = nI n ∧ ∀ k, k < n → B k < 256 ∧ bytes k = sx (B k) ∧ tape k = nI (B k)
theorem sim_end {n : Nat} {B : Nat → Nat} {size taped : Int32} {bytes tape : Nat → Int32} (h : RT n B size bytes taped tape) (x : Int32) : wp_X11_end size x (fun r size' => wp_X12_end taped x (fun r' taped' => r = r' ∧ ∃ n', RT n' B size' bytes taped' tape)) := by
  obtain ⟨h1, h2, h3, h4⟩ := h
  subst h2; subst h3
  unfold wp_X11_end wp_X12_end
  refine ⟨fun c => ?_, fun c => ⟨fun c2 => ?_, fun c2 => ?_⟩⟩
  · exact sp_X12_in (a := 0) (fun _ => ⟨fun q => absurd rfl q, fun _ => ⟨rfl, n, h1, rfl, rfl, h4⟩⟩) (fun q => absurd c (by have := q.1; rw [T_le] at this; rw [T_lt]; omega))
  · obtain ⟨k, hk, rfl⟩ := nI_of c
    rw [nI_leI (by omega) (by omega)] at c2
    exact sp_X12_in (a := 0) (fun q => absurd ⟨nI_nn (by omega), (nI_leI (by omega) (by omega)).mpr c2⟩ q) (fun _ => ⟨fun _ => ⟨rfl, k, by omega, rfl, rfl, fun j hj => h4 j (by omega)⟩, fun q => absurd q (by decide)⟩)
  · exact sp_X12_in (a := 0) (fun _ => ⟨fun q => absurd rfl q, fun _ => ⟨rfl, n, h1, rfl, rfl, h4⟩⟩) (fun q => absurd q.2 c2)
theorem fa_byte_low (x : Int32) : (x &&& 255).toInt8 = x.toInt8 := by
  apply Int8.toBitVec_inj.1
  apply BitVec.eq_of_getLsbD_eq
  intro i hi
  have h2 : (255 : Int32).toBitVec.getLsbD i = true := by
    have : ∀ j : Fin 8, (255 : Int32).toBitVec.getLsbD j.val = true := by decide +kernel
    exact this ⟨i, hi⟩
  have h4 : (x &&& 255).toBitVec.getLsbD i = x.toBitVec.getLsbD i := by
    show (x.toBitVec &&& (255 : Int32).toBitVec).getLsbD i = _
    rw [BitVec.getLsbD_and, h2, Bool.and_true]
  have h3 : i < 32 := by omega
  first
    | (show (((x &&& 255).toBitVec).signExtend 8).getLsbD i = (x.toBitVec.signExtend 8).getLsbD i; rw [BitVec.getLsbD_signExtend, BitVec.getLsbD_signExtend, if_pos h3, if_pos h3, h4])
    | (show (((x &&& 255).toBitVec).setWidth 8).getLsbD i = (x.toBitVec.setWidth 8).getLsbD i; rw [BitVec.getLsbD_setWidth, BitVec.getLsbD_setWidth, h4])
    | (simp [hi, h3, h4]; done)
theorem byte_two (z : Int32) : ∃ b, b < 256 ∧ z &&& 255 = nI b ∧ vp_nar .byte (z.toInt8.toInt32) = sx b := by
  obtain ⟨j, hj, e⟩ := pk_andE z (m := 255) 8 rfl
  refine ⟨j, hj, e, ?_⟩
  rw [pk_vb]
  unfold sx
  rw [← e, fa_byte_low]
theorem sim_feed {n : Nat} {B : Nat → Nat} {size taped : Int32} {bytes tape : Nat → Int32} (h : RT n B size bytes taped tape) (x : Int64) : wp_X11_feed size bytes x (fun r size' bytes' => wp_X12_feed taped tape x (fun r' taped' tape' => r = r' ∧ ∃ n' B', RT n' B' size' bytes' taped' tape')) := by
  obtain ⟨h1, h2, h3, h4⟩ := h
  subst h2; subst h3
  unfold wp_X11_feed wp_X9_append
  rw [i8, nI_add, show (320 : Int32) = nI 320 from rfl, nI_leI (by omega) (by omega)]
  refine ⟨fun c => ?_, fun c => ⟨fun _ => ?_, fun q => absurd rfl q⟩⟩
  · -- the bytes
    have hz : ∀ i : Nat, ∃ b, b < 256 ∧ (x >>> ((nI (56 - 8 * i)).toInt64 &&& 63)).toInt32 &&& 255 = nI b ∧ vp_nar .byte (((x >>> ((nI (56 - 8 * i)).toInt64 &&& 63)).toInt32).toInt8.toInt32) = sx b := fun i => byte_two _
    let Z : Nat → Nat := fun i => (hz i).choose
    have hZ : ∀ i, Z i < 256 ∧ (x >>> ((nI (56 - 8 * i)).toInt64 &&& 63)).toInt32 &&& 255 = nI (Z i) ∧ vp_nar .byte (((x >>> ((nI (56 - 8 * i)).toInt64 &&& 63)).toInt32).toInt8.toInt32) = sx (Z i) := fun i => (hz i).choose_spec
    generalize Z = Z at hZ
    refine fix_iv (fun i v => v.1 = nI i ∧ (∀ j, j < n → v.2 j = bytes j) ∧ ∀ j, j < i → v.2 (n + j) = sx (Z j)) 8 (fun K i v hi hI hK => ?_) 0 (by omega) ⟨rfl, fun _ _ => rfl, fun j hj => absurd hj (by omega)⟩
    obtain ⟨x3, bs⟩ := v
    obtain ⟨e1, e2, e3⟩ := hI
    dsimp only at e1 e2 e3
    subst e1
    unfold F_X9_append_17
    dsimp only
    rw [i8, nI_leI (by omega) (by omega)]
    refine ⟨fun ci => ⟨fun q => absurd q (by decide), fun _ => ?_⟩, fun ci => ?_⟩
    · unfold wp_X12_feed
      rw [i8, nI_add, show (320 : Int32) = nI 320 from rfl, nI_leI (by omega) (by omega)]
      refine ⟨fun _ => ?_, fun q => absurd c q⟩
      refine fix_iv (fun i v => v.1 = (if i ≤ 7 then nI (56 - 8 * i) else -8) ∧ v.2.1 = nI (n + i) ∧ (∀ j, j < n → v.2.2 j = tape j) ∧ ∀ j, j < i → v.2.2 (n + j) = nI (Z j)) 8 (fun K i v hi hI hK => ?_) 0 (by omega) ⟨rfl, rfl, fun _ _ => rfl, fun j hj => absurd hj (by omega)⟩
      obtain ⟨y3, tp, ts⟩ := v
      obtain ⟨f1, f2, f3, f4⟩ := hI
      dsimp only at f1 f2 f3 f4
      subst f2
      unfold F_X12_feed_19
      dsimp only
      rcases Nat.lt_or_ge i 8 with q | q
      · rw [if_pos (by omega)] at f1
        subst f1
        refine ⟨fun z => absurd z (nI_pos (by omega)), fun _ => ⟨(vin_n (by omega)).mpr (by omega), hK q _ ⟨?_, ?_, fun j hj => ?_, fun j hj => ?_⟩⟩⟩
        · dsimp only
          split
          · rw [show ((-8 : Int32)) = 0 - nI 8 from rfl, show nI (56 - 8 * i) = nI (56 - 8 * (i + 1)) + nI 8 from by rw [nI_add]; congr 1; omega]; grind
          · have : i = 7 := by omega
            subst this; decide
        · dsimp only; rw [nI_1, Nat.add_assoc]
        · dsimp only; rw [nI_clamp (by omega), pk_un (by omega)]; exact f3 j hj
        · dsimp only; rw [nI_clamp (by omega)]
          rcases Nat.lt_or_ge j i with z | z
          · rw [pk_un (by omega)]; exact f4 j z
          · have : j = i := by omega
            subst this; rw [pk_us]; exact (hZ j).2.1
      · have : i = 8 := by omega
        subst this
        rw [if_neg (by omega)] at f1
        subst f1
        refine ⟨fun _ => ⟨rfl, n + 8, fun j => if j < n then B j else Z (j - n), by omega, rfl, rfl, fun k hk => ?_⟩, fun z => absurd (by decide) z⟩
        dsimp only
        rcases Nat.lt_or_ge k n with z | z
        · rw [if_pos z, e2 k z, f3 k z]; exact h4 k z
        · rw [if_neg (by omega)]
          have a := e3 (k - n) (by omega)
          have b := f4 (k - n) (by omega)
          rw [show n + (k - n) = k by omega] at a b
          exact ⟨(hZ (k - n)).1, a, b⟩
    · rw [nI_add, show (56 : Int32) = nI 56 from rfl, pk_mul, pk_sub (by omega), (hZ i).2.2, nI_1]
      refine ⟨(vin_n (by omega)).mpr (by omega), hK (by omega) _ ⟨rfl, fun j hj => ?_, fun j hj => ?_⟩⟩
      · dsimp only; rw [nI_clamp (by omega), pk_un (by omega)]; exact e2 j hj
      · dsimp only; rw [nI_clamp (by omega)]
        rcases Nat.lt_or_ge j i with z | z
        · rw [pk_un (by omega)]; exact e3 j z
        · have : j = i := by omega
          subst this; rw [pk_us]
  · unfold wp_X12_feed
    rw [i8, nI_add, show (320 : Int32) = nI 320 from rfl, nI_leI (by omega) (by omega)]
    exact ⟨fun q => absurd q c, fun _ => ⟨rfl, n, B, h1, rfl, rfl, h4⟩⟩
