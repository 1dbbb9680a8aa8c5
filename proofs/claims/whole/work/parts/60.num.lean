theorem i0 : (0 : Int32) = nI 0 := rfl
theorem i1 : (1 : Int32) = nI 1 := rfl
theorem i2 : (2 : Int32) = nI 2 := rfl
theorem i3 : (3 : Int32) = nI 3 := rfl
theorem i4 : (4 : Int32) = nI 4 := rfl
theorem i5 : (5 : Int32) = nI 5 := rfl
theorem i6 : (6 : Int32) = nI 6 := rfl
theorem i7 : (7 : Int32) = nI 7 := rfl
theorem i8 : (8 : Int32) = nI 8 := rfl
theorem i9 : (9 : Int32) = nI 9 := rfl
theorem i10 : (10 : Int32) = nI 10 := rfl
theorem i11 : (11 : Int32) = nI 11 := rfl
theorem i12 : (12 : Int32) = nI 12 := rfl
theorem i13 : (13 : Int32) = nI 13 := rfl
theorem i14 : (14 : Int32) = nI 14 := rfl
theorem i16 : (16 : Int32) = nI 16 := rfl
theorem i20 : (20 : Int32) = nI 20 := rfl
theorem i24 : (24 : Int32) = nI 24 := rfl
theorem i25 : (25 : Int32) = nI 25 := rfl
theorem i26 : (26 : Int32) = nI 26 := rfl
theorem i31 : (31 : Int32) = nI 31 := rfl
theorem i32 : (32 : Int32) = nI 32 := rfl
theorem i40 : (40 : Int32) = nI 40 := rfl
theorem i48 : (48 : Int32) = nI 48 := rfl
theorem i49 : (49 : Int32) = nI 49 := rfl
theorem i50 : (50 : Int32) = nI 50 := rfl
theorem i56 : (56 : Int32) = nI 56 := rfl
theorem i57 : (57 : Int32) = nI 57 := rfl
theorem i59 : (59 : Int32) = nI 59 := rfl
theorem i60 : (60 : Int32) = nI 60 := rfl
theorem i64 : (64 : Int32) = nI 64 := rfl
theorem i78 : (78 : Int32) = nI 78 := rfl
theorem i97 : (97 : Int32) = nI 97 := rfl
theorem i98 : (98 : Int32) = nI 98 := rfl
theorem i99 : (99 : Int32) = nI 99 := rfl
theorem i100 : (100 : Int32) = nI 100 := rfl
theorem i122 : (122 : Int32) = nI 122 := rfl
theorem i160 : (160 : Int32) = nI 160 := rfl
theorem i192 : (192 : Int32) = nI 192 := rfl
theorem i255 : (255 : Int32) = nI 255 := rfl
theorem i320 : (320 : Int32) = nI 320 := rfl
theorem i599 : (599 : Int32) = nI 599 := rfl
theorem i600 : (600 : Int32) = nI 600 := rfl
theorem i1000 : (1000 : Int32) = nI 1000 := rfl
theorem i1023 : (1023 : Int32) = nI 1023 := rfl
theorem i2047 : (2047 : Int32) = nI 2047 := rfl
theorem i2048 : (2048 : Int32) = nI 2048 := rfl
theorem i4096 : (4096 : Int32) = nI 4096 := rfl
theorem j0 : (0 : Int64) = lN 0 := rfl
theorem j1 : (1 : Int64) = lN 1 := rfl
theorem j2 : (2 : Int64) = lN 2 := rfl
theorem j3 : (3 : Int64) = lN 3 := rfl
theorem j4 : (4 : Int64) = lN 4 := rfl
theorem j5 : (5 : Int64) = lN 5 := rfl
theorem j6 : (6 : Int64) = lN 6 := rfl
theorem j7 : (7 : Int64) = lN 7 := rfl
theorem j8 : (8 : Int64) = lN 8 := rfl
theorem j9 : (9 : Int64) = lN 9 := rfl
theorem j10 : (10 : Int64) = lN 10 := rfl
theorem j11 : (11 : Int64) = lN 11 := rfl
theorem j12 : (12 : Int64) = lN 12 := rfl
theorem j13 : (13 : Int64) = lN 13 := rfl
theorem j14 : (14 : Int64) = lN 14 := rfl
theorem j15 : (15 : Int64) = lN 15 := rfl
theorem j16 : (16 : Int64) = lN 16 := rfl
theorem j17 : (17 : Int64) = lN 17 := rfl
theorem j18 : (18 : Int64) = lN 18 := rfl
theorem j19 : (19 : Int64) = lN 19 := rfl
theorem j20 : (20 : Int64) = lN 20 := rfl
theorem j21 : (21 : Int64) = lN 21 := rfl
theorem j22 : (22 : Int64) = lN 22 := rfl
theorem j23 : (23 : Int64) = lN 23 := rfl
theorem j24 : (24 : Int64) = lN 24 := rfl
theorem j25 : (25 : Int64) = lN 25 := rfl
theorem j26 : (26 : Int64) = lN 26 := rfl
theorem j27 : (27 : Int64) = lN 27 := rfl
theorem j28 : (28 : Int64) = lN 28 := rfl
theorem j29 : (29 : Int64) = lN 29 := rfl
theorem j30 : (30 : Int64) = lN 30 := rfl
theorem j31 : (31 : Int64) = lN 31 := rfl
theorem j32 : (32 : Int64) = lN 32 := rfl
theorem j40 : (40 : Int64) = lN 40 := rfl
theorem j48 : (48 : Int64) = lN 48 := rfl
theorem j57 : (57 : Int64) = lN 57 := rfl
theorem j97 : (97 : Int64) = lN 97 := rfl
theorem j122 : (122 : Int64) = lN 122 := rfl
theorem j320 : (320 : Int64) = lN 320 := rfl
theorem j599 : (599 : Int64) = lN 599 := rfl
theorem j600 : (600 : Int64) = lN 600 := rfl
theorem j2047 : (2047 : Int64) = lN 2047 := rfl
/-! numbers -/
theorem vin_n {k N : Nat} (h : k < 2 ^ 31) : vp_in (nI k) N ↔ k < N := by
  unfold vp_in
  rw [nI_clamp h]
  constructor
  · intro q
    exact Nat.not_le.mp (fun z => q (Or.inr z))
  · intro q z
    rcases z with z | z
    · exact nI_pos h z
    · omega
theorem nI_T {k : Nat} (h : k < 2 ^ 31) : (nI k).toInt = (k : Int) := nI_toInt h
theorem ng_T {k : Nat} (h : k ≤ 2 ^ 31) : (-nI k).toInt = -(k : Int) := by
  rcases Nat.lt_or_ge k (2 ^ 31) with h1 | h1
  · exact sb_negT h1
  · have : k = 2 ^ 31 := by omega
    subst this
    decide
theorem e_T {x y : Int32} : x = y ↔ x.toInt = y.toInt := Int32.toInt_inj.symm
theorem nI_ne_ng {a b : Nat} (ha : a < 2 ^ 31) (hb : b ≤ 2 ^ 31) (h0 : 0 < b) : ¬ nI a = -nI b := by
  rw [e_T, nI_T ha, ng_T hb]; omega
theorem ng_ne_nI {a b : Nat} (ha : a < 2 ^ 31) (hb : b ≤ 2 ^ 31) (h0 : 0 < b) : ¬ -nI b = nI a := fun h => nI_ne_ng ha hb h0 h.symm
theorem ng_lt {a b : Nat} (ha : a < 2 ^ 31) (hb : b ≤ 2 ^ 31) (h0 : 0 < b) : -nI b < nI a := by
  rw [Int32.lt_iff_toInt_lt, nI_T ha, ng_T hb]; omega
theorem nI_nlt_ng {a b : Nat} (ha : a < 2 ^ 31) (hb : b ≤ 2 ^ 31) : ¬ nI a < -nI b := by
  rw [Int32.lt_iff_toInt_lt, nI_T ha, ng_T hb]; omega
theorem nI_of3 (x : Int32) : x < 0 ∨ ∃ k : Nat, k < 2 ^ 31 ∧ x = nI k := by
  rcases Classical.em (x < 0) with h | h
  · exact Or.inl h
  · obtain ⟨k, hk, e⟩ := nI_of h
    exact Or.inr ⟨k, hk, e⟩
theorem lN_T {n : Nat} (h : n < 2 ^ 63) : (lN n).toInt = (n : Int) := pk_lT h
theorem wide_lt (a b : Int32) : a.toInt64 < b.toInt64 ↔ a < b := by
  rw [Int64.lt_iff_toInt_lt, Int32.lt_iff_toInt_lt, Int32.toInt_toInt64, Int32.toInt_toInt64]
/-! loops -/
theorem fix_fn {α : Type} {F : (α → Prop) → α → Prop} (g : Nat → α) (N : Nat) (hs : ∀ (K : α → Prop) (k : Nat), k ≤ N → (k < N → K (g (k + 1))) → F K (g k)) : ∀ d k : Nat, k + d = N → ∃ n, fixN F n (g k) := by
  have key : ∀ d k : Nat, k + d = N → fixN F (d + 1) (g k) := by
    intro d
    induction d with
    | zero => intro k h; exact hs _ k (by omega) (fun q => absurd q (by omega))
    | succ d ih => intro k h; exact hs _ k (by omega) (fun _ => ih (k + 1) (by omega))
  exact fun d k h => ⟨d + 1, key d k h⟩
theorem fix_0 {α : Type} {F : (α → Prop) → α → Prop} (g : Nat → α) (N : Nat) {x : α} (hx : x = g 0) (hs : ∀ (K : α → Prop) (k : Nat), k ≤ N → (k < N → K (g (k + 1))) → F K (g k)) : ∃ n, fixN F n x := by
  rw [hx]
  exact fix_fn g N hs N 0 (by omega)
theorem fix_at {α : Type} {F : (α → Prop) → α → Prop} (g : Nat → α) (k0 N : Nat) (h0 : k0 ≤ N) {x : α} (hx : x = g k0) (hs : ∀ (K : α → Prop) (k : Nat), k0 ≤ k → k ≤ N → (k < N → K (g (k + 1))) → F K (g k)) : ∃ n, fixN F n x := by
  rw [hx]
  have := fix_fn (F := F) (fun j => g (k0 + j)) (N - k0) (fun K k hk hK => hs K (k0 + k) (by omega) (by omega) (fun q => hK (by omega))) (N - k0) 0 (by omega)
  exact this
/-- with an invariant beside -/
theorem fix_iv {α : Type} {F : (α → Prop) → α → Prop} (I : Nat → α → Prop) (N : Nat) (hs : ∀ (K : α → Prop) (k : Nat) (x : α), k ≤ N → I k x → (k < N → ∀ y, I (k + 1) y → K y) → F K x) {x : α} (k0 : Nat) (h0 : k0 ≤ N) (hx : I k0 x) : ∃ n, fixN F n x := by
  have key : ∀ d k : Nat, k + d = N → ∀ x, I k x → fixN F (d + 1) x := by
    intro d
    induction d with
    | zero => intro k h x hx; exact hs _ k x (by omega) hx (fun q => absurd q (by omega))
    | succ d ih => intro k h x hx; exact hs _ k x (by omega) hx (fun _ y hy => ih (k + 1) (by omega) y hy)
  exact ⟨N - k0 + 1, key (N - k0) k0 (by omega) x hx⟩
/-! wrap-around, for omega -/
theorem T_rng (a : Int32) : -2147483648 ≤ a.toInt ∧ a.toInt ≤ 2147483647 := by
  have h1 := Int32.le_toInt a
  have h2 := Int32.toInt_lt a
  omega
theorem T_add (a b : Int32) : ∃ c : Int, (a + b).toInt = a.toInt + b.toInt + 4294967296 * c := by
  have h := Int.bmod_emod (x := a.toInt + b.toInt) (m := 4294967296)
  rw [Int32.toInt_add, show (2 : Nat) ^ 32 = 4294967296 from rfl]
  exact ⟨(Int.bmod (a.toInt + b.toInt) 4294967296 - (a.toInt + b.toInt)) / 4294967296, by omega⟩
theorem T_sub (a b : Int32) : ∃ c : Int, (a - b).toInt = a.toInt - b.toInt + 4294967296 * c := by
  have h := Int.bmod_emod (x := a.toInt - b.toInt) (m := 4294967296)
  rw [Int32.toInt_sub, show (2 : Nat) ^ 32 = 4294967296 from rfl]
  exact ⟨(Int.bmod (a.toInt - b.toInt) 4294967296 - (a.toInt - b.toInt)) / 4294967296, by omega⟩
theorem T_lt {a b : Int32} : a < b ↔ a.toInt < b.toInt := Int32.lt_iff_toInt_lt
theorem T_le {a b : Int32} : a ≤ b ↔ a.toInt ≤ b.toInt := Int32.le_iff_toInt_le
