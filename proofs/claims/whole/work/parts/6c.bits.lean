/-! bits -/
theorem nI_bv (n : Nat) : (nI n).toBitVec = BitVec.ofNat 32 n := rfl
theorem nI_and (a b : Nat) : nI a &&& nI b = nI (a &&& b) := by
  apply Int32.toBitVec_inj.1
  rw [Int32.toBitVec_and, nI_bv, nI_bv, nI_bv]
  apply BitVec.eq_of_toNat_eq
  simp [BitVec.toNat_and, BitVec.toNat_ofNat, Nat.and_mod_two_pow]
theorem nI_or (a b : Nat) : nI a ||| nI b = nI (a ||| b) := by
  apply Int32.toBitVec_inj.1
  rw [Int32.toBitVec_or, nI_bv, nI_bv, nI_bv]
  apply BitVec.eq_of_toNat_eq
  simp [BitVec.toNat_or, BitVec.toNat_ofNat, Nat.or_mod_two_pow]
theorem s_l : ∀ n, n < 32 → ((nI n &&& 31).toBitVec.smod 32).toNat = n := by
  have : ∀ j : Fin 32, ((nI j.val &&& 31).toBitVec.smod 32).toNat = j.val := by decide +kernel
  exact fun n h => this ⟨n, h⟩
theorem one_shl {l : Nat} (h : l < 31) : (1 : Int32) <<< (nI l &&& 31) = nI (2 ^ l) := by
  have h2 : 2 ^ l < 2 ^ 31 := Nat.pow_lt_pow_right (by omega) h
  have := pk_shlN (n := 1) (nI l &&& 31) l (s_l l (by omega)) (by omega)
  rw [Nat.one_mul] at this; exact this
/-- how many of the first k bits are there -/
def pc (n : Nat) : Nat → Nat
  | 0 => 0
  | k + 1 => pc n k + n / 2 ^ k % 2
theorem pc_le (n : Nat) : ∀ k, pc n k ≤ k
  | 0 => Nat.le_refl 0
  | k + 1 => by have := pc_le n k; unfold pc; omega
theorem pc_more {n k : Nat} (h : n < 2 ^ k) : ∀ j, pc n (k + j) = pc n k
  | 0 => rfl
  | j + 1 => by
    have ih := pc_more h j
    rw [show k + (j + 1) = (k + j) + 1 by omega, pc, ih]
    have : n / 2 ^ (k + j) = 0 := Nat.div_eq_of_lt (Nat.lt_of_lt_of_le h (Nat.pow_le_pow_right (by omega) (by omega)))
    rw [this]; rfl
theorem pc_26 {n k : Nat} (hk : k ≤ 26) (h : n < 2 ^ k) : pc n 26 = pc n k := by rw [show 26 = k + (26 - k) by omega]; exact pc_more h _
theorem sp_X12_bitsOf {n : Nat} {post : Int32 → Prop} (hn : n < 2 ^ 31) (h : post (nI (pc n 26))) : wp_X12_bitsOf (nI n) post := by
  unfold wp_X12_bitsOf
  refine fix_0 (fun k => (nI (pc n k), nI k)) 26 rfl ?_
  intro K k hk hK
  unfold F_X12_bitsOf_4
  dsimp only
  rw [show (26 : Int32) = nI 26 from rfl, nI_leI (by omega) (by omega)]
  refine ⟨fun c => ?_, fun c => ?_⟩
  · have : k = 26 := by omega
    subst this; exact h
  · rw [pk_shrN hn (nI k &&& 31) k (s_l k (by omega)), pk_andN (n := n / 2 ^ k) (Nat.lt_of_le_of_lt (Nat.div_le_self _ _) (by omega)) (m := 1) 1 rfl, nI_add, nI_1]
    exact hK (by omega)
/-! the machine's own count -/
theorem and_split (w x y : Nat) : x &&& y = 2 ^ w * ((x / 2 ^ w) &&& (y / 2 ^ w)) + ((x % 2 ^ w) &&& (y % 2 ^ w)) := by
  rw [← Nat.and_div_two_pow, ← Nat.and_mod_two_pow]
  exact (Nat.div_add_mod _ _).symm
def p2 (r : Nat) : Nat := r - r / 2
def g4 (r : Nat) : Nat := p2 (r % 4) + p2 (r / 4)
def M1 : Nat → Nat
  | 0 => 0
  | k + 1 => 4 * M1 k + 1
def M2 : Nat → Nat
  | 0 => 0
  | k + 1 => 16 * M2 k + 3
def M3 : Nat → Nat
  | 0 => 0
  | k + 1 => 256 * M3 k + 15
def f1 : Nat → Nat → Nat
  | 0, _ => 0
  | k + 1, n => 4 * f1 k (n / 4) + p2 (n % 4)
def f2 : Nat → Nat → Nat
  | 0, _ => 0
  | k + 1, n => 16 * f2 k (n / 16) + g4 (n % 16)
def f3 : Nat → Nat → Nat
  | 0, _ => 0
  | k + 1, n => 256 * f3 k (n / 256) + (g4 (n % 16) + g4 (n / 16 % 16))
theorem st1 : ∀ k n, n < 4 ^ k → ((n / 2) &&& M1 k) ≤ n ∧ n - ((n / 2) &&& M1 k) = f1 k n
  | 0, n, h => by
    have : n = 0 := by simpa using h
    subst this; decide
  | k + 1, n, h => by
    have ih := st1 k (n / 4) (by rw [Nat.pow_succ] at h; omega)
    have e := and_split 2 (n / 2) (M1 (k + 1))
    rw [show (2 : Nat) ^ 2 = 4 from rfl] at e
    rw [show M1 (k + 1) / 4 = M1 k by rw [M1]; omega, show M1 (k + 1) % 4 = 1 by rw [M1]; omega, show n / 2 / 4 = n / 4 / 2 by omega, Nat.and_one_is_mod] at e
    rw [e]
    unfold f1 p2
    omega
theorem p2_le {r : Nat} (h : r < 4) : p2 r ≤ 2 := by unfold p2; omega
theorem st2 : ∀ k n, n < 16 ^ k → (f1 (2 * k) n &&& M2 k) + ((f1 (2 * k) n / 4) &&& M2 k) = f2 k n
  | 0, n, h => by simp [M2, f2]
  | k + 1, n, h => by
    have ih := st2 k (n / 16) (by rw [Nat.pow_succ] at h; omega)
    have e0 : f1 (2 * (k + 1)) n = 16 * f1 (2 * k) (n / 16) + 4 * p2 (n / 4 % 4) + p2 (n % 4) := by
      rw [show 2 * (k + 1) = (2 * k + 1) + 1 by omega, f1, f1, show n / 4 / 4 = n / 16 by omega]; omega
    have u := p2_le (r := n / 4 % 4) (by omega)
    have v := p2_le (r := n % 4) (by omega)
    have e := and_split 4 (f1 (2 * (k + 1)) n) (M2 (k + 1))
    have e' := and_split 4 (f1 (2 * (k + 1)) n / 4) (M2 (k + 1))
    have m3 : ∀ x, x &&& 3 = x % 4 := fun x => Nat.and_two_pow_sub_one_eq_mod x 2
    rw [show (2 : Nat) ^ 4 = 16 from rfl, show M2 (k + 1) / 16 = M2 k by rw [M2]; omega, show M2 (k + 1) % 16 = 3 by rw [M2]; omega, m3] at e e'
    rw [e, e', e0]
    rw [show (16 * f1 (2 * k) (n / 16) + 4 * p2 (n / 4 % 4) + p2 (n % 4)) / 16 = f1 (2 * k) (n / 16) by omega]
    rw [show (16 * f1 (2 * k) (n / 16) + 4 * p2 (n / 4 % 4) + p2 (n % 4)) / 4 / 16 = f1 (2 * k) (n / 16) / 4 by omega]
    rw [f2, ← ih]
    unfold g4
    rw [show n % 16 % 4 = n % 4 by omega, show n % 16 / 4 = n / 4 % 4 by omega]
    omega
theorem g4_le {r : Nat} (h : r < 16) : g4 r ≤ 4 := by
  have := p2_le (r := r % 4) (by omega)
  have := p2_le (r := r / 4) (by omega)
  unfold g4; omega
theorem f2_low : ∀ k n, f2 k n % 16 ≤ 4
  | 0, n => by unfold f2; omega
  | k + 1, n => by have := g4_le (r := n % 16) (by omega); unfold f2; omega
theorem st3 : ∀ k n, n < 256 ^ k → ((f2 (2 * k) n + f2 (2 * k) n / 16) &&& M3 k) = f3 k n
  | 0, n, h => by simp [M3, f3]
  | k + 1, n, h => by
    have ih := st3 k (n / 256) (by rw [Nat.pow_succ] at h; omega)
    have e0 : f2 (2 * (k + 1)) n = 256 * f2 (2 * k) (n / 256) + 16 * g4 (n / 16 % 16) + g4 (n % 16) := by
      rw [show 2 * (k + 1) = (2 * k + 1) + 1 by omega, f2, f2, show n / 16 / 16 = n / 256 by omega]; omega
    have u := g4_le (r := n / 16 % 16) (by omega)
    have v := g4_le (r := n % 16) (by omega)
    have l := f2_low (2 * k) (n / 256)
    have e := and_split 8 (f2 (2 * (k + 1)) n + f2 (2 * (k + 1)) n / 16) (M3 (k + 1))
    have m15 : ∀ x, x &&& 15 = x % 16 := fun x => Nat.and_two_pow_sub_one_eq_mod x 4
    rw [show (2 : Nat) ^ 8 = 256 from rfl, show M3 (k + 1) / 256 = M3 k by rw [M3]; omega, show M3 (k + 1) % 256 = 15 by rw [M3]; omega, m15] at e
    rw [e, e0]
    rw [show (256 * f2 (2 * k) (n / 256) + 16 * g4 (n / 16 % 16) + g4 (n % 16) + (256 * f2 (2 * k) (n / 256) + 16 * g4 (n / 16 % 16) + g4 (n % 16)) / 16) / 256 = f2 (2 * k) (n / 256) + f2 (2 * k) (n / 256) / 16 by omega]
    rw [ih, f3]
    omega
theorem f3_4 (n : Nat) (h : n < 2 ^ 32) : f3 4 n = (g4 (n % 16) + g4 (n / 16 % 16)) + 256 * (g4 (n / 256 % 16) + g4 (n / 4096 % 16)) + 65536 * (g4 (n / 65536 % 16) + g4 (n / 1048576 % 16)) + 16777216 * (g4 (n / 16777216 % 16) + g4 (n / 268435456 % 16)) := by
  simp only [f3]
  rw [show n / 256 / 256 = n / 65536 by omega, show n / 65536 / 256 = n / 16777216 by omega, show n / 256 / 16 = n / 4096 by omega, show n / 65536 / 16 = n / 1048576 by omega, show n / 16777216 / 16 = n / 268435456 by omega]
  omega
theorem g4_r : ∀ r, r < 16 → g4 r = r % 2 + r / 2 % 2 + r / 4 % 2 + r / 8 % 2 := by decide
theorem g4_bits (n : Nat) : g4 (n % 16) = n % 2 + n / 2 % 2 + n / 4 % 2 + n / 8 % 2 := by rw [g4_r (n % 16) (by omega)]; omega
theorem fin4 (a b c e : Nat) (ha : a ≤ 8) (hb : b ≤ 8) (hc : c ≤ 8) (he : e ≤ 8) : ((a + 256 * b + 65536 * c + 16777216 * e + (a + 256 * b + 65536 * c + 16777216 * e) / 256) + (a + 256 * b + 65536 * c + 16777216 * e + (a + 256 * b + 65536 * c + 16777216 * e) / 256) / 65536) % 64 = a + b + c + e := by
  have h1 : (a + 256 * b + 65536 * c + 16777216 * e) / 256 = b + 256 * c + 65536 * e := by omega
  rw [h1]
  have h2 : (a + 256 * b + 65536 * c + 16777216 * e + (b + 256 * c + 65536 * e)) / 65536 = c + e + 256 * e := by omega
  rw [h2]
  omega
theorem pc_32 (n : Nat) (h : n < 2 ^ 32) : ((f3 4 n + f3 4 n / 256) + (f3 4 n + f3 4 n / 256) / 65536) % 64 = pc n 32 := by
  have b := fun m => g4_le (r := m % 16) (by omega)
  have b1 := b n; have b2 := b (n / 16); have b3 := b (n / 256); have b4 := b (n / 4096); have b5 := b (n / 65536); have b6 := b (n / 1048576); have b7 := b (n / 16777216); have b8 := b (n / 268435456)
  have e : pc n 32 = g4 (n % 16) + g4 (n / 16 % 16) + g4 (n / 256 % 16) + g4 (n / 4096 % 16) + g4 (n / 65536 % 16) + g4 (n / 1048576 % 16) + g4 (n / 16777216 % 16) + g4 (n / 268435456 % 16) := by
    rw [g4_bits n, g4_bits (n / 16), g4_bits (n / 256), g4_bits (n / 4096), g4_bits (n / 65536), g4_bits (n / 1048576), g4_bits (n / 16777216), g4_bits (n / 268435456)]
    simp only [pc, Nat.div_div_eq_div_mul, Nat.reducePow, Nat.reduceMul, Nat.div_one, Nat.zero_add]
    omega
  rw [e, f3_4 n h, fin4 _ _ _ _ (by omega) (by omega) (by omega) (by omega)]
  omega
theorem f1_le : ∀ k n, f1 k n ≤ n
  | 0, n => Nat.zero_le n
  | k + 1, n => by have := f1_le k (n / 4); unfold f1 p2; omega
theorem f2_le : ∀ k n, f2 k n ≤ n
  | 0, n => Nat.zero_le n
  | k + 1, n => by have := f2_le k (n / 16); unfold f2 g4 p2; omega
theorem sp_bitCount {n : Nat} {post : Int32 → Prop} (hn : n < 2 ^ 26) (h : post (nI (pc n 26))) : wp_J6_bitCount_0f7a4 (nI n) post := by
  have hn32 : n < 2 ^ 32 := by omega
  have a1 := st1 16 n (by rw [show (4 : Nat) ^ 16 = 2 ^ 32 from rfl]; exact hn32)
  have a2 := st2 8 n (by rw [show (16 : Nat) ^ 8 = 2 ^ 32 from rfl]; exact hn32)
  have a3 := st3 4 n (by rw [show (256 : Nat) ^ 4 = 2 ^ 32 from rfl]; exact hn32)
  have a4 := pc_32 n hn32
  have b1 := f1_le 16 n
  have b2 := f2_le 8 n
  rw [show M1 16 = 1431655765 from rfl] at a1
  rw [show M2 8 = 858993459 from rfl, show 2 * 8 = 16 from rfl] at a2
  rw [show M3 4 = 252645135 from rfl, show 2 * 4 = 8 from rfl] at a3
  have u : ∀ (m k : Nat) (s : Int32), m < 2 ^ 32 → ((s.toUInt32 &&& Int32.toUInt32 31).toBitVec % 32).toNat = k → ((nI m).toUInt32 >>> (s.toUInt32 &&& Int32.toUInt32 31)).toInt32 = nI (m / 2 ^ k) := fun m k s hm hs => pk_ushrN hm s k hs
  have k1 : (1431655765 : Int32) = nI 1431655765 := rfl
  have k2 : (858993459 : Int32) = nI 858993459 := rfl
  have k3 : (252645135 : Int32) = nI 252645135 := rfl
  have k4 : (63 : Int32) = nI 63 := rfl
  have e1 : nI n - ((((nI n).toUInt32 >>> ((1 : Int32).toUInt32 &&& Int32.toUInt32 31)).toInt32) &&& (1431655765)) = nI (f1 16 n) := by
    rw [u n 1 1 hn32 rfl, k1, nI_and, pk_sub a1.1, a1.2]
  unfold wp_J6_bitCount_0f7a4
  rw [e1]
  have e2 : (nI (f1 16 n) &&& 858993459) + ((((nI (f1 16 n)).toUInt32 >>> ((2 : Int32).toUInt32 &&& Int32.toUInt32 31)).toInt32) &&& 858993459) = nI (f2 8 n) := by
    rw [u _ 2 2 (by omega) rfl, k2, nI_and, nI_and, nI_add, a2]
  rw [e2]
  have e3 : (nI (f2 8 n) + (((nI (f2 8 n)).toUInt32 >>> ((4 : Int32).toUInt32 &&& Int32.toUInt32 31)).toInt32)) &&& 252645135 = nI (f3 4 n) := by
    rw [u _ 4 4 (by omega) rfl, nI_add, k3, nI_and, a3]
  rw [e3]
  have f4 := f3_4 n hn32
  have b := fun m => g4_le (r := m % 16) (by omega)
  have c1 := b n; have c2 := b (n / 16); have c3 := b (n / 256); have c4 := b (n / 4096); have c5 := b (n / 65536); have c6 := b (n / 1048576); have c7 := b (n / 16777216); have c8 := b (n / 268435456)
  have hb : f3 4 n + f3 4 n / 256 < 2 ^ 32 := by omega
  have e4 : nI (f3 4 n) + (((nI (f3 4 n)).toUInt32 >>> ((8 : Int32).toUInt32 &&& Int32.toUInt32 31)).toInt32) = nI (f3 4 n + f3 4 n / 256) := by
    rw [u _ 8 8 (by omega) rfl, nI_add]
  rw [e4, u _ 16 16 hb rfl, nI_add, k4, nI_and, show ∀ x, x &&& 63 = x % 64 from fun x => Nat.and_two_pow_sub_one_eq_mod x 6, show (2 : Nat) ^ 16 = 65536 from rfl, a4]
  rw [show pc n 32 = pc n 26 from pc_more hn 6]
  exact h
