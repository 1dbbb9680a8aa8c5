theorem T_rng64 (a : Int64) : -9223372036854775808 ≤ a.toInt ∧ a.toInt ≤ 9223372036854775807 := by
  have h1 := Int64.le_toInt a
  have h2 := Int64.toInt_lt a
  omega
theorem T_add64 (a b : Int64) : ∃ c : Int, (a + b).toInt = a.toInt + b.toInt + 18446744073709551616 * c := by
  have h := Int.bmod_emod (x := a.toInt + b.toInt) (m := 18446744073709551616)
  rw [Int64.toInt_add, show (2 : Nat) ^ 64 = 18446744073709551616 from rfl]
  exact ⟨(Int.bmod (a.toInt + b.toInt) 18446744073709551616 - (a.toInt + b.toInt)) / 18446744073709551616, by omega⟩
theorem rdR_two {ft : Nat → Nat} {cv : Nat → Int32} {hn n : Nat} {P : Int32 → Option Nat → Nat → Int32 → Option Nat → Nat → Prop} (hn24 : hn ≤ 24) (h : ∀ r o m, hn + m ≤ 24 → (∀ j, j < m → vp_in (cv j) 7) → (o = none → m = 0) → P r o m r o m) : rdR ft cv hn n (fun r o m => rdR ft cv hn n (fun r' o' m' => P r o m r' o' m')) := by
  have hm : hn + rdm ft cv hn n ≤ 24 := by
    rcases Nat.eq_zero_or_pos (rdm ft cv hn n) with q | q
    · omega
    · have := (rdm_ok (ft := ft) (cv := cv) (hn := hn) (n := n) (i := rdm ft cv hn n - 1) (by omega)).2.2; omega
  have hv : ∀ j, j < rdm ft cv hn n → vp_in (cv j) 7 := fun j hj => (rdm_ok hj).2.1
  refine ⟨fun e => ⟨fun _ => h _ _ _ (by omega) (fun j hj => hv j (by omega)) (fun z => by cases z), fun z => absurd z (by omega)⟩, fun lt => ⟨fun a => ⟨fun z => absurd z (by omega), fun _ => ⟨fun _ => h _ _ _ hm hv (fun z => by cases z), fun z => absurd z a⟩⟩, fun a => ⟨fun b => ⟨fun z => absurd z (by omega), fun _ => ⟨fun z => absurd a z, fun _ => ⟨fun _ => h _ _ _ hn24 (fun j hj => absurd hj (by omega)) (fun _ => rfl), fun z => absurd z b⟩⟩⟩, fun b => ⟨fun z => absurd z (by omega), fun _ => ⟨fun z => absurd a z, fun _ => ⟨fun z => absurd b z, fun _ => h _ _ _ hn24 (fun j hj => absurd hj (by omega)) (fun _ => rfl)⟩⟩⟩⟩⟩⟩
/-- how a sheet answers, for both sides -/
theorem rd_sheet {k Y : Nat} {la sz f : Int32} {ce ml mn mc : Nat → Int32} (hk : k < 4) (hY : Y < 3) (hR : RS k la sz ce ml mn mc) : ∃ (ft : Nat → Nat) (cv : Nat → Int32), (∀ i, ft i < 4) ∧ (∀ i, i < 24 → ∀ P : Int32 → Prop, P (nI (ft i)) → wp_X8_faultOf la sz (nI Y) (f + nI i) P) ∧ (∀ i, i < 24 → ft i = 0 → ∀ P : Int32 → Prop, P (cv i) → wp_X8_cellAt la sz ce (f + nI i) P) ∧
    (∀ i, i < 24 → ∀ (torn : Int32) (st : Nat → Int32) (x6 : Int32) (P : Int32 → Int32 → Int32 → (Nat → Int32) → Prop) (K : (Int32 × Int32 × Int32) → Prop), B_X12_read_120 mc (nI k) f x6 (nI i) 1 torn st (nI (ft i)) P K → (vp_in (nI k) 4 ∧ ((¬ (ml (nI k).toNatClampNeg : Int32) = ((-4)) → (vp_in (nI k) 4 ∧ (((ml (nI k).toNatClampNeg : Int32) = (nI Y) → (vp_in (nI k) 4 ∧ (wp_X12_in (f.toInt64 + (nI i).toInt64) 0 (((mn (nI k).toNatClampNeg) - 1).toInt64) (fun r21 => ((¬ (r21 : Int32) = 0 → (B_X12_read_120 mc (nI k) f x6 (nI i) 1 torn st 0 P K)) ∧ ((r21 : Int32) = 0 → (B_X12_read_120 mc (nI k) f x6 (nI i) 1 torn st 2 P K))))))) ∧ (¬ (ml (nI k).toNatClampNeg : Int32) = (nI Y) → (B_X12_read_120 mc (nI k) f x6 (nI i) 1 torn st 3 P K))))) ∧ ((ml (nI k).toNatClampNeg : Int32) = ((-4)) → (B_X12_read_120 mc (nI k) f x6 (nI i) 1 torn st 1 P K))))) ∧
    ∀ i, i < 24 → ft i = 0 → vp_in (((40 * nI k) + f) + nI i) 160 ∧ mc (((40 * nI k) + f) + nI i).toNatClampNeg = cv i := by
  have hin : vp_in (nI k) 4 := (vin_n (by omega)).mpr hk
  rcases hR with ⟨e1, e2⟩ | ⟨L, n, hL, hn, e1, e2, e3, e4, e5⟩
  · subst e1
    refine ⟨fun _ => 1, fun _ => 0, fun _ => (by decide : 1 < 4), fun i hi P h => ?_, fun i hi z => absurd z (by show ¬ 1 = 0; decide), fun i hi torn st x6 P K h => ?_, fun i hi z => absurd z (by show ¬ 1 = 0; decide)⟩
    · unfold wp_X8_faultOf
      exact ⟨fun _ => sp_faultAt1 h, fun z => absurd (by decide) z⟩
    · rw [nI_clamp (by omega), e2]
      exact ⟨hin, fun z => absurd rfl z, fun _ => h⟩
  · subst e1; subst e3
    by_cases q : L = Y
    · subst q
      have fr := T_rng f
      have sum : ∀ i : Nat, i < 24 → ∃ c : Int, (f + nI i).toInt = f.toInt + i + 4294967296 * c := fun i hi => by
        obtain ⟨c, hc⟩ := T_add f (nI i); rw [nI_T (by omega)] at hc; exact ⟨c, hc⟩
      have good : ∀ i : Nat, i < 24 → 0 ≤ f.toInt + i → f.toInt + i < n → f + nI i = nI (f.toInt + i).toNat := fun i hi a b => by
        obtain ⟨c, hc⟩ := sum i hi
        have r := T_rng (f + nI i)
        rw [e_T, hc, nI_T (by omega)]; omega
      have badd : ∀ i : Nat, i < 24 → vp_in (f + nI i) n → 0 ≤ f.toInt + i ∧ f.toInt + i < n := fun i hi z => by
        obtain ⟨c, hc⟩ := sum i hi
        obtain ⟨j, hj, ej⟩ := vin_ex (by omega) z
        rw [ej, nI_T (by omega)] at hc; omega
      refine ⟨fun i => if 0 ≤ f.toInt + (i : Int) ∧ f.toInt + (i : Int) < (n : Int) then 0 else 2, fun i => ce (f.toInt + (i : Int)).toNat, fun i => by dsimp only; split <;> omega, fun i hi P h => ?_, fun i hi z P h => ?_, fun i hi torn st x6 P K h => ?_, fun i hi z => ?_⟩
      · have go : wp_X8_faultAt (nI L) (nI n) (f + nI i) P := by
          dsimp only at h
          refine sp_faultAt hL hn (fun j hj ej => ?_) (fun z => ?_)
          · rw [if_pos (badd i hi (by rw [ej]; exact (vin_n (by omega)).mpr hj))] at h; exact h
          · rw [if_neg (fun w => z (by rw [good i hi w.1 w.2]; exact (vin_n (by omega)).mpr (by omega)))] at h; exact h
        unfold wp_X8_faultOf
        exact ⟨fun z => absurd z (nI_pos (by omega)), fun _ => ⟨fun _ => go, fun z => absurd rfl z⟩⟩
      · dsimp only at z
        have w : 0 ≤ f.toInt + i ∧ f.toInt + i < n := by
          by_cases w : 0 ≤ f.toInt + i ∧ f.toInt + i < n
          · exact w
          · rw [if_neg w] at z; exact absurd z (by decide)
        rw [good i hi w.1 w.2]
        unfold wp_X8_cellAt
        refine sp_faultAt hL hn (fun j hj ej => ⟨fun y => absurd rfl y, fun _ => ⟨(vin_n (by omega)).mpr (by omega), by rw [nI_clamp (by omega)]; exact h⟩⟩) (fun y => absurd ((vin_n (by omega)).mpr (by omega)) y)
      · rw [nI_clamp (by omega), e2, e4]
        refine ⟨hin, fun _ => ⟨hin, fun _ => ⟨hin, ?_⟩, fun z => absurd rfl z⟩, fun z => absurd z (nI_ne_ng (b := 4) (by omega) (by decide) (by decide))⟩
        obtain ⟨c, hc⟩ := T_add64 f.toInt64 (nI i).toInt64
        rw [Int32.toInt_toInt64, Int32.toInt_toInt64, nI_T (by omega)] at hc
        have r := T_rng64 (f.toInt64 + (nI i).toInt64)
        have hs : (nI n - 1).toInt64.toInt = (n : Int) - 1 := by
          rw [Int32.toInt_toInt64]
          obtain ⟨c2, hc2⟩ := T_sub (nI n) 1
          have r2 := T_rng (nI n - 1)
          rw [nI_T (by omega), show (1 : Int32).toInt = 1 from rfl] at hc2
          omega
        have z0 : (0 : Int64).toInt = 0 := rfl
        dsimp only at h
        unfold wp_X12_in
        rw [Int64.lt_iff_toInt_lt, Int64.lt_iff_toInt_lt, hs, z0]
        refine ⟨fun a => ⟨fun y => absurd rfl y, fun _ => ?_⟩, fun a => ⟨fun b => ⟨fun y => absurd rfl y, fun _ => ?_⟩, fun b => ⟨fun _ => ?_, fun y => absurd y (by decide)⟩⟩⟩
        · rw [if_neg (by omega)] at h; exact h
        · rw [if_neg (by omega)] at h; exact h
        · rw [if_pos (by omega)] at h; exact h
      · dsimp only at z
        have w : 0 ≤ f.toInt + i ∧ f.toInt + i < n := by
          by_cases w : 0 ≤ f.toInt + i ∧ f.toInt + i < n
          · exact w
          · rw [if_neg w] at z; exact absurd z (by decide)
        have e : ((40 * nI k) + f) + nI i = nI (40 * k + (f.toInt + i).toNat) := by
          rw [Int32.add_assoc, good i hi w.1 w.2, i40, pk_mul, nI_add]
        rw [e, nI_clamp (by omega)]
        exact ⟨(vin_n (by omega)).mpr (by omega), (e5 _ (by omega)).symm⟩
    · refine ⟨fun _ => 3, fun _ => 0, fun _ => (by decide : 3 < 4), fun i hi P h => ?_, fun i hi z => absurd z (by show ¬ 3 = 0; decide), fun i hi torn st x6 P K h => ?_, fun i hi z => absurd z (by show ¬ 3 = 0; decide)⟩
      · unfold wp_X8_faultOf
        exact ⟨fun z => absurd z (nI_pos (by omega)), fun _ => ⟨fun z => absurd ((nI_eq (by omega) (by omega)).mp z) q, fun _ => h⟩⟩
      · rw [nI_clamp (by omega), e2]
        exact ⟨hin, fun _ => ⟨hin, fun z => absurd ((nI_eq (by omega) (by omega)).mp z) q, fun _ => h⟩, fun z => absurd z (nI_ne_ng (b := 4) (by omega) (by decide) (by decide))⟩
section
variable {a0 z0 a1 z1 a2 z2 a3 z3 : Int32} {c3 c2 c1 c0 ml mn mc : Nat → Int32} {d : PD} {aw torn mt : Int32} {st le pl : Nat → Int32} {hs : Int32} {hc kn : Nat → Int32}
theorem sim_read (hS : RSS a0 z0 a1 z1 a2 z2 a3 z3 c3 c2 c1 c0 ml mn mc) (h : RI d aw st le pl hs hc kn) (ht : torn = mt) (x y f n : Int32) : wp_X11_read torn a0 z0 a1 z1 a2 z2 a3 z3 hs c3 hc c2 c1 c0 x y f n (fun r torn' hs' hc' => wp_X12_read aw mt st mc ml mn x y f n (fun r' aw' mt' st' => r = r' ∧ torn' = mt' ∧ RI d aw' st' le pl hs' hc' kn ∧ KS st st' aw aw')) := by
  subst ht
  have e25 : vp_in n 25 ↔ 0 ≤ n ∧ n < 25 := vin_I (by decide)
  have no : ∀ (c : ¬ (vp_in x 4 ∧ vp_in y 3 ∧ vp_in n 25)), wp_X12_read aw torn st mc ml mn x y f n (fun r' aw' mt' st' => -1 = r' ∧ torn = mt' ∧ RI d aw' st' le pl hs hc kn ∧ KS st st' aw aw') := fun c => by
    unfold wp_X12_read
    refine aw_use h (fun T H N hn st' a1 a2 a3 a4 a5 a6 a7 => ?_)
    exact sp_in0 (b := 3) (n := 4) (by decide) le_3 (fun _ => ⟨fun _ => ⟨rfl, rfl, a6, a7⟩, fun q => absurd rfl q⟩) (fun q1 => ⟨fun q => absurd q (by decide), fun _ => sp_in0 (b := 2) (n := 3) (by decide) le_2 (fun _ => ⟨fun _ => ⟨rfl, rfl, a6, a7⟩, fun q => absurd rfl q⟩) (fun q2 => ⟨fun q => absurd q (by decide), fun _ => sp_in0 (b := 24) (n := 25) (by decide) le_24 (fun _ => ⟨fun q => absurd rfl q, fun _ => ⟨rfl, rfl, a6, a7⟩⟩) (fun q3 => absurd ⟨q1, q2, q3⟩ c)⟩)⟩)
  unfold wp_X11_read
  refine sp_X11_isSheet (fun c => ⟨fun _ => no (fun q => c q.1), fun q => absurd rfl q⟩) (fun c => ⟨fun q => absurd q (by decide), fun _ => sp_X11_isLane (fun cc => ⟨fun _ => no (fun q => cc q.2.1), fun q => absurd rfl q⟩) (fun cc => ⟨fun q => absurd q (by decide), fun _ => ⟨fun c4 => no (fun q => ?_), fun c4 => ⟨fun c5 => ⟨c, ?_⟩, fun c5 => no (fun q => ?_)⟩⟩⟩)⟩)
  · have := (e25.mp q.2.2).1; rw [T_le] at this; rw [T_lt] at c4; omega
  · obtain ⟨Y, hY, rfl⟩ := in3 cc
    obtain ⟨n', hn', rfl⟩ := nI_of c4
    have n24 : n' ≤ 24 := (nI_leI (b := 24) (by omega) (by decide)).mp c5
    have c25 : vp_in (nI n') 25 := (vin_n (by omega)).mpr (by omega)
    obtain ⟨T, H, N, hn, b1, b2, b3, b4, b5⟩ := id h
    have hn24 := b1.2.1
    have ehs := b3.2.2.1
    subst ehs
    have fin : ∀ k, k < 4 → ∀ (ft : Nat → Nat) (cv : Nat → Int32), (∀ i, ft i < 4) → (∀ i, i < 24 → ∀ (torn : Int32) (st : Nat → Int32) (x6 : Int32) (P : Int32 → Int32 → Int32 → (Nat → Int32) → Prop) (K : (Int32 × Int32 × Int32) → Prop), B_X12_read_120 mc (nI k) f x6 (nI i) 1 torn st (nI (ft i)) P K → (vp_in (nI k) 4 ∧ ((¬ (ml (nI k).toNatClampNeg : Int32) = ((-4)) → (vp_in (nI k) 4 ∧ (((ml (nI k).toNatClampNeg : Int32) = (nI Y) → (vp_in (nI k) 4 ∧ (wp_X12_in (f.toInt64 + (nI i).toInt64) 0 (((mn (nI k).toNatClampNeg) - 1).toInt64) (fun r21 => ((¬ (r21 : Int32) = 0 → (B_X12_read_120 mc (nI k) f x6 (nI i) 1 torn st 0 P K)) ∧ ((r21 : Int32) = 0 → (B_X12_read_120 mc (nI k) f x6 (nI i) 1 torn st 2 P K))))))) ∧ (¬ (ml (nI k).toNatClampNeg : Int32) = (nI Y) → (B_X12_read_120 mc (nI k) f x6 (nI i) 1 torn st 3 P K))))) ∧ ((ml (nI k).toNatClampNeg : Int32) = ((-4)) → (B_X12_read_120 mc (nI k) f x6 (nI i) 1 torn st 1 P K))))) → (∀ i, i < 24 → ft i = 0 → vp_in (((40 * nI k) + f) + nI i) 160 ∧ mc (((40 * nI k) + f) + nI i).toNatClampNeg = cv i) →
        rdR ft cv hn n' (fun r o m => ∀ hc', (∀ j, j < hn → hc' j = hc j) → (∀ j, j < m → hc' (hn + j) = cv j) → wp_X12_read aw torn st mc ml mn (nI k) (nI Y) f (nI n') (fun r' aw' mt' st' => r = r' ∧ tornV torn o = mt' ∧ RI d aw' st' le pl (nI (hn + m)) hc' kn ∧ KS st st' aw aw')) := by
      intro k hk ft cv f1 f4 f5
      have hin : vp_in (nI k) 4 := (vin_n (by omega)).mpr hk
      have two : ∀ st' : Nat → Int32, MT 0 T st' → MR 0 H N hn st' → KS st st' aw 1 → rdR ft cv hn n' (fun r o m => rdR ft cv hn n' (fun r' o' m' => ∀ hc', (∀ j, j < hn → hc' j = hc j) → (∀ j, j < m → hc' (hn + j) = cv j) → ∀ st'', (∀ j, (j < 25 + hn ∨ 25 + hn + m' ≤ j) → j ≠ 49 → st'' j = st' j) → (∀ j, j < m' → st'' (25 + hn + j) = cv j) → st'' 49 = nI (hn + m') → (r = r' ∧ tornV torn o = tornV torn o' ∧ RI d 1 st'' le pl (nI (hn + m)) hc' kn ∧ KS st st'' aw 1))) := by
        intro st' g1 g2 g3
        refine rdR_two hn24 (fun r o m hm hv _ hc' h1 h2 st'' s1 s2 s3 => ⟨rfl, rfl, ⟨T, fun j => if j < hn then H j else (cv (j - hn)).toNatClampNeg, N, hn + m, ⟨b1.1, hm, fun i hi => ?_, b1.2.2.2⟩, b2, ⟨b3.1, b3.2.1, rfl, fun i hi => ?_, b3.2.2.2.2⟩, Or.inl ⟨rfl, g1.kept (fun j p q => s1 j (by omega) (by omega))⟩, by rw [Nat.zero_add]; exact s3, fun i hi => ?_, fun w hw => ?_⟩, fun j hj => ?_, fun _ => rfl⟩)
        · dsimp only
          split
          · rename_i q; exact b1.2.2.1 i q
          · rename_i q
            obtain ⟨v, hv', ev⟩ := vin_ex (by decide) (hv (i - hn) (by omega))
            rw [ev, nI_clamp (by omega)]; omega
        · dsimp only
          split
          · rename_i q; rw [h1 i q]; exact b3.2.2.2.1 i q
          · rename_i q
            have := h2 (i - hn) (by omega)
            rw [show hn + (i - hn) = i by omega] at this
            obtain ⟨v, hv', ev⟩ := vin_ex (by decide) (hv (i - hn) (by omega))
            rw [this, ev, nI_clamp (by omega)]
        · rw [Nat.zero_add]
          dsimp only
          split
          · rename_i q; rw [s1 _ (by omega) (by omega)]; have := g2.2.1 i q; rw [Nat.zero_add] at this; exact this
          · rename_i q
            have := s2 (i - hn) (by omega)
            rw [show 25 + hn + (i - hn) = 25 + i by omega] at this
            obtain ⟨v, hv', ev⟩ := vin_ex (by decide) (hv (i - hn) (by omega))
            rw [this, ev, nI_clamp (by omega)]
        · rw [s1 _ (by omega) (by omega)]; exact g2.2.2 w hw
        · rw [s1 _ (by omega) (by omega)]; exact g3.1 j hj
      have mono : ∀ {P Q : Int32 → Option Nat → Nat → Prop}, (∀ r o m, P r o m → Q r o m) → rdR ft cv hn n' P → rdR ft cv hn n' Q := fun hPQ hp => ⟨fun e => hPQ _ _ _ (hp.1 e), fun e => ⟨fun a => hPQ _ _ _ ((hp.2 e).1 a), fun a => ⟨fun b => hPQ _ _ _ (((hp.2 e).2 a).1 b), fun b => hPQ _ _ _ (((hp.2 e).2 a).2 b)⟩⟩⟩
      have all : rdR ft cv hn n' (fun r o m => ∀ st' : Nat → Int32, MT 0 T st' → MR 0 H N hn st' → KS st st' aw 1 → rdR ft cv hn n' (fun r' o' m' => ∀ hc', (∀ j, j < hn → hc' j = hc j) → (∀ j, j < m → hc' (hn + j) = cv j) → ∀ st'', (∀ j, (j < 25 + hn ∨ 25 + hn + m' ≤ j) → j ≠ 49 → st'' j = st' j) → (∀ j, j < m' → st'' (25 + hn + j) = cv j) → st'' 49 = nI (hn + m') → (r = r' ∧ tornV torn o = tornV torn o' ∧ RI d 1 st'' le pl (nI (hn + m)) hc' kn ∧ KS st st'' aw 1))) :=
        ⟨fun e st' g1 g2 g3 => (two st' g1 g2 g3).1 e, fun e => ⟨fun a st' g1 g2 g3 => ((two st' g1 g2 g3).2 e).1 a, fun a => ⟨fun b st' g1 g2 g3 => (((two st' g1 g2 g3).2 e).2 a).1 b, fun b st' g1 g2 g3 => (((two st' g1 g2 g3).2 e).2 a).2 b⟩⟩⟩
      refine mono (fun r o m hp hc' h1 h2 => ?_) all
      unfold wp_X12_read
      refine sp_X12_awake b4 (fun st' m1 m2 => ?_)
      have g2 : MR 0 H N hn st' := b5.kept hn24 (fun j a b => m2 j (by omega))
      have g3 : KS st st' aw 1 := ⟨fun j hj => m2 j (by omega), fun _ => rfl⟩
      refine sp_in0 (b := 3) (n := 4) (by decide) le_3 (fun q => absurd hin q) (fun _ => ⟨fun q => absurd q (by decide), fun _ => sp_in0 (b := 2) (n := 3) (by decide) le_2 (fun q => absurd cc q) (fun _ => ⟨fun q => absurd q (by decide), fun _ => sp_in0 (b := 24) (n := 25) (by decide) le_24 (fun q => absurd c25 q) (fun _ => ⟨fun _ => ?_, fun q => absurd q (by decide)⟩)⟩)⟩)
      refine sp_readM hk hn24 n24 f1 (by have := g2.1; rw [Nat.zero_add] at this; exact this) (fun i hi => f4 i hi torn st') f5 (mono (fun r' o' m' hq st'' s1 s2 s3 => hq hc' h1 h2 st'' s1 s2 s3) (hp st' m1 g2 g3))
    refine ⟨fun x0 => ?_, fun x1 => ?_, fun x2 => ?_, fun x3 => ?_⟩
    · subst x0
      obtain ⟨ft, cv, f1, f2, f3, f4, f5⟩ := rd_sheet (k := 0) (Y := Y) (f := f) (by omega) hY (hS.1)
      exact sp_readX hn24 (by omega) f1 f2 f3 (fin 0 (by omega) ft cv f1 f4 f5)
    · subst x1
      obtain ⟨ft, cv, f1, f2, f3, f4, f5⟩ := rd_sheet (k := 1) (Y := Y) (f := f) (by omega) hY (hS.2.1)
      exact sp_readX hn24 (by omega) f1 f2 f3 (fin 1 (by omega) ft cv f1 f4 f5)
    · subst x2
      obtain ⟨ft, cv, f1, f2, f3, f4, f5⟩ := rd_sheet (k := 2) (Y := Y) (f := f) (by omega) hY (hS.2.2.1)
      exact sp_readX hn24 (by omega) f1 f2 f3 (fin 2 (by omega) ft cv f1 f4 f5)
    · subst x3
      obtain ⟨ft, cv, f1, f2, f3, f4, f5⟩ := rd_sheet (k := 3) (Y := Y) (f := f) (by omega) hY (hS.2.2.2)
      exact sp_readX hn24 (by omega) f1 f2 f3 (fin 3 (by omega) ft cv f1 f4 f5)
  · have := (e25.mp q.2.2).2; rw [T_lt] at this; rw [T_le] at c5; have e1 : (24 : Int32).toInt = 24 := rfl; have e2 : (25 : Int32).toInt = 25 := rfl; omega
end
