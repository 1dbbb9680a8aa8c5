theorem sp_X5_watch {wa : Nat → Int32} {a b : Nat} (ha : a < 600) (hb : b ≤ 60) {post : (Nat → Int32) → Prop} (h : ∀ wa', (∀ m, m < 600 → wa' m = if a ≤ m ∧ m < a + b then 1 else wa m) → post wa') : wp_X5_watch wa (nI a) (nI b) post := by
  have e0 : (if (0 : Int32) < nI a then nI a else 0) = nI a := by
    split
    · rfl
    · rename_i q
      rw [i0, nI_ltI (by omega) (by omega)] at q
      rw [show a = 0 by omega]; rfl
  unfold wp_X5_watch
  rw [e0]
  refine fix_iv (fun k v => v.1 = nI (a + k) ∧ (k ≤ 600 - a) ∧ ∀ m, m < 600 → v.2 m = if a ≤ m ∧ m < a + k then 1 else wa m) b (fun K k v hk hI hK => ?_) 0 (by omega) ⟨rfl, by omega, fun m hm => by rw [if_neg (by omega)]⟩
  obtain ⟨x3, w1⟩ := v
  obtain ⟨e1, e2, e3⟩ := hI
  dsimp only at e1 e3
  subst e1
  unfold F_X5_watch_6
  dsimp only
  rw [nI_add, nI_leI (by omega) (by omega), show (600 : Int32) = nI 600 from rfl, nI_leI (by omega) (by omega)]
  refine ⟨fun q => h w1 (fun m hm => ?_), fun q => ⟨fun q2 => h w1 (fun m hm => ?_), fun q2 => ⟨(vin_n (by omega)).mpr (by omega), ?_⟩⟩⟩
  · rw [e3 m hm, show a + k = a + b by omega]
  · rw [e3 m hm]
    by_cases z : a ≤ m
    · rw [if_pos (by omega), if_pos (by omega)]
    · rw [if_neg (by omega), if_neg (by omega)]
  · rw [nI_clamp (by omega), nI_1]
    refine hK (by omega) _ ⟨rfl, by omega, fun m hm => ?_⟩
    dsimp only
    by_cases z : m = a + k
    · rw [z, pk_us, if_pos (by omega)]; rfl
    · rw [pk_un z, e3 m hm]
      by_cases y : a ≤ m ∧ m < a + k
      · rw [if_pos y, if_pos (by omega)]
      · rw [if_neg y, if_neg (by omega)]
