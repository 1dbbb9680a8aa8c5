theorem dst_ok {B : Nat → Nat} {f : Nat} (hl : ∀ p, p < 25 → isLt (B (f + p)) = true) (h : dst B f = true) : okT (fun p => B (f + p) - 97) := by
  unfold dst at h
  rw [decide_eq_true_iff] at h
  have key : ∀ j k, j < k → k < 25 → ¬ B (f + j) = B (f + k) := fun j k hjk hk e => by
    have a := fnd_no (fun k => decide (fnd (fun j => B (f + j) == B (f + k)) k < k)) 25 k (by omega)
    have a := of_decide_eq_false a
    have b := fnd_no (fun j => B (f + j) == B (f + k)) k j (by have := fnd_le (fun j => B (f + j) == B (f + k)) k; omega)
    simp [e] at b
  refine ⟨fun p hp => ?_, fun p q hp hq e => ?_⟩
  · have := isLt_iff.mp (hl p hp); show B (f + p) - 97 < 26; omega
  · have a := isLt_iff.mp (hl p hp)
    have b := isLt_iff.mp (hl q hq)
    have e : B (f + p) - 97 = B (f + q) - 97 := e
    have e : B (f + p) = B (f + q) := by omega
    rcases Nat.lt_trichotomy p q with z | z | z
    · exact absurd e (key p q z hq)
    · exact z
    · exact absurd e.symm (key q p z hp)
