/-! what is inserted stands in order -/
theorem ins_ord {R : Nat → Nat → Prop} {f g : Nat → Nat} {p k x : Nat} (hs : ∀ a b, a < b → b < p → R (f a) (f b)) (hk : k ≤ p) (q1 : ∀ j, j < k → g j = f j) (q2 : ∀ j, k < j → j ≤ p → g j = f (j - 1) ∧ R x (f (j - 1))) (gk : g k = x) (hx : ∀ j, j < k → R (f j) x) : ∀ a b, a < b → b ≤ p → R (g a) (g b) := by
  intro a b hab hb
  rcases Nat.lt_trichotomy a k with h1 | h1 | h1
  · rw [q1 a h1]
    rcases Nat.lt_trichotomy b k with h2 | h2 | h2
    · rw [q1 b h2]; exact hs a b hab (by omega)
    · rw [h2, gk]; exact hx a h1
    · rw [(q2 b h2 hb).1]; exact hs a (b - 1) (by omega) (by omega)
  · rw [h1, gk, (q2 b (by omega) hb).1]; exact (q2 b (by omega) hb).2
  · rw [(q2 a h1 (by omega)).1, (q2 b (by omega) hb).1]; exact hs (a - 1) (b - 1) (by omega) (by omega)
