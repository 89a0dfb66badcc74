/-! counting -/
def cnt (P : Nat → Bool) : Nat → Nat
  | 0 => 0
  | n + 1 => cnt P n + (if P n = true then 1 else 0)
theorem cn_le (P : Nat → Bool) : ∀ N, cnt P N ≤ N
  | 0 => Nat.le_refl _
  | N + 1 => by have := cn_le P N; simp only [cnt]; split <;> omega
theorem cn_eq {P Q : Nat → Bool} : ∀ {N : Nat}, (∀ k, k < N → P k = Q k) → cnt P N = cnt Q N
  | 0, _ => rfl
  | N + 1, h => by
    simp only [cnt]
    rw [cn_eq (N := N) (fun k hk => h k (by omega)), h N (by omega)]
theorem cn_add {P Q : Nat → Bool} {a : Nat} (hp : P a = false) (hq : Q a = true) : ∀ {N : Nat}, (∀ k, k < N → k ≠ a → P k = Q k) → a < N → cnt Q N = cnt P N + 1
  | 0, _, h => by omega
  | N + 1, h, ha => by
    simp only [cnt]
    rcases Nat.lt_or_ge a N with z | z
    · rw [cn_add hp hq (N := N) (fun k hk => h k (by omega)) z, h N (by omega) (by omega)]; omega
    · have e : a = N := by omega
      subst e
      rw [cn_eq (P := P) (Q := Q) (fun k hk => h k (by omega) (by omega)), hp, hq]
      simp
theorem cn_zero {P : Nat → Bool} : ∀ {N : Nat}, (∀ k, k < N → P k = false) → cnt P N = 0
  | 0, _ => rfl
  | N + 1, h => by
    simp only [cnt]
    rw [cn_zero (N := N) (fun k hk => h k (by omega)), h N (by omega)]; rfl
/-- a bijection between what is counted -/
theorem cn_bij {P : Nat → Bool} {N : Nat} (H : Nat → Bool) (l : Nat → Nat) : ∀ (c : Nat) (P : Nat → Bool),
    (∀ k, k < c → H k = true → l k < N ∧ P (l k) = true) →
    (∀ k k', k < c → k' < c → H k = true → H k' = true → l k = l k' → k = k') →
    (∀ n, n < N → P n = true → ∃ k, k < c ∧ H k = true ∧ l k = n) → cnt P N = cnt H c := by
  intro c
  induction c with
  | zero =>
    intro P _ _ h3
    rw [cn_zero]
    · rfl
    · intro k hk
      cases e : P k
      · rfl
      · obtain ⟨q, hq, _⟩ := h3 k hk e; omega
  | succ c ih =>
    intro P h1 h2 h3
    simp only [cnt]
    cases e : H c
    · rw [ih P (fun k hk => h1 k (by omega)) (fun k k' hk hk' => h2 k k' (by omega) (by omega))]
      · simp
      · intro n hn hp
        obtain ⟨k, hk, hH, hl⟩ := h3 n hn hp
        refine ⟨k, ?_, hH, hl⟩
        rcases Nat.lt_or_ge k c with z | z
        · exact z
        · have : k = c := by omega
          subst this; rw [e] at hH; exact absurd hH (by decide)
    · obtain ⟨q1, q2⟩ := h1 c (by omega) e
      have key := ih (fun n => P n && !(n == l c)) ?_ (fun k k' hk hk' => h2 k k' (by omega) (by omega)) ?_
      · rw [if_pos rfl, ← key]
        apply cn_add (a := l c)
        · simp
        · exact q2
        · intro k _ hk
          simp [hk]
        · exact q1
      · intro k hk hH
        obtain ⟨p1, p2⟩ := h1 k (by omega) hH
        refine ⟨p1, ?_⟩
        have : l k ≠ l c := fun hh => by
          have := h2 k c (by omega) (by omega) hH e hh
          omega
        simp [p2, this]
      · intro n hn hp
        simp at hp
        obtain ⟨k, hk, hH, hl⟩ := h3 n hn hp.1
        refine ⟨k, ?_, hH, hl⟩
        rcases Nat.lt_or_ge k c with z | z
        · exact z
        · have : k = c := by omega
          subst this; exact absurd hl.symm hp.2
/-- sums of naturals, for measures -/
def sm (f : Nat → Nat) : Nat → Nat
  | 0 => 0
  | n + 1 => sm f n + f n
theorem sm_eq {f g : Nat → Nat} : ∀ {N : Nat}, (∀ k, k < N → f k = g k) → sm f N = sm g N
  | 0, _ => rfl
  | N + 1, h => by simp only [sm]; rw [sm_eq (N := N) (fun k hk => h k (by omega)), h N (by omega)]
theorem sm_lt {f g : Nat → Nat} {a : Nat} (h : f a < g a) : ∀ {N : Nat}, (∀ k, k < N → k ≠ a → f k = g k) → a < N → sm f N < sm g N
  | 0, _, ha => by omega
  | N + 1, hh, ha => by
    simp only [sm]
    rcases Nat.lt_or_ge a N with z | z
    · have := sm_lt h (N := N) (fun k hk => hh k (by omega)) z
      have := hh N (by omega) (by omega)
      omega
    · have e : a = N := by omega
      subst e
      rw [sm_eq (f := f) (g := g) (fun k hk => hh k (by omega) (by omega))]; omega
