/-! grow, shrink -/
def bN (b : Bool) : Nat := if b = true then 1 else 0
theorem cn_s (P : Nat → Bool) (m : Nat) : cnt P (m + 1) = cnt P m + bN (P m) := rfl
theorem cn_pos {P : Nat → Bool} : ∀ {N : Nat}, 1 ≤ cnt P N ↔ ∃ k, k < N ∧ P k = true
  | 0 => ⟨fun h => absurd h (by simp [cnt]), fun ⟨k, hk, _⟩ => by omega⟩
  | N + 1 => by
    simp only [cnt]
    by_cases h : P N = true
    · exact ⟨fun _ => ⟨N, by omega, h⟩, fun _ => by rw [if_pos h]; omega⟩
    · rw [if_neg h, Nat.add_zero, cn_pos (N := N)]
      constructor
      · rintro ⟨k, hk, hp⟩; exact ⟨k, by omega, hp⟩
      · rintro ⟨k, hk, hp⟩
        refine ⟨k, ?_, hp⟩
        rcases Nat.lt_or_ge k N with z | z
        · exact z
        · have : k = N := by omega
          subst this; exact absurd hp h
theorem sm_pos {f : Nat → Nat} : ∀ {N : Nat}, 1 ≤ sm f N ↔ ∃ k, k < N ∧ 1 ≤ f k
  | 0 => ⟨fun h => absurd h (by simp [sm]), fun ⟨k, hk, _⟩ => by omega⟩
  | N + 1 => by
    simp only [sm]
    by_cases h : 1 ≤ f N
    · exact ⟨fun _ => ⟨N, by omega, h⟩, fun _ => by omega⟩
    · have : f N = 0 := by omega
      rw [this, Nat.add_zero, sm_pos (N := N)]
      constructor
      · rintro ⟨k, hk, hp⟩; exact ⟨k, by omega, hp⟩
      · rintro ⟨k, hk, hp⟩
        refine ⟨k, ?_, hp⟩
        rcases Nat.lt_or_ge k N with z | z
        · exact z
        · have : k = N := by omega
          subst this; exact absurd hp h
theorem cn_full {P : Nat → Bool} : ∀ {N : Nat}, N ≤ cnt P N ↔ ∀ k, k < N → P k = true
  | 0 => ⟨fun _ k hk => by omega, fun _ => Nat.zero_le _⟩
  | N + 1 => by
    simp only [cnt]
    have hl := cn_le P N
    by_cases h : P N = true
    · rw [if_pos h]
      constructor
      · intro hh k hk
        rcases Nat.lt_or_ge k N with z | z
        · exact (cn_full (N := N)).mp (by omega) k z
        · have : k = N := by omega
          subst this; exact h
      · intro hh
        have := (cn_full (P := P) (N := N)).mpr (fun k hk => hh k (by omega))
        omega
    · rw [if_neg h]
      exact ⟨fun hh => by omega, fun hh => absurd (hh N (by omega)) h⟩
theorem sm_le {f : Nat → Nat} {w : Nat} : ∀ {N : Nat}, (∀ k, k < N → f k ≤ w) → sm f N ≤ N * w
  | 0, _ => by simp [sm]
  | N + 1, h => by
    simp only [sm]
    have := sm_le (N := N) (fun k hk => h k (by omega))
    have := h N (by omega)
    rw [Nat.succ_mul]; omega
theorem sm_full {f : Nat → Nat} {w : Nat} : ∀ {N : Nat}, (∀ k, k < N → f k ≤ w) → (N * w ≤ sm f N ↔ ∀ k, k < N → w ≤ f k)
  | 0, _ => ⟨fun _ k hk => by omega, fun _ => by simp⟩
  | N + 1, h => by
    simp only [sm]
    have h1 := sm_le (N := N) (fun k hk => h k (by omega))
    have h2 := h N (by omega)
    have ih := sm_full (N := N) (fun k hk => h k (by omega))
    rw [Nat.succ_mul]
    constructor
    · intro hh k hk
      rcases Nat.lt_or_ge k N with z | z
      · exact ih.mp (by omega) k z
      · have : k = N := by omega
        subst this; omega
    · intro hh
      have a := ih.mpr (fun k hk => hh k (by omega))
      have b := hh N (by omega)
      omega
theorem sq_full {h w M : Nat} (h1 : h ≤ M) (h2 : w ≤ M) (hM : 1 ≤ M) (hh : M * M ≤ h * w) : h = M ∧ w = M := by
  have a : h * w ≤ h * M := Nat.mul_le_mul_left h h2
  have b : h * w ≤ M * w := Nat.mul_le_mul_right w h1
  constructor
  · have : M * M ≤ h * M := by omega
    have := Nat.le_of_mul_le_mul_right this (by omega)
    omega
  · have : M * M ≤ M * w := by omega
    have := Nat.le_of_mul_le_mul_left this (by omega)
    omega
def wLo (i R : Int) : Int := if i ≤ R then 0 else i - R
def wHi (i R : Int) : Int := if i + R < 24 then i + R else 24
def wWd (i R : Int) : Nat := (wHi i R - wLo i R + 1).toNat
def rwc (g : Int → Int → Bool) (i R jj : Int) : Nat := cnt (fun t => g (wLo i R + t) jj) (wWd i R)
def wcn (g : Int → Int → Bool) (i j R : Int) : Nat := sm (fun t => rwc g i R (wLo j R + t)) (wWd j R)
theorem wl_r {i R : Int} (hi : 0 ≤ i ∧ i ≤ 24) (hR : 0 ≤ R) : 0 ≤ wLo i R ∧ wLo i R ≤ i ∧ i ≤ wHi i R ∧ wHi i R ≤ 24 := by
  unfold wLo wHi; split <;> split <;> omega
theorem wl_i {i R u : Int} (hi : 0 ≤ i ∧ i ≤ 24) (hR : 0 ≤ R) : (wLo i R ≤ u ∧ u ≤ wHi i R) ↔ (0 ≤ u ∧ u ≤ 24) ∧ i - R ≤ u ∧ u ≤ i + R := by
  unfold wLo wHi; split <;> split <;> omega
def NE (g : Int → Int → Bool) (i j R : Int) : Prop := ∃ u v, ((0 ≤ u ∧ u ≤ 24) ∧ i - R ≤ u ∧ u ≤ i + R) ∧ ((0 ≤ v ∧ v ≤ 24) ∧ j - R ≤ v ∧ v ≤ j + R) ∧ g u v = true
def AL (g : Int → Int → Bool) (i j R : Int) : Prop := (R ≤ i ∧ i ≤ 24 - R) ∧ (R ≤ j ∧ j ≤ 24 - R) ∧ ∀ u v, i - R ≤ u → u ≤ i + R → j - R ≤ v → v ≤ j + R → g u v = true
theorem wc_1 {g : Int → Int → Bool} {i j R : Int} (hi : 0 ≤ i ∧ i ≤ 24) (hj : 0 ≤ j ∧ j ≤ 24) (hR : 0 ≤ R) : 1 ≤ wcn g i j R ↔ NE g i j R := by
  have r1 := wl_r hi hR
  have r2 := wl_r hj hR
  unfold wcn
  rw [sm_pos]
  constructor
  · rintro ⟨t, ht, h⟩
    unfold rwc at h
    rw [cn_pos] at h
    obtain ⟨s, hs, h⟩ := h
    unfold wWd at ht hs
    exact ⟨_, _, (wl_i hi hR).mp (by omega), (wl_i hj hR).mp (by omega), h⟩
  · rintro ⟨u, v, hu, hv, h⟩
    have hu' := (wl_i hi hR).mpr hu
    have hv' := (wl_i hj hR).mpr hv
    refine ⟨(v - wLo j R).toNat, by unfold wWd; omega, ?_⟩
    unfold rwc
    rw [cn_pos]
    refine ⟨(u - wLo i R).toNat, by unfold wWd; omega, ?_⟩
    have e1 : wLo i R + ((u - wLo i R).toNat : Int) = u := by omega
    have e2 : wLo j R + ((v - wLo j R).toNat : Int) = v := by omega
    show g (wLo i R + ((u - wLo i R).toNat : Int)) (wLo j R + ((v - wLo j R).toNat : Int)) = true
    rw [e1, e2]; exact h
theorem wc_le {g : Int → Int → Bool} {i j R : Int} : wcn g i j R ≤ wWd j R * wWd i R := by
  unfold wcn
  exact sm_le (fun k hk => cn_le _ _)
theorem wc_b {g : Int → Int → Bool} {i j R : Int} (hi : 0 ≤ i ∧ i ≤ 24) (hj : 0 ≤ j ∧ j ≤ 24) (hR : 0 ≤ R) : wcn g i j R ≤ 625 := by
  have r1 := wl_r hi hR
  have r2 := wl_r hj hR
  have h := wc_le (g := g) (i := i) (j := j) (R := R)
  have a : wWd j R ≤ 25 := by unfold wWd; omega
  have b : wWd i R ≤ 25 := by unfold wWd; omega
  have := Nat.mul_le_mul a b
  omega
theorem wc_2 {g : Int → Int → Bool} {i j R : Int} (hi : 0 ≤ i ∧ i ≤ 24) (hj : 0 ≤ j ∧ j ≤ 24) (hR : 0 ≤ R) : (2 * R + 1).toNat * (2 * R + 1).toNat ≤ wcn g i j R ↔ AL g i j R := by
  have r1 := wl_r hi hR
  have r2 := wl_r hj hR
  constructor
  · intro h
    have h2 := wc_le (g := g) (i := i) (j := j) (R := R)
    have d1 : wWd j R ≤ (2 * R + 1).toNat := by unfold wWd wHi wLo; split <;> split <;> omega
    have d2 : wWd i R ≤ (2 * R + 1).toNat := by unfold wWd wHi wLo; split <;> split <;> omega
    obtain ⟨e1, e2⟩ := sq_full d1 d2 (by omega) (by omega)
    have x1 : R ≤ i ∧ i ≤ 24 - R := by unfold wWd wHi wLo at e2; split at e2 <;> split at e2 <;> omega
    have x2 : R ≤ j ∧ j ≤ 24 - R := by unfold wWd wHi wLo at e1; split at e1 <;> split at e1 <;> omega
    refine ⟨x1, x2, fun u v u0 u1 v0 v1 => ?_⟩
    have hu' := (wl_i (u := u) hi hR).mpr (by omega)
    have hv' := (wl_i (u := v) hj hR).mpr (by omega)
    have full := (sm_full (f := fun t => rwc g i R (wLo j R + t)) (w := wWd i R) (N := wWd j R) (fun k hk => cn_le _ _)).mp (by
      show wWd j R * wWd i R ≤ wcn g i j R
      rw [e1, e2]; exact h)
    have row := full (v - wLo j R).toNat (by unfold wWd; omega)
    have row2 := cn_full.mp row (u - wLo i R).toNat (by unfold wWd; omega)
    have z1 : wLo i R + ((u - wLo i R).toNat : Int) = u := by omega
    have z2 : wLo j R + ((v - wLo j R).toNat : Int) = v := by omega
    have row3 : g (wLo i R + ((u - wLo i R).toNat : Int)) (wLo j R + ((v - wLo j R).toNat : Int)) = true := row2
    rw [z1, z2] at row3; exact row3
  · rintro ⟨x1, x2, h⟩
    have l1 : wLo i R = i - R := by unfold wLo; split <;> omega
    have l2 : wLo j R = j - R := by unfold wLo; split <;> omega
    have l3 : wHi i R = i + R := by unfold wHi; split <;> omega
    have l4 : wHi j R = j + R := by unfold wHi; split <;> omega
    have e1 : wWd j R = (2 * R + 1).toNat := by unfold wWd; rw [l2, l4]; omega
    have e2 : wWd i R = (2 * R + 1).toNat := by unfold wWd; rw [l1, l3]; omega
    have key : wWd j R * wWd i R ≤ wcn g i j R := by
      refine (sm_full (f := fun t => rwc g i R (wLo j R + t)) (w := wWd i R) (N := wWd j R) (fun k hk => cn_le _ _)).mpr (fun k hk => ?_)
      refine cn_full.mpr (fun t ht => ?_)
      show g (wLo i R + (t : Int)) (wLo j R + (k : Int)) = true
      rw [e1] at hk
      rw [e2] at ht
      exact h _ _ (by omega) (by omega) (by omega) (by omega)
    rw [e1, e2] at key; exact key
def KC (g : Int → Int → Bool) (R m : Int) (i j : Int) : Bool := decide (Gd i j ∧ m ≤ (wcn g i j R : Int))
theorem kc_s {g : Int → Int → Bool} {R m : Int} : Sup (KC g R m) := by
  intro i j h
  unfold KC at h
  rw [decide_eq_true_eq] at h
  exact h.1
theorem kc_1 {g : Int → Int → Bool} {R i j : Int} (hR : 0 ≤ R) (gd : Gd i j) : KC g R 1 i j = true ↔ NE g i j R := by
  unfold KC
  rw [decide_eq_true_eq, ← wc_1 (by omega) (by omega) hR]
  exact ⟨fun h => by omega, fun h => ⟨gd, by omega⟩⟩
theorem kc_2 {g : Int → Int → Bool} {R i j : Int} (hR : 0 ≤ R) (gd : Gd i j) : KC g R ((2 * R + 1) * (2 * R + 1)) i j = true ↔ AL g i j R := by
  unfold KC
  have e : (2 * R + 1) * (2 * R + 1) = (((2 * R + 1).toNat * (2 * R + 1).toNat : Nat) : Int) := by
    rw [Int.natCast_mul]
    have : ((2 * R + 1).toNat : Int) = 2 * R + 1 := by omega
    rw [this]
  rw [decide_eq_true_eq, ← wc_2 (by omega) (by omega) hR, e]
  exact ⟨fun h => by omega, fun h => ⟨gd, by omega⟩⟩
section
variable {c rc gc lr rk : Int32} {cx cy re st dg : Nat → Int32} {S : Int → Int → Int → Bool}
theorem ca_i {a : Nat → Int32} {post : Int32 → Prop} {J : Int32 → Int32 → Prop} (P : XP a S) {i j R jj k : Int} (hi : 0 ≤ i ∧ i ≤ 24) (hR : 0 ≤ R ∧ R ≤ 24) (hjj : 0 ≤ jj ∧ jj ≤ 24)
    (hJ : J (zI (k + rwc (S 6) i R jj)) (zI (jj + 1))) :
    ∀ (N : Nat) (ii : Int), wLo i R ≤ ii → ii ≤ wHi i R + 1 → (wHi i R + 1 - ii).toNat < N → wX_countAside_54 post J (zI i) (zI j) (zI R) (zI (wLo i R)) (zI jj) c rc gc lr rk a cx cy re st dg N (zI (k + cnt (fun t => S 6 (wLo i R + t) jj) (ii - wLo i R).toNat)) (zI ii) := by
  have r1 := wl_r hi hR.1
  intro N
  induction N with
  | zero => intro ii h0 h1; omega
  | succ N ih =>
    intro ii h0 h1 h2
    have fin : wHi i R < ii → J (zI (k + cnt (fun t => S 6 (wLo i R + t) jj) (ii - wLo i R).toNat)) (zI (jj + 1)) := by
      intro h
      have e : (ii - wLo i R).toNat = wWd i R := by unfold wWd; omega
      rw [e]; exact hJ
    have hw : wHi i R = 24 ∨ wHi i R = i + R := by unfold wHi; split <;> omega
    have hw2 : wHi i R ≤ i + R := by unfold wHi; split <;> omega
    refine zb_lt 24 ii (fun h => nm_r (zi_1 jj) (fin (by omega))) (fun h => zb_lt (i + R) ii (fun h3 => nm_r (zi_1 jj) (fin (by omega))) (fun h3 => ?_) (zi_add i R))
    have e1 : (ii + 1 - wLo i R).toNat = (ii - wLo i R).toNat + 1 := by omega
    have e2 : wLo i R + ((ii - wLo i R).toNat : Int) = ii := by omega
    have w := ih (ii + 1) (by omega) (by omega) (by omega)
    rw [e1, cn_s] at w
    rw [e2] at w
    refine xp_has P 6 ii jj (by omega) (by omega) (by omega) (bb_0 (fun e => nm_r (zi_1 ii) ?_) (fun e => nm_r (zi_1 _) (nm_r (zi_1 ii) ?_)))
    · rw [e] at w; exact w
    · rw [e] at w
      have e3 : k + ↑(cnt (fun t => S 6 (wLo i R + ↑t) jj) (ii - wLo i R).toNat) + 1 = k + ↑(cnt (fun t => S 6 (wLo i R + ↑t) jj) (ii - wLo i R).toNat + bN true) := by
        have : bN true = 1 := rfl
        rw [this]; omega
      rw [e3]; exact w
theorem ca_o {a : Nat → Int32} {post : Int32 → Prop} (P : XP a S) {i j R : Int} (hi : 0 ≤ i ∧ i ≤ 24) (hj : 0 ≤ j ∧ j ≤ 24) (hR : 0 ≤ R ∧ R ≤ 24)
    (f : post (zI (wcn (S 6) i j R))) :
    ∀ (N : Nat) (jj : Int), wLo j R ≤ jj → jj ≤ wHi j R + 1 → (wHi j R + 1 - jj).toNat < N → wX_countAside_35 post (zI i) (zI j) (zI R) (zI (wLo i R)) c rc gc lr rk a cx cy re st dg N (zI (sm (fun t => rwc (S 6) i R (wLo j R + t)) (jj - wLo j R).toNat)) (zI jj) := by
  have r1 := wl_r hi hR.1
  have r2 := wl_r hj hR.1
  intro N
  induction N with
  | zero => intro ii h0 h1; omega
  | succ N ih =>
    intro jj h0 h1 h2
    have fin : wHi j R < jj → post (zI (sm (fun t => rwc (S 6) i R (wLo j R + t)) (jj - wLo j R).toNat)) := by
      intro h
      have e : (jj - wLo j R).toNat = wWd j R := by unfold wWd; omega
      rw [e]; exact f
    have hw : wHi j R = 24 ∨ wHi j R = j + R := by unfold wHi; split <;> omega
    have hw2 : wHi j R ≤ j + R := by unfold wHi; split <;> omega
    refine zb_lt 24 jj (fun h => fin (by omega)) (fun h => zb_lt (j + R) jj (fun h3 => fin (by omega)) (fun h3 => ⟨26, ?_⟩) (zi_add j R))
    have e1 : (jj + 1 - wLo j R).toNat = (jj - wLo j R).toNat + 1 := by omega
    have e2 : wLo j R + ((jj - wLo j R).toNat : Int) = jj := by omega
    have w := ih (jj + 1) (by omega) (by omega) (by omega)
    rw [e1] at w
    simp only [sm] at w
    rw [e2] at w
    have e4 : (wLo i R - wLo i R).toNat = 0 := by omega
    have e5 : zI (sm (fun t => rwc (S 6) i R (wLo j R + t)) (jj - wLo j R).toNat) = zI ((sm (fun t => rwc (S 6) i R (wLo j R + t)) (jj - wLo j R).toNat : Int) + cnt (fun t => S 6 (wLo i R + t) jj) (wLo i R - wLo i R).toNat) := by
      rw [e4]; simp [cnt]
    rw [e5]
    refine ca_i P hi hR (by omega) ?_ 26 (wLo i R) (by omega) (by omega) (by omega)
    rw [← Int.natCast_add]; exact w
theorem xp_ca {a : Nat → Int32} {post : Int32 → Prop} (P : XP a S) {i j R : Int} (hi : 0 ≤ i ∧ i ≤ 24) (hj : 0 ≤ j ∧ j ≤ 24) (hR : 0 ≤ R ∧ R ≤ 24)
    (f : post (zI (wcn (S 6) i j R))) : wpX_countAside post (c, rc, gc, lr, rk, a, cx, cy, re, st, dg) (zI i) (zI j) (zI R) := by
  have r1 := wl_r hi hR.1
  have r2 := wl_r hj hR.1
  have k12 : ∀ z : Int, z = wLo i R → wX_countAside_12 post (zI i) (zI j) (zI R) (zI z) c rc gc lr rk a cx cy re st dg := by
    intro z ez
    rw [ez]
    have go : ∀ y : Int, y = wLo j R → ∃ N, wX_countAside_35 post (zI i) (zI j) (zI R) (zI (wLo i R)) c rc gc lr rk a cx cy re st dg N 0 (zI y) := by
      intro y ey
      rw [ey]
      have w := ca_o (c := c) (rc := rc) (gc := gc) (lr := lr) (rk := rk) (cx := cx) (cy := cy) (re := re) (st := st) (dg := dg) P hi hj hR f 27 (wLo j R) (by omega) (by omega) (by omega)
      have e4 : (wLo j R - wLo j R).toNat = 0 := by omega
      rw [e4] at w
      exact ⟨27, w⟩
    unfold wX_countAside_12
    refine zb_le j R (fun h => go 0 ?_) (fun h => nm_r (zi_sub j R) (go _ ?_))
    · unfold wLo; rw [if_pos h]
    · unfold wLo; rw [if_neg (by omega)]
  unfold wpX_countAside
  dsimp only
  rw [zi_sub]
  refine zb_le i R (fun h => k12 0 ?_) (fun h => k12 _ ?_)
  · unfold wLo; rw [if_pos h]
  · unfold wLo; rw [if_neg (by omega)]
theorem kc_i {post : SX → Prop} {J : Int32 → Int32 → Int32 → Int32 → Int32 → Int32 → (Nat → Int32) → (Nat → Int32) → (Nat → Int32) → (Nat → Int32) → (Nat → Int32) → (Nat → Int32) → Prop} {l R m j : Int} (hl : 0 ≤ l ∧ l ≤ 5) (hR : 0 ≤ R ∧ R ≤ 24) (hm : 0 ≤ m ∧ m ≤ 10000) (hj : 0 ≤ j ∧ j ≤ 24)
    (hJ : ∀ a', XP a' (swp S l (KC (S 6) R m) 0 (j + 1)) → J (zI (j + 1)) c rc gc lr rk a' cx cy re st dg) :
    ∀ (N : Nat) (i : Int) (a : Nat → Int32), 0 ≤ i → i ≤ 25 → (25 - i).toNat < N → XP a (swp S l (KC (S 6) R m) i j) → wX_keepCrowded_20 post J (zI l) (zI R) (zI m) (zI j) N (zI i) c rc gc lr rk a cx cy re st dg := by
  intro N
  induction N with
  | zero => intro i a h0 h1; omega
  | succ N ih =>
    intro i a h0 h1 h2 P
    refine zb_le 25 i (fun h => ?_) (fun h => ?_)
    · have e : i = 25 := by omega
      subst e; exact nm_r (zi_1 j) (hJ a (px_c P sw_r))
    · have w45 : ∀ b : Bool, b = KC (S 6) R m i j → wX_keepCrowded_45 post J (wX_keepCrowded_20 post J (zI l) (zI R) (zI m) (zI j) N) (zI l) (zI R) (zI m) (zI j) (zI i) (bI b) c rc gc lr rk a cx cy re st dg := by
        intro b eb
        unfold wX_keepCrowded_45
        refine xp_write P l i j b (by omega) (by omega) (fun a' P' => nm_r (zi_1 i) (ih (i + 1) a' (by omega) (by omega) (by omega) ?_))
        rw [eb] at P'
        exact px_c P' (sw_w (by omega))
      have hb := wc_b (g := S 6) (i := i) (j := j) (R := R) (by omega) (by omega) hR.1
      refine xp_ca P (by omega) hj hR ?_
      rw [sw_o (by omega)]
      refine zb_lt (wcn (S 6) i j R : Int) m (fun q => w45 false ?_) (fun q => w45 true ?_)
      · unfold KC; symm; rw [decide_eq_false_iff_not]; omega
      · unfold KC; symm; rw [decide_eq_true_eq]; omega
theorem kc_o {post : SX → Prop} {l R m : Int} (hl : 0 ≤ l ∧ l ≤ 5) (hR : 0 ≤ R ∧ R ≤ 24) (hm : 0 ≤ m ∧ m ≤ 10000) (H : HS S)
    (f : ∀ a', XP a' (setl S l (KC (S 6) R m)) → post (c, rc, gc, lr, rk, a', cx, cy, re, st, dg)) :
    ∀ (N : Nat) (j : Int) (a : Nat → Int32), 0 ≤ j → j ≤ 25 → (25 - j).toNat < N → XP a (swp S l (KC (S 6) R m) 0 j) → wX_keepCrowded_10 post (zI l) (zI R) (zI m) N (zI j) c rc gc lr rk a cx cy re st dg := by
  intro N
  induction N with
  | zero => intro i a h0 h1; omega
  | succ N ih =>
    intro j a h0 h1 h2 P
    refine zb_le 25 j (fun h => ?_) (fun h => ⟨26, kc_i hl hR hm (by omega) (fun a' P' => ih (j + 1) a' (by omega) (by omega) (by omega) P') 26 0 a (by omega) (by omega) (by omega) P⟩)
    have e : j = 25 := by omega
    subst e
    exact f a (sw_set H kc_s P)
theorem xp_kc {a : Nat → Int32} {post : SX → Prop} (P : XP a S) {l R m : Int} (hl : 0 ≤ l ∧ l ≤ 5) (hR : 0 ≤ R ∧ R ≤ 24) (hm : 0 ≤ m ∧ m ≤ 10000)
    (f : ∀ a' S', XP a' S' → (∀ s, s ≤ 5 → S' s = setl S l (KC (S l) R m) s) → post (c, rc, gc, lr, rk, a', cx, cy, re, st, dg)) : wpX_keepCrowded post (c, rc, gc, lr, rk, a, cx, cy, re, st, dg) (zI l) (zI R) (zI m) := by
  unfold wpX_keepCrowded
  refine xp_as P l 2 true hl (by omega) (fun a1 P1 => ⟨26, ?_⟩)
  have Hl : Sup (S l) := fun i j => P.2 l i j
  rw [as_2 Hl] at P1
  have e6 : setl S 6 (S l) 6 = S l := by unfold setl; rw [if_pos rfl]
  refine kc_o (S := setl S 6 (S l)) hl hR hm P1.2 (fun a2 P2 => f a2 _ P2 (fun s hs => ?_)) 26 0 a1 (by omega) (by omega) (by omega) (px_c P1 sw_0)
  rw [e6]
  unfold setl
  by_cases e : s = l
  · rw [if_pos e, if_pos e]
  · rw [if_neg e, if_neg e, if_neg (by omega)]
end
