section
/-! Int32 by integers: locals and indices are zI z with z an Int -/
def zI (z : Int) : Int32 := Int32.ofInt z
theorem zi_toInt {z : Int} (h : -2147483648 ≤ z ∧ z < 2147483648) : (zI z).toInt = z :=
  Int32.toInt_ofInt_of_le h.1 h.2
theorem zi_ex (x : Int32) : ∃ z : Int, (-2147483648 ≤ z ∧ z < 2147483648) ∧ x = zI z :=
  ⟨x.toInt, ⟨x.le_toInt, x.toInt_lt⟩, (Int32.ofInt_toInt x).symm⟩
theorem zi_add (a b : Int) : zI a + zI b = zI (a + b) := (Int32.ofInt_add a b).symm
theorem zi_sub (a b : Int) : zI a - zI b = zI (a - b) := (Int32.ofInt_sub a b).symm
theorem zi_mul (a b : Int) : zI a * zI b = zI (a * b) := (Int32.ofInt_mul a b).symm
theorem zi_1 (a : Int) : zI a + 1 = zI (a + 1) := zi_add a 1
theorem zi_2 (a : Int) : zI a + 2 = zI (a + 2) := zi_add a 2
theorem zi_m1 (a : Int) : zI a + (-1) = zI (a - 1) := by
  have h : zI a + zI (-1) = zI (a + -1) := zi_add a (-1)
  exact h
theorem zi_s1 (a : Int) : zI a - 1 = zI (a - 1) := zi_sub a 1
theorem zi_dbl (a : Int) : 2 * zI a = zI (2 * a) := zi_mul 2 a
theorem zi_lt {a b : Int} (ha : -2147483648 ≤ a ∧ a < 2147483648) (hb : -2147483648 ≤ b ∧ b < 2147483648) : zI a < zI b ↔ a < b := by
  rw [Int32.lt_iff_toInt_lt, zi_toInt ha, zi_toInt hb]
theorem zi_le {a b : Int} (ha : -2147483648 ≤ a ∧ a < 2147483648) (hb : -2147483648 ≤ b ∧ b < 2147483648) : zI a ≤ zI b ↔ a ≤ b := by
  rw [Int32.le_iff_toInt_le, zi_toInt ha, zi_toInt hb]
theorem zi_eq {a b : Int} (ha : -2147483648 ≤ a ∧ a < 2147483648) (hb : -2147483648 ≤ b ∧ b < 2147483648) : zI a = zI b ↔ a = b := by
  rw [← Int32.toInt_inj, zi_toInt ha, zi_toInt hb]
theorem zi_cl {z : Int} (h : -2147483648 ≤ z ∧ z < 2147483648) : (zI z).toNatClampNeg = z.toNat :=
  Int32.toNatClampNeg_ofInt_of_le h.1 h.2
theorem zi_in {z : Int} {N : Nat} (h : 0 ≤ z ∧ z < N) (hN : N < 2147483648) : vp_in (zI z) N := by
  rw [vp_in_iff, zi_toInt ⟨by omega, by omega⟩]; exact h
theorem zi_div {a : Int} {d : Int} (ha : 0 ≤ a ∧ a < 2147483648) (hd : 0 < d ∧ d < 2147483648) : zI a / zI d = zI (a / d) := by
  have h := Int32.ofInt_tdiv (a := a) (b := d) (by show (-2147483648 : Int) ≤ a; omega) (by show a ≤ (2147483647 : Int); omega) (by show (-2147483648 : Int) ≤ d; omega) (by show d ≤ (2147483647 : Int); omega)
  rw [Int.tdiv_eq_ediv_of_nonneg ha.1] at h
  exact h.symm
theorem zi_rem {a : Int} {d : Int} (ha : 0 ≤ a ∧ a < 2147483648) (hd : 0 < d ∧ d < 2147483648) : zI a - zI a / zI d * zI d = zI (a % d) := by
  rw [zi_div ha hd, zi_mul, zi_sub]
  congr 1
  have := Int.mul_ediv_add_emod a d
  have e : a / d * d = d * (a / d) := Int.mul_comm _ _
  omega
theorem zi_and1 {a : Int} (ha : -2147483648 ≤ a ∧ a < 2147483648) : zI a &&& 1 = zI (a % 2) := by
  apply Int32.toBitVec_inj.mp
  apply BitVec.eq_of_toNat_eq
  have e1 : (zI a &&& 1).toBitVec.toNat = (zI a).toBitVec.toNat % 2 := by
    rw [Int32.toBitVec_and, BitVec.toNat_and]
    exact Nat.and_two_pow_sub_one_eq_mod _ 1
  have e2 : (zI a).toBitVec = BitVec.ofInt 32 a := rfl
  have e3 : (zI (a % 2)).toBitVec = BitVec.ofInt 32 (a % 2) := rfl
  rw [e1, e2, e3, BitVec.toNat_ofInt, BitVec.toNat_ofInt]
  omega
/-! branches by integers -/
theorem zb_lt {x y : Int32} {A B : Prop} (a b : Int) (f : a < b → A) (g : b ≤ a → B) (hx : x = zI a := by rfl) (hy : y = zI b := by rfl) (ha : -2147483648 ≤ a ∧ a < 2147483648 := by omega) (hb : -2147483648 ≤ b ∧ b < 2147483648 := by omega) : (x < y → A) ∧ (¬ x < y → B) := by
  rw [hx, hy, zi_lt ha hb]; exact ⟨f, fun h => g (by omega)⟩
theorem zb_le {x y : Int32} {A B : Prop} (a b : Int) (f : a ≤ b → A) (g : b < a → B) (hx : x = zI a := by rfl) (hy : y = zI b := by rfl) (ha : -2147483648 ≤ a ∧ a < 2147483648 := by omega) (hb : -2147483648 ≤ b ∧ b < 2147483648 := by omega) : (x ≤ y → A) ∧ (¬ x ≤ y → B) := by
  rw [hx, hy, zi_le ha hb]; exact ⟨f, fun h => g (by omega)⟩
theorem zb_eq {x y : Int32} {A B : Prop} (a b : Int) (f : a = b → A) (g : a ≠ b → B) (hx : x = zI a := by rfl) (hy : y = zI b := by rfl) (ha : -2147483648 ≤ a ∧ a < 2147483648 := by omega) (hb : -2147483648 ≤ b ∧ b < 2147483648 := by omega) : (x = y → A) ∧ (¬ x = y → B) := by
  rw [hx, hy, zi_eq ha hb]; exact ⟨f, g⟩
theorem zv_in {x : Int32} {N : Nat} (z : Int) (h : 0 ≤ z ∧ z < N := by omega) (hx : x = zI z := by rfl) (hN : N < 2147483648 := by omega) : vp_in x N := by
  rw [hx]; exact zi_in h hN
theorem zv_cl {x : Int32} (z : Int) (hx : x = zI z := by rfl) (h : -2147483648 ≤ z ∧ z < 2147483648 := by omega) : x.toNatClampNeg = z.toNat := by
  rw [hx]; exact zi_cl h
/-! booleans -/
def bI (b : Bool) : Int32 := if b = true then 1 else 0
def bZ (b : Bool) : Int := if b = true then 1 else 0
theorem bi_z (b : Bool) : bI b = zI (bZ b) := by cases b <;> rfl
theorem bz_r (b : Bool) : 0 ≤ bZ b ∧ bZ b ≤ 1 := by cases b <;> decide
theorem bi_n (b : Bool) : narrow .boolean (.int (bI b)) = .int (bI b) := by cases b <;> rfl
theorem bi_v (b : Bool) : vp_nar .boolean (bI b) = bI b := by cases b <;> rfl
theorem bi_0 (b : Bool) : bI b = 0 ↔ b = false := by cases b <;> decide
theorem bi_eq (b c : Bool) : bI b = bI c ↔ b = c := by cases b <;> cases c <;> decide
/-- a branch on a boolean -/
theorem bb_0 {b : Bool} {A B : Prop} (f : b = false → A) (g : b = true → B) : (bI b = 0 → A) ∧ (¬ bI b = 0 → B) := by
  cases b
  · exact ⟨fun _ => f rfl, fun h => absurd rfl h⟩
  · exact ⟨fun h => absurd h (by decide), fun _ => g rfl⟩
theorem bb_e {b c : Bool} {A B : Prop} (f : b = c → A) (g : b ≠ c → B) : (bI b = bI c → A) ∧ (¬ bI b = bI c → B) := by
  rw [bi_eq]; exact ⟨f, g⟩
end
section
/-! counting -/
def cnt (P : Nat → Bool) : Nat → Nat
  | 0 => 0
  | n + 1 => cnt P n + (if P n = true then 1 else 0)
theorem cn_le (P : Nat → Bool) : ∀ N, cnt P N ≤ N
  | 0 => Nat.le_refl _
  | N + 1 => by have := cn_le P N; simp only [cnt]; split <;> omega
theorem cn_eq {P Q : Nat → Bool} : ∀ {N : Nat}, (∀ k, k < N → P k = Q k) → cnt P N = cnt Q N
  | 0, _ => rfl
  | N + 1, h => by
    simp only [cnt]
    rw [cn_eq (N := N) (fun k hk => h k (by omega)), h N (by omega)]
theorem cn_add {P Q : Nat → Bool} {a : Nat} (hp : P a = false) (hq : Q a = true) : ∀ {N : Nat}, (∀ k, k < N → k ≠ a → P k = Q k) → a < N → cnt Q N = cnt P N + 1
  | 0, _, h => by omega
  | N + 1, h, ha => by
    simp only [cnt]
    rcases Nat.lt_or_ge a N with z | z
    · rw [cn_add hp hq (N := N) (fun k hk => h k (by omega)) z, h N (by omega) (by omega)]; omega
    · have e : a = N := by omega
      subst e
      rw [cn_eq (P := P) (Q := Q) (fun k hk => h k (by omega) (by omega)), hp, hq]
      simp
theorem cn_zero {P : Nat → Bool} : ∀ {N : Nat}, (∀ k, k < N → P k = false) → cnt P N = 0
  | 0, _ => rfl
  | N + 1, h => by
    simp only [cnt]
    rw [cn_zero (N := N) (fun k hk => h k (by omega)), h N (by omega)]; rfl
/-- a bijection between what is counted -/
theorem cn_bij {P : Nat → Bool} {N : Nat} (H : Nat → Bool) (l : Nat → Nat) : ∀ (c : Nat) (P : Nat → Bool),
    (∀ k, k < c → H k = true → l k < N ∧ P (l k) = true) →
    (∀ k k', k < c → k' < c → H k = true → H k' = true → l k = l k' → k = k') →
    (∀ n, n < N → P n = true → ∃ k, k < c ∧ H k = true ∧ l k = n) → cnt P N = cnt H c := by
  intro c
  induction c with
  | zero =>
    intro P _ _ h3
    rw [cn_zero]
    · rfl
    · intro k hk
      cases e : P k
      · rfl
      · obtain ⟨q, hq, _⟩ := h3 k hk e; omega
  | succ c ih =>
    intro P h1 h2 h3
    simp only [cnt]
    cases e : H c
    · rw [ih P (fun k hk => h1 k (by omega)) (fun k k' hk hk' => h2 k k' (by omega) (by omega))]
      · simp
      · intro n hn hp
        obtain ⟨k, hk, hH, hl⟩ := h3 n hn hp
        refine ⟨k, ?_, hH, hl⟩
        rcases Nat.lt_or_ge k c with z | z
        · exact z
        · have : k = c := by omega
          subst this; rw [e] at hH; exact absurd hH (by decide)
    · obtain ⟨q1, q2⟩ := h1 c (by omega) e
      have key := ih (fun n => P n && !(n == l c)) ?_ (fun k k' hk hk' => h2 k k' (by omega) (by omega)) ?_
      · rw [if_pos rfl, ← key]
        apply cn_add (a := l c)
        · simp
        · exact q2
        · intro k _ hk
          simp [hk]
        · exact q1
      · intro k hk hH
        obtain ⟨p1, p2⟩ := h1 k (by omega) hH
        refine ⟨p1, ?_⟩
        have : l k ≠ l c := fun hh => by
          have := h2 k c (by omega) (by omega) hH e hh
          omega
        simp [p2, this]
      · intro n hn hp
        simp at hp
        obtain ⟨k, hk, hH, hl⟩ := h3 n hn hp.1
        refine ⟨k, ?_, hH, hl⟩
        rcases Nat.lt_or_ge k c with z | z
        · exact z
        · have : k = c := by omega
          subst this; exact absurd hl.symm hp.2
/-- sums of naturals, for measures -/
def sm (f : Nat → Nat) : Nat → Nat
  | 0 => 0
  | n + 1 => sm f n + f n
theorem sm_eq {f g : Nat → Nat} : ∀ {N : Nat}, (∀ k, k < N → f k = g k) → sm f N = sm g N
  | 0, _ => rfl
  | N + 1, h => by simp only [sm]; rw [sm_eq (N := N) (fun k hk => h k (by omega)), h N (by omega)]
theorem sm_lt {f g : Nat → Nat} {a : Nat} (h : f a < g a) : ∀ {N : Nat}, (∀ k, k < N → k ≠ a → f k = g k) → a < N → sm f N < sm g N
  | 0, _, ha => by omega
  | N + 1, hh, ha => by
    simp only [sm]
    rcases Nat.lt_or_ge a N with z | z
    · have := sm_lt h (N := N) (fun k hk => hh k (by omega)) z
      have := hh N (by omega) (by omega)
      omega
    · have e : a = N := by omega
      subst e
      rw [sm_eq (f := f) (g := g) (fun k hk => hh k (by omega) (by omega))]; omega
end
section
/-! the pictures of both states, and the relation -/
abbrev Rg (z : Int) : Prop := -2147483648 ≤ z ∧ z < 2147483648
abbrev Gd (i j : Int) : Prop := 0 ≤ i ∧ i ≤ 24 ∧ 0 ≤ j ∧ j ≤ 24
def XP (a : Nat → Int32) (S : Int → Int → Int → Bool) : Prop :=
  (∀ s i j, 0 ≤ s → s ≤ 6 → Gd i j → a (s * 625 + j * 25 + i).toNat = bI (S s i j)) ∧ (∀ s i j, S s i j = true → Gd i j)
def YP (a : Nat → Int32) (S : Int → Int → Int → Bool) : Prop :=
  ∀ l i j, 0 ≤ l → l ≤ 5 → Gd i j → a (625 * l + 25 * i + j).toNat = bI (S l i j)
def clo (g : Int → Int → Bool) : Prop :=
  ∀ i j, g i j = true → (i % 2 = 1 → g (i - 1) j = true ∧ g (i + 1) j = true) ∧ (j % 2 = 1 → g i (j - 1) = true ∧ g i (j + 1) = true)
def CL (S : Int → Int → Int → Bool) : Prop := ∀ l, 0 ≤ l → l ≤ 5 → clo (S l)
def Pth (n : Int) (X Y : Int → Int) (cx cy px py : Nat → Int32) : Prop :=
  (0 ≤ n ∧ n ≤ 24) ∧ (∀ k, 0 ≤ k → k < n → (0 ≤ X k ∧ X k ≤ 12) ∧ (0 ≤ Y k ∧ Y k ≤ 12) ∧ cx k.toNat = zI (X k) ∧ cy k.toNat = zI (Y k) ∧ px k.toNat = zI (X k) ∧ py k.toNat = zI (Y k)) ∧
  (∀ k, 0 ≤ k → k + 1 < n → X k = X (k + 1) ∨ Y k = Y (k + 1))
def i_Rel (k : Nat) (u : SX) (v : SY) : Prop := match u with
  | (c, rc, gc, lr, rk, a, cx, cy, re, st, dg) => match v with
    | (c', ly, fi, ma, se, px, py, la) => ∃ (S : Int → Int → Int → Bool) (n : Int) (X Y : Int → Int), XP a S ∧ YP ly S ∧ CL S ∧ Pth n X Y cx cy px py ∧ c = zI n ∧ c' = zI n
theorem i_up {k : Nat} {u : SX} {v : SY} (h : i_Rel k u v) : i_Rel (k + 5) u v := h
theorem i_vc0 : wpX_init (fun u => wpY_init (fun v => i_Rel 0 u v)) := by
  refine ⟨fun _ _ _ => false, 0, fun _ => 0, fun _ => 0, ⟨fun _ _ _ _ _ _ => rfl, (fun _ _ _ h => nomatch h)⟩, fun _ _ _ _ _ _ => rfl, (fun _ _ _ _ _ h => nomatch h), ⟨⟨by omega, by omega⟩, fun k h1 h2 => absurd h2 (by omega), fun k h1 h2 => absurd h2 (by omega)⟩, rfl, rfl⟩
theorem i_mk {k : Nat} {rc gc lr rk : Int32} {a cx cy re st dg ly fi ma se px py la : Nat → Int32} {S : Int → Int → Int → Bool} {n : Int} {X Y : Int → Int} (P : XP a S) (Q : YP ly S) (C : CL S) (T : Pth n X Y cx cy px py) : i_Rel k (zI n, rc, gc, lr, rk, a, cx, cy, re, st, dg) (zI n, ly, fi, ma, se, px, py, la) :=
  ⟨S, n, X, Y, P, Q, C, T, rfl, rfl⟩
theorem px_c {a : Nat → Int32} {S S' : Int → Int → Int → Bool} (P : XP a S) (h : ∀ s i j, S s i j = S' s i j) : XP a S' := by
  have e : S = S' := funext fun s => funext fun i => funext fun j => h s i j
  subst e; exact P
theorem px_no {a : Nat → Int32} {S : Int → Int → Int → Bool} (P : XP a S) {s i j : Int} (h : ¬ Gd i j) : S s i j = false := by
  cases e : S s i j
  · rfl
  · exact absurd (P.2 s i j e) h
theorem zi_ix (s j i : Int) : ((zI s * 625) + (zI j * 25)) + zI i = zI (s * 625 + j * 25 + i) := by
  have h1 : zI s * 625 = zI (s * 625) := zi_mul s 625
  have h2 : zI j * 25 = zI (j * 25) := zi_mul j 25
  rw [h1, h2, zi_add, zi_add]
theorem zi_iy (l i j : Int) : ((625 * zI l) + (25 * zI i)) + zI j = zI (625 * l + 25 * i + j) := by
  have h1 : 625 * zI l = zI (625 * l) := zi_mul 625 l
  have h2 : 25 * zI i = zI (25 * i) := zi_mul 25 i
  rw [h1, h2, zi_add, zi_add]
theorem zi_in1 (s n : Int) : (zI s * 625) + zI n = zI (s * 625 + n) := by
  have h1 : zI s * 625 = zI (s * 625) := zi_mul s 625
  rw [h1, zi_add]
theorem zi_in2 (s n : Int) : (625 * zI s) + zI n = zI (625 * s + n) := by
  have h1 : 625 * zI s = zI (625 * s) := zi_mul 625 s
  rw [h1, zi_add]
theorem b1_f {A B : Prop} (h : B) : ((1 : Int32) = 0 → A) ∧ (¬ (1 : Int32) = 0 → B) := ⟨fun h => absurd h (by decide), fun _ => h⟩
theorem b0_t {A B : Prop} (h : A) : ((0 : Int32) = 0 → A) ∧ (¬ (0 : Int32) = 0 → B) := ⟨fun _ => h, fun h => absurd rfl h⟩
/-! X: has and write -/
theorem xp_has {post : Int32 → Prop} {c rc gc lr rk : Int32} {a cx cy re st dg : Nat → Int32} {S : Int → Int → Int → Bool} (P : XP a S) (s i j : Int) (hs : 0 ≤ s ∧ s ≤ 6) (hi : Rg i) (hj : Rg j) (h : post (bI (S s i j))) : wpX_has post (c, rc, gc, lr, rk, a, cx, cy, re, st, dg) (zI s) (zI i) (zI j) := by
  have z : ¬ Gd i j → post 0 := fun q => by rw [px_no P q] at h; exact h
  refine zb_lt i 0 (fun h1 => z (by omega)) (fun h1 => zb_lt 24 i (fun h2 => z (by omega)) fun h2 => zb_lt j 0 (fun h3 => z (by omega)) fun h3 => zb_le j 24 (fun h4 => ?_) (fun h4 => z (by omega)))
  have e := zi_ix s j i
  have e2 : (((zI s * 625) + (zI j * 25)) + zI i).toNatClampNeg = (s * 625 + j * 25 + i).toNat := zv_cl _ e
  refine ⟨zv_in _ (by omega) e, ?_, ?_⟩
  · rw [e2, P.1 s i j hs.1 hs.2 ⟨h1, h2, h3, h4⟩]; exact bi_n _
  · rw [e2, P.1 s i j hs.1 hs.2 ⟨h1, h2, h3, h4⟩]; exact h
def sto (S : Int → Int → Int → Bool) (s i j : Int) (b : Bool) : Int → Int → Int → Bool :=
  fun s' i' j' => if s' = s ∧ i' = i ∧ j' = j then b else S s' i' j'
theorem px_sto {a : Nat → Int32} {S : Int → Int → Int → Bool} (P : XP a S) {s i j : Int} {b : Bool} (hs : 0 ≤ s ∧ s ≤ 6) (hg : Gd i j) : XP (upd a (s * 625 + j * 25 + i).toNat (bI b)) (sto S s i j b) := by
  refine ⟨fun s' i' j' h0 h6 g => ?_, fun s' i' j' h => ?_⟩
  · unfold upd sto
    by_cases q : s' = s ∧ i' = i ∧ j' = j
    · obtain ⟨rfl, rfl, rfl⟩ := q
      simp
    · rw [if_neg q, if_neg (by omega)]; exact P.1 s' i' j' h0 h6 g
  · unfold sto at h
    by_cases q : s' = s ∧ i' = i ∧ j' = j
    · obtain ⟨rfl, rfl, rfl⟩ := q; exact hg
    · rw [if_neg q] at h; exact P.2 s' i' j' h
theorem xp_write {post : SX → Prop} {c rc gc lr rk : Int32} {a cx cy re st dg : Nat → Int32} {S : Int → Int → Int → Bool} (P : XP a S) (s i j : Int) (b : Bool) (hs : 0 ≤ s ∧ s ≤ 6) (hg : Gd i j) (h : ∀ a', XP a' (sto S s i j b) → post (c, rc, gc, lr, rk, a', cx, cy, re, st, dg)) : wpX_write post (c, rc, gc, lr, rk, a, cx, cy, re, st, dg) (zI s) (zI i) (zI j) (bI b) := by
  refine zb_lt i 0 (fun h1 => absurd h1 (by omega)) (fun h1 => zb_lt 24 i (fun h2 => absurd h2 (by omega)) fun h2 => zb_lt j 0 (fun h3 => absurd h3 (by omega)) fun h3 => zb_le j 24 (fun h4 => ?_) (fun h4 => absurd h4 (by omega)))
  have e := zi_ix s j i
  have e2 : (((zI s * 625) + (zI j * 25)) + zI i).toNatClampNeg = (s * 625 + j * 25 + i).toNat := zv_cl _ e
  refine ⟨zv_in _ (by omega) e, fun a' ea => ?_⟩
  rw [e2, bi_v] at ea
  rw [ea]
  exact h _ (px_sto P hs hg)
/-! a set written whole, row by row -/
def swp (S : Int → Int → Int → Bool) (s : Int) (F : Int → Int → Bool) (i j : Int) : Int → Int → Int → Bool :=
  fun s' i' j' => if s' = s ∧ Gd i' j' ∧ (j' < j ∨ (j' = j ∧ i' < i)) then F i' j' else S s' i' j'
def put (S : Int → Int → Int → Bool) (s : Int) (F : Int → Int → Bool) : Int → Int → Int → Bool :=
  fun s' i' j' => if s' = s ∧ Gd i' j' then F i' j' else S s' i' j'
theorem sw_0 {S : Int → Int → Int → Bool} {s : Int} {F : Int → Int → Bool} : ∀ s' i' j', S s' i' j' = swp S s F 0 0 s' i' j' := by
  intro s' i' j'; unfold swp; rw [if_neg (by omega)]
theorem sw_w {S : Int → Int → Int → Bool} {s : Int} {F : Int → Int → Bool} {i j : Int} (hg : Gd i j) : ∀ s' i' j', sto (swp S s F i j) s i j (F i j) s' i' j' = swp S s F (i + 1) j s' i' j' := by
  intro s' i' j'; unfold sto swp
  by_cases q : s' = s ∧ i' = i ∧ j' = j
  · obtain ⟨rfl, rfl, rfl⟩ := q
    rw [if_pos ⟨rfl, rfl, rfl⟩, if_pos ⟨rfl, hg, Or.inr ⟨rfl, by omega⟩⟩]
  · rw [if_neg q]
    by_cases q2 : s' = s ∧ Gd i' j' ∧ (j' < j ∨ (j' = j ∧ i' < i))
    · rw [if_pos q2, if_pos (by omega)]
    · rw [if_neg q2, if_neg (by omega)]
theorem sw_r {S : Int → Int → Int → Bool} {s : Int} {F : Int → Int → Bool} {j : Int} : ∀ s' i' j', swp S s F 25 j s' i' j' = swp S s F 0 (j + 1) s' i' j' := by
  intro s' i' j'; unfold swp
  by_cases q2 : s' = s ∧ Gd i' j' ∧ (j' < j ∨ (j' = j ∧ i' < 25))
  · rw [if_pos q2, if_pos (by omega)]
  · rw [if_neg q2, if_neg (by omega)]
theorem sw_e {S : Int → Int → Int → Bool} {s : Int} {F : Int → Int → Bool} : ∀ s' i' j', swp S s F 0 25 s' i' j' = put S s F s' i' j' := by
  intro s' i' j'; unfold swp put
  by_cases q2 : s' = s ∧ Gd i' j'
  · rw [if_pos (by omega), if_pos q2]
  · rw [if_neg (by omega), if_neg q2]
theorem sw_o {S : Int → Int → Int → Bool} {s : Int} {F : Int → Int → Bool} {i j s' : Int} (h : s' ≠ s) : swp S s F i j s' = S s' := by
  funext i' j'; unfold swp; rw [if_neg (by omega)]
theorem pu_o {S : Int → Int → Int → Bool} {s : Int} {F : Int → Int → Bool} {s' : Int} (h : s' ≠ s) : put S s F s' = S s' := by
  funext i' j'; unfold put; rw [if_neg (by omega)]
/-! guards -/
theorem xg_layer {post : Int32 → Prop} (z : Int) (hz : Rg z) (f : 0 ≤ z ∧ z ≤ 5 → post 1) (g : ¬ (0 ≤ z ∧ z ≤ 5) → post 0) : wpX_isLayer post (zI z) :=
  zb_lt z 0 (fun h => g (by omega)) (fun h => zb_le 6 z (fun h' => g (by omega)) (fun h' => f (by omega)))
theorem xg_coord {post : Int32 → Prop} (z : Int) (hz : Rg z) (f : 0 ≤ z ∧ z ≤ 12 → post 1) (g : ¬ (0 ≤ z ∧ z ≤ 12) → post 0) : wpX_isCoordinate post (zI z) :=
  zb_lt z 0 (fun h => g (by omega)) (fun h => zb_lt 12 z (fun h' => g (by omega)) (fun h' => f (by omega)))
theorem xg_op {post : Int32 → Prop} (z : Int) (hz : Rg z) (f : 0 ≤ z ∧ z ≤ 3 → post 1) (g : ¬ (0 ≤ z ∧ z ≤ 3) → post 0) : wpX_isOp post (zI z) :=
  zb_lt z 0 (fun h => g (by omega)) (fun h => zb_lt 3 z (fun h' => g (by omega)) (fun h' => f (by omega)))
theorem yg_layer {post : Int32 → Prop} {v : SY} (z : Int) (hz : Rg z) (f : 0 ≤ z ∧ z ≤ 5 → post 1) (g : ¬ (0 ≤ z ∧ z ≤ 5) → post 0) : wpY_layer post v (zI z) :=
  zb_lt z 0 (fun h => g (by omega)) (fun h => zb_le 6 z (fun h' => g (by omega)) (fun h' => f (by omega)))
theorem yg_coord {post : Int32 → Prop} {v : SY} (x y : Int) (hx : Rg x) (hy : Rg y) (f : (0 ≤ x ∧ x ≤ 12) ∧ (0 ≤ y ∧ y ≤ 12) → post 1) (g : ¬ ((0 ≤ x ∧ x ≤ 12) ∧ (0 ≤ y ∧ y ≤ 12)) → post 0) : wpY_coordinates post v (zI x) (zI y) :=
  zb_lt x 0 (fun h => g (by omega)) (fun h => zb_lt 12 x (fun h' => g (by omega)) (fun h' => zb_lt y 0 (fun h => g (by omega)) (fun h => zb_lt 12 y (fun h' => g (by omega)) (fun h' => f (by omega)))))
theorem yg_atom {post : Int32 → Prop} {v : SY} (x y : Int) (hx : Rg x) (hy : Rg y) (f : Gd x y → post 1) (g : ¬ Gd x y → post 0) : wpY_atom post v (zI x) (zI y) :=
  zb_lt x 0 (fun h => g (by omega)) (fun h => zb_le 25 x (fun h' => g (by omega)) (fun h' => zb_lt y 0 (fun h => g (by omega)) (fun h => zb_le 25 y (fun h' => g (by omega)) (fun h' => f (by omega)))))
/-! Y: in -/
theorem yp_in {post : Int32 → Prop} {c : Int32} {ly fi ma se px py la : Nat → Int32} {S : Int → Int → Int → Bool} (Q : YP ly S) (H : ∀ s i j, S s i j = true → Gd i j) (l i j : Int) (hl : 0 ≤ l ∧ l ≤ 5) (hi : Rg i) (hj : Rg j) (h : post (bI (S l i j))) : wpY_in post (c, ly, fi, ma, se, px, py, la) (zI l) (zI i) (zI j) := by
  unfold wpY_in
  refine yg_atom i j hi hj (fun g => b1_f ?_) (fun g => b0_t ?_)
  · have e := zi_iy l i j
    have e2 : (((625 * zI l) + (25 * zI i)) + zI j).toNatClampNeg = (625 * l + 25 * i + j).toNat := zv_cl _ e
    refine ⟨zv_in _ (by omega) e, ?_⟩
    rw [e2, Q l i j hl.1 hl.2 g]
    refine bb_0 (fun q => ?_) (fun q => ?_)
    · rw [q] at h; exact h
    · rw [q] at h; exact h
  · have : S l i j = false := by
      cases e : S l i j
      · rfl
      · exact absurd (H l i j e) g
    rw [this] at h; exact h
end
section
/-! begin, go, point -/
theorem i_vc_begin {k : Nat} {u : SX} {v : SY} (I : i_Rel k u v) (hk : k + 5 ≤ 2560) (v1 : Int32) (v2 : Int32) : wpX_begin (fun r u' => wpY_begin (fun r' v' => r' = r ∧ i_Rel (k + 5) u' v') v v1 v2) u v1 v2 := by
  obtain ⟨c, rc, gc, lr, rk, a, cx, cy, re, st, dg⟩ := u
  obtain ⟨c', ly, fi, ma, se, px, py, la⟩ := v
  obtain ⟨S, n, X, Y, P, Q, C, T, rfl, rfl⟩ := I
  obtain ⟨x, hx, rfl⟩ := zi_ex v1
  obtain ⟨y, hy, rfl⟩ := zi_ex v2
  have bad : ¬ ((0 ≤ x ∧ x ≤ 12) ∧ (0 ≤ y ∧ y ≤ 12)) → wpY_begin (fun r' v' => r' = 0 ∧ i_Rel (k + 5) (zI n, rc, gc, lr, rk, a, cx, cy, re, st, dg) v') (zI n, ly, fi, ma, se, px, py, la) (zI x) (zI y) := by
    intro h
    unfold wpY_begin
    exact yg_coord x y hx hy (fun h' => absurd h' h) (fun _ => b0_t ⟨rfl, i_mk P Q C T⟩)
  unfold wpX_begin
  refine xg_coord x hx (fun h1 => b1_f ?_) (fun h1 => b0_t (bad (fun h => h1 h.1)))
  refine xg_coord y hy (fun h2 => b1_f ?_) (fun h2 => b0_t (bad (fun h => h2 h.2)))
  refine nm_e (nm_e ?_)
  unfold wpY_begin
  refine yg_coord x y hx hy (fun _ => b1_f (nm_e (nm_e ⟨rfl, ?_⟩))) (fun h => absurd ⟨h1, h2⟩ h)
  refine i_mk (n := 1) (X := fun _ => x) (Y := fun _ => y) P Q C ⟨by omega, fun q q0 q1 => ?_, fun q q0 q1 => absurd q1 (by omega)⟩
  have e : q = 0 := by omega
  subst e
  exact ⟨h1, h2, rfl, rfl, rfl, rfl⟩
theorem yp_apart {post : Int32 → Prop} {v : SY} (x y p q : Int) (hx : Rg x) (hy : Rg y) (hp : Rg p) (hq : Rg q) (f : (x ≠ p ∧ y = q) ∨ (x = p ∧ y ≠ q) → post 1) (g : ¬ ((x ≠ p ∧ y = q) ∨ (x = p ∧ y ≠ q)) → post 0) : wpY_oneApart post v (zI x) (zI y) (zI p) (zI q) := by
  unfold wpY_oneApart
  refine zb_eq x p (fun h => zb_eq y q (fun h' => ?_) (fun h' => ?_)) (fun h => zb_eq y q (fun h' => ?_) (fun h' => ?_))
  · exact br_t rfl (g (by omega))
  · exact br_f (by decide) (f (by omega))
  · exact br_f (by decide) (f (by omega))
  · exact br_t rfl (g (by omega))
theorem pt_push {n : Int} {X Y : Int → Int} {cx cy px py : Nat → Int32} (T : Pth n X Y cx cy px py) {x y : Int} (hx : 0 ≤ x ∧ x ≤ 12) (hy : 0 ≤ y ∧ y ≤ 12) (hn : 1 ≤ n ∧ n < 24) (h : x = X (n - 1) ∨ y = Y (n - 1)) : Pth (n + 1) (fun k => if k = n then x else X k) (fun k => if k = n then y else Y k) (upd cx n.toNat (zI x)) (upd cy n.toNat (zI y)) (upd px n.toNat (zI x)) (upd py n.toNat (zI y)) := by
  refine ⟨by omega, fun q q0 q1 => ?_, fun q q0 q1 => ?_⟩
  · by_cases e : q = n
    · subst e
      simp only [if_pos, upd]
      exact ⟨hx, hy, trivial, trivial, trivial, trivial⟩
    · have e2 : q.toNat ≠ n.toNat := by omega
      simp only [if_neg e, upd, if_neg e2]
      exact T.2.1 q q0 (by omega)
  · have e : q ≠ n := by omega
    simp only [if_neg e]
    by_cases e2 : q + 1 = n
    · rw [if_pos e2, if_pos e2]
      have e3 : q = n - 1 := by omega
      subst e3
      rcases h with h | h
      · exact Or.inl h.symm
      · exact Or.inr h.symm
    · rw [if_neg e2, if_neg e2]; exact T.2.2 q q0 (by omega)
theorem i_vc_go {k : Nat} {u : SX} {v : SY} (I : i_Rel k u v) (hk : k + 5 ≤ 2560) (v1 : Int32) (v2 : Int32) : wpX_go (fun r u' => wpY_go (fun r' v' => r' = r ∧ i_Rel (k + 5) u' v') v v1 v2) u v1 v2 := by
  obtain ⟨c, rc, gc, lr, rk, a, cx, cy, re, st, dg⟩ := u
  obtain ⟨c', ly, fi, ma, se, px, py, la⟩ := v
  obtain ⟨S, n, X, Y, P, Q, C, T, rfl, rfl⟩ := I
  obtain ⟨x, hx, rfl⟩ := zi_ex v1
  obtain ⟨y, hy, rfl⟩ := zi_ex v2
  have hn := T.1
  have K := T.2.1
  have R0 : i_Rel (k + 5) (zI n, rc, gc, lr, rk, a, cx, cy, re, st, dg) (zI n, ly, fi, ma, se, px, py, la) := i_mk P Q C T
  have ec : 1 ≤ n → (zI n - 1).toNatClampNeg = (n - 1).toNat := fun h => zv_cl (n - 1) (zi_s1 n)
  have ey : ∀ (post : Int32 → SY → Prop), (((0 ≤ x ∧ x ≤ 12) ∧ (0 ≤ y ∧ y ≤ 12)) ∧ (1 ≤ n ∧ n < 24) ∧ ((x ≠ X (n - 1) ∧ y = Y (n - 1)) ∨ (x = X (n - 1) ∧ y ≠ Y (n - 1))) → post 1 (zI (n + 1), ly, fi, ma, se, upd px n.toNat (zI x), upd py n.toNat (zI y), la)) → (¬ (((0 ≤ x ∧ x ≤ 12) ∧ (0 ≤ y ∧ y ≤ 12)) ∧ (1 ≤ n ∧ n < 24) ∧ ((x ≠ X (n - 1) ∧ y = Y (n - 1)) ∨ (x = X (n - 1) ∧ y ≠ Y (n - 1)))) → post 0 (zI n, ly, fi, ma, se, px, py, la)) → wpY_go post (zI n, ly, fi, ma, se, px, py, la) (zI x) (zI y) := by
    intro post f g
    unfold wpY_go
    refine yg_coord x y hx hy (fun h1 => b1_f ?_) (fun h1 => b0_t (g (fun h => h1 h.1)))
    refine zb_eq n 0 (fun h2 => g (fun h => by omega)) (fun h2 => zb_eq n 24 (fun h3 => g (fun h => by omega)) (fun h3 => ?_))
    have kk := K (n - 1) (by omega) (by omega)
    refine ⟨zv_in (n - 1) (by omega) (zi_s1 n), zv_in (n - 1) (by omega) (zi_s1 n), ?_⟩
    rw [ec (by omega), kk.2.2.2.2.1, kk.2.2.2.2.2]
    refine yp_apart x y _ _ hx hy (by omega) (by omega) (fun h4 => b1_f ?_) (fun h4 => b0_t (g (fun h => h4 h.2.2)))
    refine ⟨zv_in n (by omega), nm_e ⟨zv_in n (by omega), nm_e (nm_r (zi_1 n) ?_)⟩⟩
    rw [zi_cl (by omega)]
    exact f ⟨h1, by omega, h4⟩
  unfold wpX_go
  refine xg_coord x hx (fun h1 => b1_f ?_) (fun h1 => b0_t (ey _ (fun h => absurd h.1.1 h1) (fun _ => ⟨rfl, R0⟩)))
  refine xg_coord y hy (fun h2 => b1_f ?_) (fun h2 => b0_t (ey _ (fun h => absurd h.1.2 h2) (fun _ => ⟨rfl, R0⟩)))
  refine zb_lt n 1 (fun h3 => ey _ (fun h => absurd h3 (by omega)) (fun _ => ⟨rfl, R0⟩)) (fun h3 => zb_lt n 24 (fun h4 => ?_) (fun h4 => ey _ (fun h => absurd h4 (by omega)) (fun _ => ⟨rfl, R0⟩)))
  have kk := K (n - 1) (by omega) (by omega)
  have vi : vp_in (zI n - 1) 24 := zv_in (n - 1) (by omega) (zi_s1 n)
  have go : ((x ≠ X (n - 1) ∧ y = Y (n - 1)) ∨ (x = X (n - 1) ∧ y ≠ Y (n - 1))) → ∀ p q : Int32, ¬ p = q → wX_go_74 (fun r u' => wpY_go (fun r' v' => r' = r ∧ i_Rel (k + 5) u' v') (zI n, ly, fi, ma, se, px, py, la) (zI x) (zI y)) (zI x) (zI y) p q (zI n) rc gc lr rk a cx cy re st dg := by
    intro h p q hpq
    refine br_f hpq ⟨zv_in n (by omega), nm_e ⟨zv_in n (by omega), nm_e (nm_r (zi_1 n) ?_)⟩⟩
    rw [zi_cl (by omega)]
    exact ey _ (fun _ => ⟨rfl, i_mk P Q C (pt_push T h1 h2 (by omega) (by omega))⟩) (fun h' => absurd ⟨⟨h1, h2⟩, ⟨by omega, by omega⟩, h⟩ h')
  have st : ¬ ((x ≠ X (n - 1) ∧ y = Y (n - 1)) ∨ (x = X (n - 1) ∧ y ≠ Y (n - 1))) → ∀ p q : Int32, p = q → wX_go_74 (fun r u' => wpY_go (fun r' v' => r' = r ∧ i_Rel (k + 5) u' v') (zI n, ly, fi, ma, se, px, py, la) (zI x) (zI y)) (zI x) (zI y) p q (zI n) rc gc lr rk a cx cy re st dg := by
    intro h p q hpq
    exact br_t hpq (ey _ (fun h' => absurd h'.2.2 h) (fun _ => ⟨rfl, R0⟩))
  refine ⟨vi, ?_⟩
  rw [ec (by omega), kk.2.2.1]
  refine zb_eq (X (n - 1)) x (fun h5 => ⟨vi, ?_⟩) (fun h5 => ⟨vi, ?_⟩)
  · rw [ec (by omega), kk.2.2.2.1]
    refine zb_eq (Y (n - 1)) y (fun h6 => st (by omega) _ _ rfl) (fun h6 => go (by omega) _ _ (by decide))
  · rw [ec (by omega), kk.2.2.2.1]
    refine zb_eq (Y (n - 1)) y (fun h6 => go (by omega) _ _ (by decide)) (fun h6 => st (by omega) _ _ rfl)
theorem yp_sto {ly : Nat → Int32} {S : Int → Int → Int → Bool} (Q : YP ly S) {l i j : Int} {b : Bool} (hl : 0 ≤ l ∧ l ≤ 5) (hg : Gd i j) : YP (upd ly (625 * l + 25 * i + j).toNat (bI b)) (sto S l i j b) := by
  intro l' i' j' h0 h6 g
  unfold upd sto
  by_cases q : l' = l ∧ i' = i ∧ j' = j
  · obtain ⟨rfl, rfl, rfl⟩ := q
    simp
  · rw [if_neg q, if_neg (by omega)]; exact Q l' i' j' h0 h6 g
theorem i_vc_point {k : Nat} {u : SX} {v : SY} (I : i_Rel k u v) (hk : k + 5 ≤ 2560) (v1 : Int32) (v2 : Int32) (v3 : Int32) : wpX_point (fun r u' => wpY_point (fun r' v' => r' = r ∧ i_Rel (k + 5) u' v') v v1 v2 v3) u v1 v2 v3 := by
  obtain ⟨c, rc, gc, lr, rk, a, cx, cy, re, st, dg⟩ := u
  obtain ⟨c', ly, fi, ma, se, px, py, la⟩ := v
  obtain ⟨S, n, X, Y, P, Q, C, T, rfl, rfl⟩ := I
  obtain ⟨l, hl, rfl⟩ := zi_ex v1
  obtain ⟨x, hx, rfl⟩ := zi_ex v2
  obtain ⟨y, hy, rfl⟩ := zi_ex v3
  have R0 : i_Rel (k + 5) (zI n, rc, gc, lr, rk, a, cx, cy, re, st, dg) (zI n, ly, fi, ma, se, px, py, la) := i_mk P Q C T
  have bad : ¬ ((0 ≤ l ∧ l ≤ 5) ∧ (0 ≤ x ∧ x ≤ 12) ∧ (0 ≤ y ∧ y ≤ 12)) → wpY_point (fun r' v' => r' = 0 ∧ i_Rel (k + 5) (zI n, rc, gc, lr, rk, a, cx, cy, re, st, dg) v') (zI n, ly, fi, ma, se, px, py, la) (zI l) (zI x) (zI y) := by
    intro h
    unfold wpY_point
    refine yg_layer l hl (fun h1 => b1_f ?_) (fun h1 => b0_t ⟨rfl, R0⟩)
    exact yg_coord x y hx hy (fun h2 => absurd ⟨h1, h2⟩ h) (fun _ => b0_t ⟨rfl, R0⟩)
  unfold wpX_point
  refine xg_layer l hl (fun h1 => b1_f ?_) (fun h1 => b0_t (bad (fun h => h1 h.1)))
  refine xg_coord x hx (fun h2 => b1_f ?_) (fun h2 => b0_t (bad (fun h => h2 h.2.1)))
  refine xg_coord y hy (fun h3 => b1_f ?_) (fun h3 => b0_t (bad (fun h => h3 h.2.2)))
  rw [zi_dbl, zi_dbl]
  refine xp_write P l (2 * x) (2 * y) true (by omega) (by omega) (fun a' P' => ?_)
  unfold wpY_point
  refine yg_layer l hl (fun _ => b1_f ?_) (fun h => absurd h1 h)
  refine yg_coord x y hx hy (fun _ => b1_f ?_) (fun h => absurd ⟨h2, h3⟩ h)
  have e : ((625 * zI l) + (50 * zI x)) + (2 * zI y) = zI (625 * l + 25 * (2 * x) + 2 * y) := by
    have e1 : 625 * zI l = zI (625 * l) := zi_mul 625 l
    have e2 : 50 * zI x = zI (50 * x) := zi_mul 50 x
    rw [e1, e2, zi_dbl, zi_add, zi_add]
    congr 1; omega
  refine ⟨zv_in _ (by omega) e, nm_e ⟨rfl, ?_⟩⟩
  rw [zv_cl _ e]
  refine i_mk P' (yp_sto (b := true) Q h1 (by omega)) (fun m m0 m5 => ?_) T
  intro i j h
  have Cm := C m m0 m5
  unfold sto at h ⊢
  by_cases q : m = l ∧ i = 2 * x ∧ j = 2 * y
  · exact ⟨fun h => absurd h (by omega), fun h => absurd h (by omega)⟩
  · rw [if_neg q] at h
    have := Cm i j h
    refine ⟨fun o => ⟨?_, ?_⟩, fun o => ⟨?_, ?_⟩⟩
    · split
      · rfl
      · exact (this.1 o).1
    · split
      · rfl
      · exact (this.1 o).2
    · split
      · rfl
      · exact (this.2 o).1
    · split
      · rfl
      · exact (this.2 o).2
end
section
/-! cells around, edges around, the part of an atom -/
def cc (g : Int → Int → Bool) (i j : Int) : Int :=
  if i % 2 = 1 then (if j % 2 = 1 then bZ (g i j) else bZ (g i (j - 1)) + bZ (g i (j + 1)))
  else if j % 2 = 1 then bZ (g (i - 1) j) + bZ (g (i + 1) j)
  else bZ (g (i - 1) (j - 1)) + bZ (g (i + 1) (j - 1)) + bZ (g (i - 1) (j + 1)) + bZ (g (i + 1) (j + 1))
def ee (g : Int → Int → Bool) (i j : Int) : Int := bZ (g (i + 1) j) + bZ (g i (j + 1)) + bZ (g (i - 1) j) + bZ (g i (j - 1))
def prt (g : Int → Int → Bool) (i j : Int) : Int :=
  if g i j = false then 2 else if i % 2 = 1 ∧ j % 2 = 1 then 0 else if i % 2 = 1 ∨ j % 2 = 1 then (if cc g i j = 1 then 1 else 0)
  else if cc g i j = 4 then 0 else if 0 < cc g i j then 1 else ee g i j % 2
theorem cc_r (g : Int → Int → Bool) (i j : Int) : 0 ≤ cc g i j ∧ cc g i j ≤ 4 := by
  unfold cc
  have h1 := bz_r (g i j)
  have h2 := bz_r (g i (j - 1))
  have h3 := bz_r (g i (j + 1))
  have h4 := bz_r (g (i - 1) j)
  have h5 := bz_r (g (i + 1) j)
  have h6 := bz_r (g (i - 1) (j - 1))
  have h7 := bz_r (g (i + 1) (j - 1))
  have h8 := bz_r (g (i - 1) (j + 1))
  have h9 := bz_r (g (i + 1) (j + 1))
  split
  · split <;> omega
  · split <;> omega
theorem ee_r (g : Int → Int → Bool) (i j : Int) : 0 ≤ ee g i j ∧ ee g i j ≤ 4 := by
  unfold ee
  have h3 := bz_r (g i (j + 1))
  have h2 := bz_r (g i (j - 1))
  have h4 := bz_r (g (i - 1) j)
  have h5 := bz_r (g (i + 1) j)
  omega
theorem pr_r (g : Int → Int → Bool) (i j : Int) : 0 ≤ prt g i j ∧ prt g i j ≤ 2 := by
  unfold prt
  split
  · omega
  · split
    · omega
    · split
      · split <;> omega
      · split
        · omega
        · split <;> omega
def eaD (d : Int) : Int := if d = 0 then 1 else if d = 2 then -1 else 0
def noD (d : Int) : Int := if d = 1 then 1 else if d = 3 then -1 else 0
theorem ea_r (d : Int) : -1 ≤ eaD d ∧ eaD d ≤ 1 := by unfold eaD; split <;> (try split) <;> omega
theorem no_r (d : Int) : -1 ≤ noD d ∧ noD d ≤ 1 := by unfold noD; split <;> (try split) <;> omega
theorem xp_east {post : Int32 → Prop} (d : Int) (hd : Rg d) (h : post (zI (eaD d))) : wpX_eastward post (zI d) := by
  unfold eaD at h
  refine zb_eq d 0 (fun e => ?_) (fun e => zb_eq d 2 (fun e2 => ?_) (fun e2 => ?_))
  · rw [if_pos e] at h; exact h
  · rw [if_neg e, if_pos e2] at h; exact h
  · rw [if_neg e, if_neg e2] at h; exact h
theorem xp_north {post : Int32 → Prop} (d : Int) (hd : Rg d) (h : post (zI (noD d))) : wpX_northward post (zI d) := by
  unfold noD at h
  refine zb_eq d 1 (fun e => ?_) (fun e => zb_eq d 3 (fun e2 => ?_) (fun e2 => ?_))
  · rw [if_pos e] at h; exact h
  · rw [if_neg e, if_pos e2] at h; exact h
  · rw [if_neg e, if_neg e2] at h; exact h
theorem xd_eq {i j : Int} (hi : Rg i) (hj : Rg j) : (zI i &&& 1) + (zI j &&& 1) = zI (i % 2 + j % 2) := by
  rw [zi_and1 hi, zi_and1 hj, zi_add]
theorem xp_dim {post : Int32 → Prop} (i j : Int) (hi : Rg i) (hj : Rg j) (h : post (zI (i % 2 + j % 2))) : wpX_dimension post (zI i) (zI j) := by
  unfold wpX_dimension; rw [xd_eq hi hj]; exact h
section
variable {c rc gc lr rk : Int32} {a cx cy re st dg : Nat → Int32} {S : Int → Int → Int → Bool}
theorem xc_i1 {post : Int32 → Prop} {J : Int32 → Int32 → Prop} (P : XP a S) {l i j rI rJ jj ii k : Int} {n : Nat} (hl : 0 ≤ l ∧ l ≤ 6) (hr : 0 ≤ rI ∧ rI ≤ 1) (hi : 0 ≤ i ∧ i ≤ 24) (hii : -5 ≤ ii ∧ ii ≤ i + rI) (hjj : -5 ≤ jj ∧ jj ≤ 50) (hk : 0 ≤ k ∧ k ≤ 100) (h : wX_countCells_38 post J (zI l) (zI i) (zI j) (zI rI) (zI rJ) (zI jj) c rc gc lr rk a cx cy re st dg n (zI (k + bZ (S l ii jj))) (zI (ii + 2))) : wX_countCells_38 post J (zI l) (zI i) (zI j) (zI rI) (zI rJ) (zI jj) c rc gc lr rk a cx cy re st dg (n + 1) (zI k) (zI ii) := by
  refine zb_lt (i + rI) ii (fun h' => absurd h' (by omega)) (fun _ => ?_) (zi_add i rI)
  refine xp_has P l ii jj hl (by omega) (by omega) (bb_0 (fun e => nm_r (zi_2 _) ?_) (fun e => nm_r (zi_1 _) (nm_r (zi_2 _) ?_)))
  · rw [e] at h; simpa [bZ] using h
  · rw [e] at h; simpa [bZ] using h
theorem xc_i2 {post : Int32 → Prop} {J : Int32 → Int32 → Prop} {l i j rI rJ jj ii k : Int} {n : Nat} (hi : 0 ≤ i ∧ i ≤ 24) (hr : 0 ≤ rI ∧ rI ≤ 1) (hii : i + rI < ii ∧ ii ≤ 50) (h : J (zI k) (zI (jj + 2))) : wX_countCells_38 post J (zI l) (zI i) (zI j) (zI rI) (zI rJ) (zI jj) c rc gc lr rk a cx cy re st dg (n + 1) (zI k) (zI ii) := by
  refine zb_lt (i + rI) ii (fun _ => nm_r (zi_2 _) h) (fun h' => absurd h' (by omega)) (zi_add i rI)
theorem xc_o1 {post : Int32 → Prop} (P : XP a S) {l i j rI rJ jj k : Int} {n : Nat} (hl : 0 ≤ l ∧ l ≤ 6) (hr : rI = 0 ∨ rI = 1) (hi : 0 ≤ i ∧ i ≤ 24) (hj : 0 ≤ j ∧ j ≤ 24) (hrj : 0 ≤ rJ ∧ rJ ≤ 1) (hjj : -5 ≤ jj ∧ jj ≤ j + rJ) (hk : 0 ≤ k ∧ k ≤ 50) (h : wX_countCells_23 post (zI l) (zI i) (zI j) (zI rI) (zI rJ) c rc gc lr rk a cx cy re st dg n (zI (k + (if rI = 0 then bZ (S l i jj) else bZ (S l (i - 1) jj) + bZ (S l (i + 1) jj)))) (zI (jj + 2))) : wX_countCells_23 post (zI l) (zI i) (zI j) (zI rI) (zI rJ) c rc gc lr rk a cx cy re st dg (n + 1) (zI k) (zI jj) := by
  refine zb_lt (j + rJ) jj (fun h' => absurd h' (by omega)) (fun _ => nm_r (zi_sub i rI) ⟨3, ?_⟩) (zi_add j rJ)
  rcases hr with rfl | rfl
  · rw [if_pos rfl] at h
    have z : i - 0 = i := by omega
    rw [z]
    have hb := bz_r (S l i jj)
    refine xc_i1 P hl (by omega) hi (by omega) (by omega) (by omega) (xc_i2 hi (by omega) (by omega) h)
  · rw [if_neg (by decide)] at h
    have hb := bz_r (S l (i - 1) jj)
    refine xc_i1 P hl (by omega) hi (by omega) (by omega) (by omega) ?_
    have z : i - 1 + 2 = i + 1 := by omega
    rw [z]
    refine xc_i1 P hl (by omega) hi (by omega) (by omega) (by omega) (xc_i2 hi (by omega) (by omega) ?_)
    have z2 : k + bZ (S l (i - 1) jj) + bZ (S l (i + 1) jj) = k + (bZ (S l (i - 1) jj) + bZ (S l (i + 1) jj)) := by omega
    rw [z2]; exact h
theorem xc_o2 {post : Int32 → Prop} {l i j rI rJ jj k : Int} {n : Nat} (hj : 0 ≤ j ∧ j ≤ 24) (hrj : 0 ≤ rJ ∧ rJ ≤ 1) (hjj : j + rJ < jj ∧ jj ≤ 50) (h : post (zI k)) : wX_countCells_23 post (zI l) (zI i) (zI j) (zI rI) (zI rJ) c rc gc lr rk a cx cy re st dg (n + 1) (zI k) (zI jj) := by
  refine zb_lt (j + rJ) jj (fun _ => h) (fun h' => absurd h' (by omega)) (zi_add j rJ)
theorem xp_cells {post : Int32 → Prop} (P : XP a S) (l i j : Int) (hl : 0 ≤ l ∧ l ≤ 6) (hg : Gd i j) (h : post (zI (cc (S l) i j))) : wpX_countCells post (c, rc, gc, lr, rk, a, cx, cy, re, st, dg) (zI l) (zI i) (zI j) := by
  unfold wpX_countCells
  have e4 : 1 - (zI i &&& 1) = zI (1 - i % 2) := by rw [zi_and1 (by omega)]; exact zi_sub 1 _
  have e5 : 1 - (zI j &&& 1) = zI (1 - j % 2) := by rw [zi_and1 (by omega)]; exact zi_sub 1 _
  refine nm_r e4 (nm_r e5 (nm_r (zi_sub _ _) ⟨3, ?_⟩))
  unfold cc at h
  by_cases o1 : i % 2 = 1
  · have z1 : 1 - i % 2 = 0 := by omega
    rw [if_pos o1] at h
    rw [z1]
    by_cases o2 : j % 2 = 1
    · have z2 : 1 - j % 2 = 0 := by omega
      rw [if_pos o2] at h
      rw [z2]
      have hb := bz_r (S l i (j - 0))
      refine xc_o1 (k := 0) P hl (Or.inl rfl) (by omega) (by omega) (by omega) (by omega) (by omega) ?_
      rw [if_pos rfl]
      refine xc_o2 (by omega) (by omega) (by omega) ?_
      simpa using h
    · have z2 : 1 - j % 2 = 1 := by omega
      rw [if_neg o2] at h
      rw [z2]
      have hb := bz_r (S l i (j - 1))
      have hb2 := bz_r (S l i (j + 1))
      refine xc_o1 (k := 0) P hl (Or.inl rfl) (by omega) (by omega) (by omega) (by omega) (by omega) ?_
      rw [if_pos rfl]
      have z : j - 1 + 2 = j + 1 := by omega
      rw [z]
      refine xc_o1 P hl (Or.inl rfl) (by omega) (by omega) (by omega) (by omega) (by omega) ?_
      rw [if_pos rfl]
      refine xc_o2 (by omega) (by omega) (by omega) ?_
      simpa using h
  · have z1 : 1 - i % 2 = 1 := by omega
    rw [if_neg o1] at h
    rw [z1]
    by_cases o2 : j % 2 = 1
    · have z2 : 1 - j % 2 = 0 := by omega
      rw [if_pos o2] at h
      rw [z2]
      have z3 : j - 0 = j := by omega
      rw [z3]
      have hb := bz_r (S l (i - 1) j)
      have hb2 := bz_r (S l (i + 1) j)
      refine xc_o1 (k := 0) P hl (Or.inr rfl) (by omega) (by omega) (by omega) (by omega) (by omega) ?_
      rw [if_neg (by decide)]
      refine xc_o2 (by omega) (by omega) (by omega) ?_
      simpa using h
    · have z2 : 1 - j % 2 = 1 := by omega
      rw [if_neg o2] at h
      rw [z2]
      have hb := bz_r (S l (i - 1) (j - 1))
      have hb2 := bz_r (S l (i + 1) (j - 1))
      have hb3 := bz_r (S l (i - 1) (j + 1))
      have hb4 := bz_r (S l (i + 1) (j + 1))
      refine xc_o1 (k := 0) P hl (Or.inr rfl) (by omega) (by omega) (by omega) (by omega) (by omega) ?_
      rw [if_neg (by decide)]
      have z : j - 1 + 2 = j + 1 := by omega
      rw [z]
      refine xc_o1 P hl (Or.inr rfl) (by omega) (by omega) (by omega) (by omega) (by omega) ?_
      rw [if_neg (by decide)]
      refine xc_o2 (by omega) (by omega) (by omega) ?_
      have z5 : 0 + (bZ (S l (i - 1) (j - 1)) + bZ (S l (i + 1) (j - 1))) + (bZ (S l (i - 1) (j + 1)) + bZ (S l (i + 1) (j + 1))) = bZ (S l (i - 1) (j - 1)) + bZ (S l (i + 1) (j - 1)) + bZ (S l (i - 1) (j + 1)) + bZ (S l (i + 1) (j + 1)) := by omega
      rw [z5]; exact h
theorem xe_1 {post : Int32 → Prop} (P : XP a S) {l i j d k : Int} {n : Nat} (hl : 0 ≤ l ∧ l ≤ 6) (hg : Gd i j) (hd : 0 ≤ d ∧ d ≤ 3) (hk : 0 ≤ k ∧ k ≤ 50) (h : wX_countEdges_6 post (zI l) (zI i) (zI j) c rc gc lr rk a cx cy re st dg n (zI (k + bZ (S l (i + eaD d) (j + noD d)))) (zI (d + 1))) : wX_countEdges_6 post (zI l) (zI i) (zI j) c rc gc lr rk a cx cy re st dg (n + 1) (zI k) (zI d) := by
  have h1 := ea_r d
  have h2 := no_r d
  refine zb_lt 3 d (fun h' => absurd h' (by omega)) (fun _ => ?_)
  refine xp_east d (by omega) (nm_r (zi_add _ _) (xp_north d (by omega) (nm_r (zi_add _ _) ?_)))
  refine xp_has P l _ _ hl (by omega) (by omega) (bb_0 (fun e => nm_r (zi_1 _) ?_) (fun e => nm_r (zi_1 _) (nm_r (zi_1 _) ?_)))
  · rw [e] at h; simpa [bZ] using h
  · rw [e] at h; simpa [bZ] using h
theorem xp_edges {post : Int32 → Prop} (P : XP a S) (l i j : Int) (hl : 0 ≤ l ∧ l ≤ 6) (hg : Gd i j) (h : post (zI (ee (S l) i j))) : wpX_countEdges post (c, rc, gc, lr, rk, a, cx, cy, re, st, dg) (zI l) (zI i) (zI j) := by
  unfold wpX_countEdges
  have b0 := bz_r (S l (i + eaD 0) (j + noD 0))
  have b1 := bz_r (S l (i + eaD 1) (j + noD 1))
  have b2 := bz_r (S l (i + eaD 2) (j + noD 2))
  have b3 := bz_r (S l (i + eaD 3) (j + noD 3))
  refine ⟨5, ?_⟩
  refine xe_1 (d := 0) (k := 0) P hl hg (by omega) (by omega) ?_
  refine xe_1 (d := 0 + 1) P hl hg (by omega) (by omega) ?_
  refine xe_1 (d := 0 + 1 + 1) P hl hg (by omega) (by simp only [Int.zero_add, Int.reduceAdd]; omega) ?_
  refine xe_1 (d := 0 + 1 + 1 + 1) P hl hg (by omega) (by simp only [Int.zero_add, Int.reduceAdd]; omega) ?_
  refine zb_lt 3 4 (fun _ => ?_) (fun h' => absurd h' (by omega))
  have e : ee (S l) i j = 0 + bZ (S l (i + eaD 0) (j + noD 0)) + bZ (S l (i + eaD (0 + 1)) (j + noD (0 + 1))) + bZ (S l (i + eaD (0 + 1 + 1)) (j + noD (0 + 1 + 1))) + bZ (S l (i + eaD (0 + 1 + 1 + 1)) (j + noD (0 + 1 + 1 + 1))) := by
    unfold ee
    have q0 : i + eaD 0 = i + 1 := rfl
    have q1 : j + noD 0 = j := by show j + 0 = j; omega
    have q2 : i + eaD (0 + 1) = i := by show i + 0 = i; omega
    have q3 : j + noD (0 + 1) = j + 1 := rfl
    have q4 : i + eaD (0 + 1 + 1) = i - 1 := rfl
    have q5 : j + noD (0 + 1 + 1) = j := by show j + 0 = j; omega
    have q6 : i + eaD (0 + 1 + 1 + 1) = i := by show i + 0 = i; omega
    have q7 : j + noD (0 + 1 + 1 + 1) = j - 1 := rfl
    rw [q0, q1, q2, q3, q4, q5, q6, q7]; omega
  rw [← e]; exact h
theorem x4_0 : (4 : Int32) >>> (zI 0 &&& 31) = zI 4 := by decide
theorem x4_1 : (4 : Int32) >>> (zI 1 &&& 31) = zI 2 := by decide
theorem x4_2 : (4 : Int32) >>> (zI 2 &&& 31) = zI 1 := by decide
theorem xp_part {post : Int32 → Prop} (P : XP a S) (l i j : Int) (hl : 0 ≤ l ∧ l ≤ 6) (hi : Rg i) (hj : Rg j) (h : post (zI (prt (S l) i j))) : wpX_partOf post (c, rc, gc, lr, rk, a, cx, cy, re, st, dg) (zI l) (zI i) (zI j) := by
  unfold wpX_partOf
  unfold prt at h
  refine xp_has P l i j hl hi hj (bb_0 (fun e => ?_) (fun e => ?_))
  · rw [if_pos e] at h; exact h
  · rw [if_neg (by rw [e]; decide)] at h
    have hg : Gd i j := P.2 l i j e
    have hc := cc_r (S l) i j
    refine xp_cells P l i j hl hg (xp_dim i j hi hj ?_)
    by_cases o1 : i % 2 = 1
    · by_cases o2 : j % 2 = 1
      · rw [if_pos ⟨o1, o2⟩] at h
        have z : i % 2 + j % 2 = 2 := by omega
        rw [z, x4_2]
        have q : cc (S l) i j = 1 := by unfold cc; rw [if_pos o1, if_pos o2, e]; rfl
        rw [q]
        exact br_t rfl h
      · rw [if_neg (by omega), if_pos (Or.inl o1)] at h
        have z : i % 2 + j % 2 = 1 := by omega
        rw [z, x4_1]
        have hb : cc (S l) i j ≤ 2 := by
          unfold cc; rw [if_pos o1, if_neg o2]
          have := bz_r (S l i (j - 1)); have := bz_r (S l i (j + 1)); omega
        refine zb_eq _ 2 (fun q => ?_) (fun q => zb_le _ 0 (fun q2 => xp_dim i j hi hj ?_) (fun q2 => ?_))
        · rw [if_neg (by omega)] at h; exact h
        · rw [z]
          refine br_f (by decide) (br_t rfl ?_)
          rw [if_neg (by omega)] at h; exact h
        · rw [if_pos (by omega)] at h; exact h
    · by_cases o2 : j % 2 = 1
      · rw [if_neg (by omega), if_pos (Or.inr o2)] at h
        have z : i % 2 + j % 2 = 1 := by omega
        rw [z, x4_1]
        have hb : cc (S l) i j ≤ 2 := by
          unfold cc; rw [if_neg o1, if_pos o2]
          have := bz_r (S l (i - 1) j); have := bz_r (S l (i + 1) j); omega
        refine zb_eq _ 2 (fun q => ?_) (fun q => zb_le _ 0 (fun q2 => xp_dim i j hi hj ?_) (fun q2 => ?_))
        · rw [if_neg (by omega)] at h; exact h
        · rw [z]
          refine br_f (by decide) (br_t rfl ?_)
          rw [if_neg (by omega)] at h; exact h
        · rw [if_pos (by omega)] at h; exact h
      · rw [if_neg (by omega), if_neg (by omega)] at h
        have z : i % 2 + j % 2 = 0 := by omega
        rw [z, x4_0]
        refine zb_eq _ 4 (fun q => ?_) (fun q => zb_le _ 0 (fun q2 => xp_dim i j hi hj ?_) (fun q2 => ?_))
        · rw [if_pos q] at h; exact h
        · rw [z]
          refine br_t rfl (br_f (by decide) (xp_edges P l i j hl hg ⟨by decide, ?_⟩))
          have he := ee_r (S l) i j
          rw [if_neg q, if_neg (by omega)] at h
          have er : zI (ee (S l) i j) - zI (ee (S l) i j) / 2 * 2 = zI (ee (S l) i j % 2) := zi_rem (d := 2) (by omega) (by omega)
          rw [er]
          refine zb_eq _ 1 (fun q3 => ?_) (fun q3 => ?_)
          · rw [q3] at h; exact h
          · have q4 : ee (S l) i j % 2 = 0 := by omega
            rw [q4] at h; exact h
        · rw [if_neg q, if_pos q2] at h; exact h
end
end
section
/-! Y: the part of an atom; part; covers -/
theorem zi_r2 {a : Int} (h : 0 ≤ a ∧ a < 2147483648) : zI a - zI a / 2 * 2 = zI (a % 2) := zi_rem (d := 2) h (by omega)
theorem zi_r25 {a : Int} (h : 0 ≤ a ∧ a < 2147483648) : zI a - zI a / 25 * 25 = zI (a % 25) := zi_rem (d := 25) h (by omega)
theorem zi_d25 {a : Int} (h : 0 ≤ a ∧ a < 2147483648) : zI a / 25 = zI (a / 25) := zi_div (d := 25) h (by omega)
theorem zi_r13 {a : Int} (h : 0 ≤ a ∧ a < 2147483648) : zI a - zI a / 13 * 13 = zI (a % 13) := zi_rem (d := 13) h (by omega)
theorem zi_d13 {a : Int} (h : 0 ≤ a ∧ a < 2147483648) : zI a / 13 = zI (a / 13) := zi_div (d := 13) h (by omega)
theorem zi_r3 {a : Int} (h : 0 ≤ a ∧ a < 2147483648) : zI a - zI a / 3 * 3 = zI (a % 3) := zi_rem (d := 3) h (by omega)
theorem zi_d3 {a : Int} (h : 0 ≤ a ∧ a < 2147483648) : zI a / 3 = zI (a / 3) := zi_div (d := 3) h (by omega)
def HS (S : Int → Int → Int → Bool) : Prop := ∀ s i j, S s i j = true → Gd i j
section
variable {c : Int32} {ly fi ma se px py la : Nat → Int32} {S : Int → Int → Int → Bool}
theorem yp_one {post : Int32 → Prop} (Q : YP ly S) (H : HS S) (l i j : Int) (hl : 0 ≤ l ∧ l ≤ 5) (hi : Rg i) (hj : Rg j) (h : post (zI (bZ (S l i j)))) : wpY_one post (c, ly, fi, ma, se, px, py, la) (zI l) (zI i) (zI j) := by
  unfold wpY_one
  refine yp_in Q H l i j hl hi hj (bb_0 (fun e => ?_) (fun e => ?_))
  · rw [e] at h; exact h
  · rw [e] at h; exact h
theorem yp_cells {post : Int32 → Prop} (Q : YP ly S) (H : HS S) (l i j : Int) (hl : 0 ≤ l ∧ l ≤ 5) (hg : Gd i j) (hd : ¬ (i % 2 = 1 ∧ j % 2 = 1)) (h : post (zI (cc (S l) i j))) : wpY_cellsAround post (c, ly, fi, ma, se, px, py, la) (zI l) (zI i) (zI j) := by
  unfold wpY_cellsAround
  rw [zi_r2 (by omega), zi_r2 (by omega)]
  unfold cc at h
  refine ⟨by decide, zb_eq _ 1 (fun o1 => ?_) (fun o1 => ⟨by decide, zb_eq _ 1 (fun o2 => ?_) (fun o2 => ?_)⟩)⟩
  · rw [if_pos o1, if_neg (by omega)] at h
    rw [zi_1, zi_s1]
    refine yp_one Q H l _ _ hl (by omega) (by omega) (yp_one Q H l _ _ hl (by omega) (by omega) ?_)
    rw [zi_add]; exact h
  · rw [if_neg o1, if_pos o2] at h
    rw [zi_1, zi_s1]
    refine yp_one Q H l _ _ hl (by omega) (by omega) (yp_one Q H l _ _ hl (by omega) (by omega) ?_)
    rw [zi_add]; exact h
  · rw [if_neg o1, if_neg o2] at h
    rw [zi_1, zi_s1, zi_1, zi_s1]
    refine yp_one Q H l _ _ hl (by omega) (by omega) (yp_one Q H l _ _ hl (by omega) (by omega) (yp_one Q H l _ _ hl (by omega) (by omega) (yp_one Q H l _ _ hl (by omega) (by omega) ?_)))
    rw [zi_add, zi_add, zi_add]
    have e : bZ (S l (i - 1) (j - 1)) + bZ (S l (i - 1) (j + 1)) + bZ (S l (i + 1) (j - 1)) + bZ (S l (i + 1) (j + 1)) = bZ (S l (i - 1) (j - 1)) + bZ (S l (i + 1) (j - 1)) + bZ (S l (i - 1) (j + 1)) + bZ (S l (i + 1) (j + 1)) := by omega
    rw [e]; exact h
theorem yp_edges {post : Int32 → Prop} (Q : YP ly S) (H : HS S) (l i j : Int) (hl : 0 ≤ l ∧ l ≤ 5) (hg : Gd i j) (h : post (zI (ee (S l) i j))) : wpY_edgesAt post (c, ly, fi, ma, se, px, py, la) (zI l) (zI i) (zI j) := by
  unfold wpY_edgesAt
  rw [zi_1, zi_s1, zi_1, zi_s1]
  refine yp_one Q H l _ _ hl (by omega) (by omega) (yp_one Q H l _ _ hl (by omega) (by omega) (yp_one Q H l _ _ hl (by omega) (by omega) (yp_one Q H l _ _ hl (by omega) (by omega) ?_)))
  rw [zi_add, zi_add, zi_add]
  unfold ee at h
  have e : bZ (S l (i - 1) j) + bZ (S l (i + 1) j) + bZ (S l i (j - 1)) + bZ (S l i (j + 1)) = bZ (S l (i + 1) j) + bZ (S l i (j + 1)) + bZ (S l (i - 1) j) + bZ (S l i (j - 1)) := by omega
  rw [e]; exact h
theorem yp_part {post : Int32 → Prop} (Q : YP ly S) (H : HS S) (l i j : Int) (hl : 0 ≤ l ∧ l ≤ 5) (hi : Rg i) (hj : Rg j) (h : post (zI (prt (S l) i j))) : wpY_partOf post (c, ly, fi, ma, se, px, py, la) (zI l) (zI i) (zI j) := by
  unfold wpY_partOf
  unfold prt at h
  refine yp_in Q H l i j hl hi hj (bb_0 (fun e => ?_) (fun e => ?_))
  · rw [if_pos e] at h; exact h
  · rw [if_neg (by rw [e]; decide)] at h
    have hg : Gd i j := H l i j e
    have hc := cc_r (S l) i j
    rw [zi_r2 (by omega), zi_r2 (by omega), zi_add]
    refine ⟨by decide, by decide, nm_e (zb_eq (i % 2 + j % 2) 2 (fun q => ?_) (fun q => yp_cells Q H l i j hl hg (by omega) (zb_eq (i % 2 + j % 2) 1 (fun q2 => zb_eq _ 1 (fun q3 => ?_) (fun q3 => ?_)) (fun q2 => zb_eq _ 4 (fun q3 => ?_) (fun q3 => zb_le _ 0 (fun q4 => ?_) (fun q4 => ?_))))))⟩
    · rw [if_pos (by omega)] at h; exact h
    · rw [if_neg (by omega), if_pos (by omega), if_pos q3] at h; exact h
    · rw [if_neg (by omega), if_pos (by omega), if_neg q3] at h; exact h
    · rw [if_neg (by omega), if_neg (by omega), if_pos q3] at h; exact h
    · rw [if_neg (by omega), if_neg (by omega), if_neg q3, if_neg (by omega)] at h
      have he := ee_r (S l) i j
      refine yp_edges Q H l i j hl hg ⟨by decide, ?_⟩
      rw [zi_r2 (by omega)]; exact h
    · rw [if_neg (by omega), if_neg (by omega), if_neg q3, if_pos q4] at h; exact h
end
theorem i_vc_part {k : Nat} {u : SX} {v : SY} (I : i_Rel k u v) (hk : k + 5 ≤ 2560) (v1 : Int32) (v2 : Int32) (v3 : Int32) : wpX_part (fun r => wpY_part (fun r' => r' = r ∧ i_Rel (k + 5) u v) v v1 v2 v3) u v1 v2 v3 := by
  obtain ⟨c, rc, gc, lr, rk, a, cx, cy, re, st, dg⟩ := u
  obtain ⟨c', ly, fi, ma, se, px, py, la⟩ := v
  obtain ⟨S, n, X, Y, P, Q, C, T, rfl, rfl⟩ := I
  obtain ⟨l, hl, rfl⟩ := zi_ex v1
  obtain ⟨i, hi, rfl⟩ := zi_ex v2
  obtain ⟨j, hj, rfl⟩ := zi_ex v3
  have R0 : i_Rel (k + 5) (zI n, rc, gc, lr, rk, a, cx, cy, re, st, dg) (zI n, ly, fi, ma, se, px, py, la) := i_mk P Q C T
  unfold wpX_part
  refine xg_layer l hl (fun h1 => b1_f (xp_part P l i j (by omega) hi hj ?_)) (fun h1 => b0_t ?_)
  · unfold wpY_part
    refine yg_layer l hl (fun h1 => b1_f (yg_atom i j hi hj (fun g => b1_f (yp_part Q P.2 l i j h1 hi hj ⟨rfl, R0⟩)) (fun g => b0_t ⟨?_, R0⟩))) (fun h => absurd h1 h)
    have : S l i j = false := px_no P g
    unfold prt; rw [if_pos this]; rfl
  · unfold wpY_part
    exact yg_layer l hl (fun h => absurd h h1) (fun h1 => b0_t ⟨rfl, R0⟩)
/-! covers -/
theorem co_x {post : Int32 → Prop} {c rc gc lr rk : Int32} {a cx cy re st dg : Nat → Int32} {S : Int → Int → Int → Bool} (P : XP a S) {l m : Int} (hl : 0 ≤ l ∧ l ≤ 5) (hm : 0 ≤ m ∧ m ≤ 5)
    (f : (∀ i j, Gd i j → S m i j = true → S l i j = true) → post 1) (g : ¬ (∀ i j, Gd i j → S m i j = true → S l i j = true) → post 0) :
    ∀ (N : Nat) (q : Int), 0 ≤ q → q ≤ 625 → (625 - q).toNat < N → (∀ i j, Gd i j → 25 * j + i < q → S m i j = true → S l i j = true) → wX_covers_18 post (zI l) (zI m) c rc gc lr rk a cx cy re st dg N (zI q) := by
  intro N
  induction N with
  | zero => intro q h0 h1 h2; omega
  | succ N ih =>
    intro q h0 h1 h2 hb
    refine zb_le 625 q (fun h => f (fun i j gd => hb i j gd (by omega))) (fun h => ?_)
    have e1 := zi_in1 m q
    have e2 := zi_in1 l q
    have hq : Gd (q % 25) (q / 25) := by omega
    have i1 : m * 625 + q = m * 625 + (q / 25) * 25 + q % 25 := by omega
    have i2 : l * 625 + q = l * 625 + (q / 25) * 25 + q % 25 := by omega
    have x1 := P.1 m _ _ hm.1 (by omega) hq
    have x2 := P.1 l _ _ hl.1 (by omega) hq
    rw [← i1] at x1
    rw [← i2] at x2
    refine ⟨zv_in _ (by omega) e1, ?_⟩
    rw [zv_cl _ e1, x1]
    have nxt : (S m (q % 25) (q / 25) = true → S l (q % 25) (q / 25) = true) → wX_covers_18 post (zI l) (zI m) c rc gc lr rk a cx cy re st dg N (zI (q + 1)) := by
      intro hh
      refine ih (q + 1) (by omega) (by omega) (by omega) (fun i j gd hlt => ?_)
      by_cases e : 25 * j + i < q
      · exact hb i j gd e
      · have ei : i = q % 25 := by omega
        have ej : j = q / 25 := by omega
        rw [ei, ej]; exact hh
    refine bb_0 (fun e => nm_r (zi_1 q) (nxt (fun h => absurd h (by rw [e]; decide)))) (fun e => ⟨zv_in _ (by omega) e2, ?_⟩)
    rw [zv_cl _ e2, x2]
    refine bb_0 (fun e3 => g (fun hh => ?_)) (fun e3 => nm_r (zi_1 q) (nxt (fun _ => e3)))
    have := hh _ _ hq e
    rw [e3] at this; exact absurd this (by decide)
theorem co_y {post : Int32 → Prop} {c : Int32} {ly fi ma se px py la : Nat → Int32} {S : Int → Int → Int → Bool} (Q : YP ly S) {l m : Int} (hl : 0 ≤ l ∧ l ≤ 5) (hm : 0 ≤ m ∧ m ≤ 5)
    (f : (∀ i j, Gd i j → S m i j = true → S l i j = true) → post 1) (g : ¬ (∀ i j, Gd i j → S m i j = true → S l i j = true) → post 0) :
    ∀ (N : Nat) (q : Int), 0 ≤ q → q ≤ 625 → (625 - q).toNat < N → (∀ i j, Gd i j → 25 * i + j < q → S m i j = true → S l i j = true) → wY_covers_20 post (zI l) (zI m) c ly fi ma se px py la N (zI q) := by
  intro N
  induction N with
  | zero => intro q h0 h1 h2; omega
  | succ N ih =>
    intro q h0 h1 h2 hb
    refine zb_le 625 q (fun h => f (fun i j gd => hb i j gd (by omega))) (fun h => ?_)
    have e1 := zi_in2 m q
    have e2 := zi_in2 l q
    have hq : Gd (q / 25) (q % 25) := by omega
    have i1 : 625 * m + q = 625 * m + 25 * (q / 25) + q % 25 := by omega
    have i2 : 625 * l + q = 625 * l + 25 * (q / 25) + q % 25 := by omega
    have x1 := Q m _ _ hm.1 (by omega) hq
    have x2 := Q l _ _ hl.1 (by omega) hq
    rw [← i1] at x1
    rw [← i2] at x2
    refine ⟨zv_in _ (by omega) e1, ?_⟩
    rw [zv_cl _ e1, x1]
    have nxt : (S m (q / 25) (q % 25) = true → S l (q / 25) (q % 25) = true) → wY_covers_20 post (zI l) (zI m) c ly fi ma se px py la N (zI (q + 1)) := by
      intro hh
      refine ih (q + 1) (by omega) (by omega) (by omega) (fun i j gd hlt => ?_)
      by_cases e : 25 * i + j < q
      · exact hb i j gd e
      · have ei : i = q / 25 := by omega
        have ej : j = q % 25 := by omega
        rw [ei, ej]; exact hh
    refine bb_0 (fun e => nm_r (zi_1 q) (nxt (fun h => absurd h (by rw [e]; decide)))) (fun e => ⟨zv_in _ (by omega) e2, ?_⟩)
    rw [zv_cl _ e2, x2]
    refine bb_0 (fun e3 => g (fun hh => ?_)) (fun e3 => nm_r (zi_1 q) (nxt (fun _ => e3)))
    have := hh _ _ hq e
    rw [e3] at this; exact absurd this (by decide)
theorem i_vc_covers {k : Nat} {u : SX} {v : SY} (I : i_Rel k u v) (hk : k + 5 ≤ 2560) (v1 : Int32) (v2 : Int32) : wpX_covers (fun r => wpY_covers (fun r' => r' = r ∧ i_Rel (k + 5) u v) v v1 v2) u v1 v2 := by
  obtain ⟨c, rc, gc, lr, rk, a, cx, cy, re, st, dg⟩ := u
  obtain ⟨c', ly, fi, ma, se, px, py, la⟩ := v
  obtain ⟨S, n, X, Y, P, Q, C, T, rfl, rfl⟩ := I
  obtain ⟨l, hl, rfl⟩ := zi_ex v1
  obtain ⟨m, hm, rfl⟩ := zi_ex v2
  have R0 : i_Rel (k + 5) (zI n, rc, gc, lr, rk, a, cx, cy, re, st, dg) (zI n, ly, fi, ma, se, px, py, la) := i_mk P Q C T
  unfold wpX_covers
  refine xg_layer l hl (fun h1 => b1_f (xg_layer m hm (fun h2 => b1_f ?_) (fun h2 => b0_t ?_))) (fun h1 => b0_t ?_)
  · refine ⟨626, co_x P h1 h2 (fun hh => ?_) (fun hh => ?_) 626 0 (by omega) (by omega) (by omega) (fun i j gd hlt => absurd hlt (by omega))⟩
    · unfold wpY_covers
      refine yg_layer l hl (fun _ => b1_f (yg_layer m hm (fun _ => b1_f ?_) (fun h => absurd h2 h))) (fun h => absurd h1 h)
      exact ⟨626, co_y Q h1 h2 (fun _ => ⟨rfl, R0⟩) (fun hh' => absurd hh hh') 626 0 (by omega) (by omega) (by omega) (fun i j gd hlt => absurd hlt (by omega))⟩
    · unfold wpY_covers
      refine yg_layer l hl (fun _ => b1_f (yg_layer m hm (fun _ => b1_f ?_) (fun h => absurd h2 h))) (fun h => absurd h1 h)
      exact ⟨626, co_y Q h1 h2 (fun hh' => absurd hh' hh) (fun _ => ⟨rfl, R0⟩) 626 0 (by omega) (by omega) (by omega) (fun i j gd hlt => absurd hlt (by omega))⟩
  · unfold wpY_covers
    exact yg_layer l hl (fun _ => b1_f (yg_layer m hm (fun h => absurd h h2) (fun _ => b0_t ⟨rfl, R0⟩))) (fun h => absurd h1 h)
  · unfold wpY_covers
    exact yg_layer l hl (fun h => absurd h h1) (fun _ => b0_t ⟨rfl, R0⟩)
end
section
/-! nearest -/
def ds (x u : Int) : Int := if x < u then u - x else x - u
theorem ds_r {x u : Int} (hx : 0 ≤ x ∧ x ≤ 12) (hu : 0 ≤ u ∧ u ≤ 12) : 0 ≤ ds x u ∧ ds x u ≤ 12 := by unfold ds; split <;> omega
def Nr (g : Int → Int → Bool) (x y : Int) (D : Int → Int → Prop) (r : Int) : Prop :=
  (r = -1 ∧ ∀ u v, (0 ≤ u ∧ u ≤ 12) → (0 ≤ v ∧ v ≤ 12) → D u v → g (2 * u) (2 * v) = false) ∨
  ((0 ≤ r ∧ r ≤ 24) ∧ (∃ u v, (0 ≤ u ∧ u ≤ 12) ∧ (0 ≤ v ∧ v ≤ 12) ∧ D u v ∧ g (2 * u) (2 * v) = true ∧ ds x u + ds y v = r) ∧
    ∀ u v, (0 ≤ u ∧ u ≤ 12) → (0 ≤ v ∧ v ≤ 12) → D u v → g (2 * u) (2 * v) = true → r ≤ ds x u + ds y v)
theorem nr_c {g : Int → Int → Bool} {x y : Int} {D D' : Int → Int → Prop} {r : Int} (h : Nr g x y D r) (e : ∀ u v, (0 ≤ u ∧ u ≤ 12) → (0 ≤ v ∧ v ≤ 12) → (D u v ↔ D' u v)) : Nr g x y D' r := by
  rcases h with ⟨h1, h2⟩ | ⟨h1, ⟨u, v, hu, hv, hd, h3⟩, h4⟩
  · exact Or.inl ⟨h1, fun u v hu hv hd => h2 u v hu hv ((e u v hu hv).mpr hd)⟩
  · exact Or.inr ⟨h1, ⟨u, v, hu, hv, (e u v hu hv).mp hd, h3⟩, fun u v hu hv hd => h4 u v hu hv ((e u v hu hv).mpr hd)⟩
theorem nr_u {g : Int → Int → Bool} {x y : Int} {r r' : Int} (h : Nr g x y (fun _ _ => True) r) (h' : Nr g x y (fun _ _ => True) r') : r = r' := by
  rcases h with ⟨h1, h2⟩ | ⟨h1, ⟨u, v, hu, hv, hd, h3, h5⟩, h4⟩
  · rcases h' with ⟨h1', h2'⟩ | ⟨h1', ⟨u', v', hu', hv', hd', h3', h5'⟩, h4'⟩
    · omega
    · have := h2 u' v' hu' hv' trivial; rw [h3'] at this; exact absurd this (by decide)
  · rcases h' with ⟨h1', h2'⟩ | ⟨h1', ⟨u', v', hu', hv', hd', h3', h5'⟩, h4'⟩
    · have := h2' u v hu hv trivial; rw [h3] at this; exact absurd this (by decide)
    · have := h4 u' v' hu' hv' trivial h3'
      have := h4' u v hu hv trivial h3
      omega
theorem nr_f {g : Int → Int → Bool} {x y : Int} {D D' : Int → Int → Prop} {r p q : Int} (h : Nr g x y D r) (e : ∀ u v, (0 ≤ u ∧ u ≤ 12) → (0 ≤ v ∧ v ≤ 12) → (D' u v ↔ D u v ∨ (u = p ∧ v = q))) (hg : g (2 * p) (2 * q) = false) : Nr g x y D' r := by
  rcases h with ⟨h1, h2⟩ | ⟨h1, ⟨u, v, hu, hv, hd, h3⟩, h4⟩
  · refine Or.inl ⟨h1, fun u v hu hv hd => ?_⟩
    rcases (e u v hu hv).mp hd with h | ⟨rfl, rfl⟩
    · exact h2 u v hu hv h
    · exact hg
  · refine Or.inr ⟨h1, ⟨u, v, hu, hv, (e u v hu hv).mpr (Or.inl hd), h3⟩, fun u v hu hv hd => ?_⟩
    rcases (e u v hu hv).mp hd with h | ⟨rfl, rfl⟩
    · exact h4 u v hu hv h
    · intro hh; rw [hg] at hh; exact absurd hh (by decide)
theorem nr_n {g : Int → Int → Bool} {x y : Int} {D D' : Int → Int → Prop} {r p q : Int} (h : Nr g x y D r) (hx : 0 ≤ x ∧ x ≤ 12) (hy : 0 ≤ y ∧ y ≤ 12) (hp : 0 ≤ p ∧ p ≤ 12) (hq : 0 ≤ q ∧ q ≤ 12) (e : ∀ u v, (0 ≤ u ∧ u ≤ 12) → (0 ≤ v ∧ v ≤ 12) → (D' u v ↔ D u v ∨ (u = p ∧ v = q))) (hg : g (2 * p) (2 * q) = true) (hr : r < 0 ∨ ds x p + ds y q ≤ r) : Nr g x y D' (ds x p + ds y q) := by
  have b1 := ds_r hx hp
  have b2 := ds_r hy hq
  refine Or.inr ⟨by omega, ⟨p, q, hp, hq, (e p q hp hq).mpr (Or.inr ⟨rfl, rfl⟩), hg, rfl⟩, fun u v hu hv hd hh => ?_⟩
  rcases (e u v hu hv).mp hd with h5 | ⟨rfl, rfl⟩
  · rcases h with ⟨h1, h2⟩ | ⟨h1, ⟨u', v', hu', hv', hd', h3⟩, h4⟩
    · have := h2 u v hu hv h5; rw [hh] at this; exact absurd this (by decide)
    · have := h4 u v hu hv h5 hh; omega
  · omega
theorem nr_k {g : Int → Int → Bool} {x y : Int} {D D' : Int → Int → Prop} {r p q : Int} (h : Nr g x y D r) (e : ∀ u v, (0 ≤ u ∧ u ≤ 12) → (0 ≤ v ∧ v ≤ 12) → (D' u v ↔ D u v ∨ (u = p ∧ v = q))) (hr : 0 ≤ r ∧ r ≤ ds x p + ds y q) : Nr g x y D' r := by
  rcases h with ⟨h1, h2⟩ | ⟨h1, ⟨u, v, hu, hv, hd, h3⟩, h4⟩
  · omega
  · refine Or.inr ⟨h1, ⟨u, v, hu, hv, (e u v hu hv).mpr (Or.inl hd), h3⟩, fun u v hu hv hd => ?_⟩
    rcases (e u v hu hv).mp hd with h | ⟨rfl, rfl⟩
    · exact h4 u v hu hv h
    · intro _; omega
theorem nr_b {g : Int → Int → Bool} {x y : Int} {D : Int → Int → Prop} {r : Int} (h : Nr g x y D r) : -1 ≤ r ∧ r ≤ 24 := by
  rcases h with ⟨h1, h2⟩ | ⟨h1, h2⟩ <;> omega
theorem xp_gap {post : Int32 → Prop} (x u : Int) (hx : 0 ≤ x ∧ x ≤ 100) (hu : 0 ≤ u ∧ u ≤ 100) (h : post (zI (ds x u))) : wpX_gap post (zI x) (zI u) := by
  unfold ds at h
  refine zb_le u x (fun q => ?_) (fun q => ?_)
  · rw [zi_sub]; rw [if_neg (by omega)] at h; exact h
  · rw [zi_sub]; rw [if_pos (by omega)] at h; exact h
section
variable {c rc gc lr rk : Int32} {a cx cy re st dg : Nat → Int32} {S : Int → Int → Int → Bool}
theorem nx_in {post : Int32 → Prop} {J : Int32 → Int32 → Prop} (P : XP a S) {l x y v : Int} (hl : 0 ≤ l ∧ l ≤ 5) (hx : 0 ≤ x ∧ x ≤ 12) (hy : 0 ≤ y ∧ y ≤ 12) (hv : 0 ≤ v ∧ v ≤ 12)
    (hJ : ∀ r, Nr (S l) x y (fun _ v' => v' < v + 1) r → J (zI r) (zI (v + 1))) :
    ∀ (N : Nat) (u r : Int), 0 ≤ u → u ≤ 13 → (13 - u).toNat < N → Nr (S l) x y (fun u' v' => v' < v ∨ (v' = v ∧ u' < u)) r → wX_nearest_39 post J (zI l) (zI x) (zI y) (zI v) c rc gc lr rk a cx cy re st dg N (zI r) (zI u) := by
  intro N
  induction N with
  | zero => intro u r h0 h1 h2; omega
  | succ N ih =>
    intro u r h0 h1 h2 hn
    have hr := nr_b hn
    refine zb_lt 12 u (fun h => nm_r (zi_1 v) (hJ r (nr_c hn (fun u v hu hv => by omega)))) (fun h => ?_)
    refine xp_gap x u (by omega) (by omega) (xp_gap y v (by omega) (by omega) (nm_r (zi_add _ _) ?_))
    have b1 := ds_r hx (u := u) ⟨h0, by omega⟩
    have b2 := ds_r hy hv
    rw [zi_dbl, zi_dbl]
    have ed : ∀ u' v', (0 ≤ u' ∧ u' ≤ 12) → (0 ≤ v' ∧ v' ≤ 12) → ((v' < v ∨ (v' = v ∧ u' < u + 1)) ↔ (v' < v ∨ (v' = v ∧ u' < u)) ∨ (u' = u ∧ v' = v)) := fun u' v' _ _ => by omega
    refine xp_has P l _ _ (by omega) (by omega) (by omega) (bb_0 (fun e => nm_r (zi_1 u) ?_) (fun e => zb_lt r 0 (fun h3 => nm_r (zi_1 u) ?_) (fun h3 => zb_le r (ds x u + ds y v) (fun h4 => nm_r (zi_1 u) ?_) (fun h4 => nm_r (zi_1 u) ?_))))
    · exact ih (u + 1) r (by omega) (by omega) (by omega) (nr_f hn ed e)
    · exact ih (u + 1) _ (by omega) (by omega) (by omega) (nr_n hn hx hy (by omega) hv ed e (Or.inl h3))
    · exact ih (u + 1) r (by omega) (by omega) (by omega) (nr_k hn ed (by omega))
    · exact ih (u + 1) _ (by omega) (by omega) (by omega) (nr_n hn hx hy (by omega) hv ed e (Or.inr (by omega)))
theorem nx_out {post : Int32 → Prop} (P : XP a S) {l x y : Int} (hl : 0 ≤ l ∧ l ≤ 5) (hx : 0 ≤ x ∧ x ≤ 12) (hy : 0 ≤ y ∧ y ≤ 12) (f : ∀ r, Nr (S l) x y (fun _ _ => True) r → post (zI r)) :
    ∀ (N : Nat) (v r : Int), 0 ≤ v → v ≤ 13 → (13 - v).toNat < N → Nr (S l) x y (fun _ v' => v' < v) r → wX_nearest_29 post (zI l) (zI x) (zI y) c rc gc lr rk a cx cy re st dg N (zI r) (zI v) := by
  intro N
  induction N with
  | zero => intro u r h0 h1 h2; omega
  | succ N ih =>
    intro v r h0 h1 h2 hn
    refine zb_lt 12 v (fun h => f r (nr_c hn (fun u v hu hv => ⟨fun _ => trivial, fun _ => by omega⟩))) (fun h => ⟨14, ?_⟩)
    exact nx_in P hl hx hy ⟨h0, by omega⟩ (fun r' hr' => ih (v + 1) r' (by omega) (by omega) (by omega) hr') 14 0 r (by omega) (by omega) (by omega) (nr_c hn (fun u v hu hv => by omega))
end
section
variable {c : Int32} {ly fi ma se px py la : Nat → Int32} {S : Int → Int → Int → Bool}
theorem ny_81 {post : Int32 → Prop} {J : Int32 → Int32 → Prop} (Q : YP ly S) (H : HS S) {l x y n r : Int} (hl : 0 ≤ l ∧ l ≤ 5) (hx : 0 ≤ x ∧ x ≤ 12) (hy : 0 ≤ y ∧ y ≤ 12) (hn : 0 ≤ n ∧ n ≤ 168) (h : Nr (S l) x y (fun u' v' => 13 * u' + v' < n) r)
    (hJ : ∀ r, Nr (S l) x y (fun u' v' => 13 * u' + v' < n + 1) r → J (zI r) (zI (n + 1))) (z0 z1 : Int32) (e0 : z0 = zI (ds y (n % 13))) (e1 : z1 = zI (ds x (n / 13))) :
    wY_nearest_81 post J (zI l) (zI x) (zI y) (zI r) (zI n) (zI (n / 13)) (zI (n % 13)) z0 z1 c ly fi ma se px py la := by
  have hr := nr_b h
  unfold wY_nearest_81
  rw [e0, e1]
  have b1 := ds_r hx (u := n / 13) (by omega)
  have b2 := ds_r hy (u := n % 13) (by omega)
  rw [zi_dbl, zi_dbl]
  have ed : ∀ u' v', (0 ≤ u' ∧ u' ≤ 12) → (0 ≤ v' ∧ v' ≤ 12) → (13 * u' + v' < n + 1 ↔ 13 * u' + v' < n ∨ (u' = n / 13 ∧ v' = n % 13)) := fun u' v' _ _ => by omega
  refine nm_r (zi_add _ _) (yp_in Q H l _ _ (by omega) (by omega) (by omega) (bb_0 (fun e => nm_r (zi_1 n) ?_) (fun e => zb_lt r 0 (fun h3 => nm_r (zi_1 n) ?_) (fun h3 => zb_le r (ds x (n / 13) + ds y (n % 13)) (fun h4 => nm_r (zi_1 n) ?_) (fun h4 => nm_r (zi_1 n) ?_)))))
  · exact hJ r (nr_f h ed e)
  · exact hJ _ (nr_n h hx hy (by omega) (by omega) ed e (Or.inl h3))
  · exact hJ r (nr_k h ed (by omega))
  · exact hJ _ (nr_n h hx hy (by omega) (by omega) ed e (Or.inr (by omega)))
theorem ny_out {post : Int32 → Prop} (Q : YP ly S) (H : HS S) {l x y : Int} (hl : 0 ≤ l ∧ l ≤ 5) (hx : 0 ≤ x ∧ x ≤ 12) (hy : 0 ≤ y ∧ y ≤ 12) (f : ∀ r, Nr (S l) x y (fun _ _ => True) r → post (zI r)) :
    ∀ (N : Nat) (n r : Int), 0 ≤ n → n ≤ 169 → (169 - n).toNat < N → Nr (S l) x y (fun u' v' => 13 * u' + v' < n) r → wY_nearest_25 post (zI l) (zI x) (zI y) c ly fi ma se px py la N (zI r) (zI n) := by
  intro N
  induction N with
  | zero => intro u r h0 h1 h2; omega
  | succ N ih =>
    intro n r h0 h1 h2 hn
    refine zb_le 169 n (fun h => f r (nr_c hn (fun u v hu hv => ⟨fun _ => trivial, fun _ => by omega⟩))) (fun h => ⟨by decide, nm_r (zi_d13 (by omega)) ⟨by decide, nm_r (zi_r13 (by omega)) ?_⟩⟩)
    have key : ∀ z0 z1 : Int32, z0 = zI (ds y (n % 13)) → z1 = zI (ds x (n / 13)) → wY_nearest_81 post (wY_nearest_25 post (zI l) (zI x) (zI y) c ly fi ma se px py la N) (zI l) (zI x) (zI y) (zI r) (zI n) (zI (n / 13)) (zI (n % 13)) z0 z1 c ly fi ma se px py la :=
      fun z0 z1 e0 e1 => ny_81 Q H hl hx hy (by omega) hn (fun r' hr' => ih (n + 1) r' (by omega) (by omega) (by omega) hr') z0 z1 e0 e1
    have k2 : ∀ z0 : Int32, z0 = zI (ds x (n / 13)) → wY_nearest_64 post (wY_nearest_25 post (zI l) (zI x) (zI y) c ly fi ma se px py la N) (zI l) (zI x) (zI y) (zI r) (zI n) (zI (n / 13)) (zI (n % 13)) z0 c ly fi ma se px py la := by
      intro z0 e0
      refine zb_le y (n % 13) (fun q => key _ _ ?_ e0) (fun q => key _ _ ?_ e0)
      · rw [zi_sub]; unfold ds; split <;> (apply congrArg zI; omega)
      · rw [zi_sub]; unfold ds; rw [if_neg (by omega)]
    refine zb_le x (n / 13) (fun q => k2 _ ?_) (fun q => k2 _ ?_)
    · rw [zi_sub]; unfold ds; split <;> (apply congrArg zI; omega)
    · rw [zi_sub]; unfold ds; rw [if_neg (by omega)]
end
theorem i_vc_nearest {k : Nat} {u : SX} {v : SY} (I : i_Rel k u v) (hk : k + 5 ≤ 2560) (v1 : Int32) (v2 : Int32) (v3 : Int32) : wpX_nearest (fun r => wpY_nearest (fun r' => r' = r ∧ i_Rel (k + 5) u v) v v1 v2 v3) u v1 v2 v3 := by
  obtain ⟨c, rc, gc, lr, rk, a, cx, cy, re, st, dg⟩ := u
  obtain ⟨c', ly, fi, ma, se, px, py, la⟩ := v
  obtain ⟨S, n, X, Y, P, Q, C, T, rfl, rfl⟩ := I
  obtain ⟨l, hl, rfl⟩ := zi_ex v1
  obtain ⟨x, hx, rfl⟩ := zi_ex v2
  obtain ⟨y, hy, rfl⟩ := zi_ex v3
  have R0 : i_Rel (k + 5) (zI n, rc, gc, lr, rk, a, cx, cy, re, st, dg) (zI n, ly, fi, ma, se, px, py, la) := i_mk P Q C T
  have bad : ¬ ((0 ≤ l ∧ l ≤ 5) ∧ (0 ≤ x ∧ x ≤ 12) ∧ (0 ≤ y ∧ y ≤ 12)) → wpY_nearest (fun r' => r' = -1 ∧ i_Rel (k + 5) (zI n, rc, gc, lr, rk, a, cx, cy, re, st, dg) (zI n, ly, fi, ma, se, px, py, la)) (zI n, ly, fi, ma, se, px, py, la) (zI l) (zI x) (zI y) := by
    intro h
    unfold wpY_nearest
    refine yg_layer l hl (fun h1 => b1_f ?_) (fun h1 => b0_t ⟨rfl, R0⟩)
    exact yg_coord x y hx hy (fun h2 => absurd ⟨h1, h2⟩ h) (fun _ => b0_t ⟨rfl, R0⟩)
  unfold wpX_nearest
  refine xg_layer l hl (fun h1 => b1_f ?_) (fun h1 => b0_t (bad (fun h => h1 h.1)))
  refine xg_coord x hx (fun h2 => b1_f ?_) (fun h2 => b0_t (bad (fun h => h2 h.2.1)))
  refine xg_coord y hy (fun h3 => b1_f ?_) (fun h3 => b0_t (bad (fun h => h3 h.2.2)))
  refine ⟨14, nx_out P h1 h2 h3 (fun r hr => ?_) 14 0 (-1) (by omega) (by omega) (by omega) (Or.inl ⟨rfl, fun u v hu hv hh => absurd hh (by omega)⟩)⟩
  unfold wpY_nearest
  refine yg_layer l hl (fun _ => b1_f (yg_coord x y hx hy (fun _ => b1_f ?_) (fun h => absurd ⟨h2, h3⟩ h))) (fun h => absurd h1 h)
  exact ⟨170, ny_out Q P.2 h1 h2 h3 (fun r' hr' => ⟨by rw [nr_u hr hr'], R0⟩) 170 0 (-1) (by omega) (by omega) (by omega) (Or.inl ⟨rfl, fun u v hu hv hh => absurd hh (by omega)⟩)⟩
end
section
/-! relate -/
theorem zi_shr {a : Int} (h : 0 ≤ a ∧ a < 2147483648) (s : Int32) (k : Nat) (hs : (s.toBitVec.smod 32).toNat = k) : zI a >>> s = zI (a / 2 ^ k) := by
  apply Int32.toInt_inj.mp
  have e : (zI a >>> s).toInt = (zI a).toInt >>> k := by
    show ((zI a).toBitVec.sshiftRight (s.toBitVec.smod 32).toNat).toInt = _
    rw [hs, BitVec.toInt_sshiftRight]
    rfl
  have hp : (0 : Int) < 2 ^ k := Int.pow_pos (by decide)
  have h1 : 0 ≤ a / 2 ^ k := Int.ediv_nonneg h.1 (Int.le_of_lt hp)
  have h2 : a / 2 ^ k ≤ a := Int.ediv_le_self _ h.1
  rw [e, zi_toInt (by omega), zi_toInt (by omega), Int.shiftRight_eq_div_pow]
  simp
theorem zi_and3 {a : Int} (ha : 0 ≤ a ∧ a < 2147483648) : zI a &&& 3 = zI (a % 4) := by
  apply Int32.toBitVec_inj.mp
  apply BitVec.eq_of_toNat_eq
  have e1 : (zI a &&& 3).toBitVec.toNat = (zI a).toBitVec.toNat % 4 := by
    rw [Int32.toBitVec_and, BitVec.toNat_and]
    exact Nat.and_two_pow_sub_one_eq_mod _ 2
  have e2 : (zI a).toBitVec = BitVec.ofInt 32 a := rfl
  have e3 : (zI (a % 4)).toBitVec = BitVec.ofInt 32 (a % 4) := rfl
  rw [e1, e2, e3, BitVec.toNat_ofInt, BitVec.toNat_ofInt]
  omega
theorem zi_shl : ∀ d : Fin 4, ∀ p : Fin 9, zI (d.val : Int) <<< (zI (2 * (p.val : Int)) &&& 31) = zI ((d.val : Int) * 4 ^ p.val) := by decide +kernel
theorem zi_shl' {d p : Int} (hd : 0 ≤ d ∧ d ≤ 3) (hp : 0 ≤ p ∧ p ≤ 8) : zI d <<< (zI (2 * p) &&& 31) = zI (d * 4 ^ p.toNat) := by
  have h := zi_shl ⟨d.toNat, by omega⟩ ⟨p.toNat, by omega⟩
  simp only [Int.toNat_of_nonneg hd.1, Int.toNat_of_nonneg hp.1] at h
  exact h
def enc (D : Int → Int) : Int := D 0 + 4 * D 1 + 16 * D 2 + 64 * D 3 + 256 * D 4 + 1024 * D 5 + 4096 * D 6 + 16384 * D 7 + 196608
def D03 (D : Int → Int) : Prop := ∀ p, 0 ≤ p → p ≤ 8 → 0 ≤ D p ∧ D p ≤ 3
theorem en_r {D : Int → Int} (h : D03 D) : 0 ≤ enc D ∧ enc D ≤ 262143 := by
  have h0 := h 0 (by omega) (by omega)
  have h1 := h 1 (by omega) (by omega)
  have h2 := h 2 (by omega) (by omega)
  have h3 := h 3 (by omega) (by omega)
  have h4 := h 4 (by omega) (by omega)
  have h5 := h 5 (by omega) (by omega)
  have h6 := h 6 (by omega) (by omega)
  have h7 := h 7 (by omega) (by omega)
  unfold enc; omega
theorem p9 {p : Int} (h : 0 ≤ p ∧ p ≤ 8) : p = 0 ∨ p = 1 ∨ p = 2 ∨ p = 3 ∨ p = 4 ∨ p = 5 ∨ p = 6 ∨ p = 7 ∨ p = 8 := by omega
theorem en_get {D : Int → Int} (h : D03 D) {p : Int} (hp : 0 ≤ p ∧ p ≤ 8) : (zI (enc D) >>> (zI (2 * p) &&& 31)) &&& 3 = zI (if p = 8 then 3 else D p) := by
  have hr := en_r h
  have h0 := h 0 (by omega) (by omega)
  have h1 := h 1 (by omega) (by omega)
  have h2 := h 2 (by omega) (by omega)
  have h3 := h 3 (by omega) (by omega)
  have h4 := h 4 (by omega) (by omega)
  have h5 := h 5 (by omega) (by omega)
  have h6 := h 6 (by omega) (by omega)
  have h7 := h 7 (by omega) (by omega)
  rcases p9 hp with rfl | rfl | rfl | rfl | rfl | rfl | rfl | rfl | rfl
  · rw [zi_shr (by omega) _ 0 (by decide), zi_and3 (by omega), if_neg (by decide)]
    apply congrArg zI; unfold enc; omega
  · rw [zi_shr (by omega) _ 2 (by decide), zi_and3 (by omega), if_neg (by decide)]
    apply congrArg zI; unfold enc; omega
  · rw [zi_shr (by omega) _ 4 (by decide), zi_and3 (by omega), if_neg (by decide)]
    apply congrArg zI; unfold enc; omega
  · rw [zi_shr (by omega) _ 6 (by decide), zi_and3 (by omega), if_neg (by decide)]
    apply congrArg zI; unfold enc; omega
  · rw [zi_shr (by omega) _ 8 (by decide), zi_and3 (by omega), if_neg (by decide)]
    apply congrArg zI; unfold enc; omega
  · rw [zi_shr (by omega) _ 10 (by decide), zi_and3 (by omega), if_neg (by decide)]
    apply congrArg zI; unfold enc; omega
  · rw [zi_shr (by omega) _ 12 (by decide), zi_and3 (by omega), if_neg (by decide)]
    apply congrArg zI; unfold enc; omega
  · rw [zi_shr (by omega) _ 14 (by decide), zi_and3 (by omega), if_neg (by decide)]
    apply congrArg zI; unfold enc; omega
  · rw [zi_shr (by omega) _ 16 (by decide), zi_and3 (by omega), if_pos rfl]
    apply congrArg zI; unfold enc; omega
def dset (D : Int → Int) (p s : Int) : Int → Int := fun q => if q = p then s else D q
theorem en_put {D : Int → Int} {p s : Int} (hp : 0 ≤ p ∧ p ≤ 7) : enc (dset D p s) = enc D + (s - D p) * 4 ^ p.toNat := by
  rcases p9 (p := p) (by omega) with rfl | rfl | rfl | rfl | rfl | rfl | rfl | rfl | rfl
  · have e : (4 : Int) ^ (0 : Int).toNat = 1 := by decide
    rw [e]; simp [enc, dset]; omega
  · have e : (4 : Int) ^ (1 : Int).toNat = 4 := by decide
    rw [e]; simp [enc, dset]; omega
  · have e : (4 : Int) ^ (2 : Int).toNat = 16 := by decide
    rw [e]; simp [enc, dset]; omega
  · have e : (4 : Int) ^ (3 : Int).toNat = 64 := by decide
    rw [e]; simp [enc, dset]; omega
  · have e : (4 : Int) ^ (4 : Int).toNat = 256 := by decide
    rw [e]; simp [enc, dset]; omega
  · have e : (4 : Int) ^ (5 : Int).toNat = 1024 := by decide
    rw [e]; simp [enc, dset]; omega
  · have e : (4 : Int) ^ (6 : Int).toNat = 4096 := by decide
    rw [e]; simp [enc, dset]; omega
  · have e : (4 : Int) ^ (7 : Int).toNat = 16384 := by decide
    rw [e]; simp [enc, dset]; omega
  · omega
theorem en_8 {D : Int → Int} {s : Int} : enc (dset D 8 s) = enc D := by simp [enc, dset]
def pai (g h : Int → Int → Bool) (i j : Int) : Int := 3 * prt g i j + prt h i j
theorem pa_r (g h : Int → Int → Bool) (i j : Int) : 0 ≤ pai g h i j ∧ pai g h i j ≤ 8 := by
  have := pr_r g i j; have := pr_r h i j; unfold pai; omega
def Dgt (g h : Int → Int → Bool) (K : Int → Int → Prop) (D : Int → Int) : Prop := D03 D ∧ ∀ p, 0 ≤ p → p ≤ 8 →
  (∀ i j, Gd i j → K i j → pai g h i j = p → i % 2 + j % 2 + 1 ≤ D p) ∧ (D p = 0 ∨ ∃ i j, Gd i j ∧ K i j ∧ pai g h i j = p ∧ i % 2 + j % 2 + 1 = D p)
theorem dg_c {g h : Int → Int → Bool} {K K' : Int → Int → Prop} {D : Int → Int} (d : Dgt g h K D) (e : ∀ i j, Gd i j → (K i j ↔ K' i j)) : Dgt g h K' D := by
  refine ⟨d.1, fun p h0 h8 => ?_⟩
  obtain ⟨d1, d2⟩ := d.2 p h0 h8
  refine ⟨fun i j gd k => d1 i j gd ((e i j gd).mpr k), ?_⟩
  rcases d2 with d2 | ⟨i, j, gd, k, d3⟩
  · exact Or.inl d2
  · exact Or.inr ⟨i, j, gd, (e i j gd).mp k, d3⟩
theorem dg_u {g h : Int → Int → Bool} {K : Int → Int → Prop} {D D' : Int → Int} (d : Dgt g h K D) (d' : Dgt g h K D') {p : Int} (h0 : 0 ≤ p) (h8 : p ≤ 8) : D p = D' p := by
  obtain ⟨d1, d2⟩ := d.2 p h0 h8
  obtain ⟨e1, e2⟩ := d'.2 p h0 h8
  have r1 := d.1 p h0 h8
  have r2 := d'.1 p h0 h8
  rcases d2 with d2 | ⟨i, j, gd, k, d3, d4⟩
  · rcases e2 with e2 | ⟨i', j', gd', k', e3, e4⟩
    · omega
    · have := d1 i' j' gd' k' e3; omega
  · rcases e2 with e2 | ⟨i', j', gd', k', e3, e4⟩
    · have := e1 i j gd k d3; omega
    · have := d1 i' j' gd' k' e3; have := e1 i j gd k d3; omega
theorem dg_a {g h : Int → Int → Bool} {K K' : Int → Int → Prop} {D : Int → Int} {i0 j0 : Int} (d : Dgt g h K D) (e : ∀ i j, Gd i j → (K' i j ↔ K i j ∨ (i = i0 ∧ j = j0))) (hs : i0 % 2 + j0 % 2 + 1 ≤ D (pai g h i0 j0)) : Dgt g h K' D := by
  refine ⟨d.1, fun p h0 h8 => ?_⟩
  obtain ⟨d1, d2⟩ := d.2 p h0 h8
  refine ⟨fun i j gd k hp => ?_, ?_⟩
  · rcases (e i j gd).mp k with k | ⟨rfl, rfl⟩
    · exact d1 i j gd k hp
    · rw [hp] at hs; exact hs
  · rcases d2 with d2 | ⟨i, j, gd, k, d3⟩
    · exact Or.inl d2
    · exact Or.inr ⟨i, j, gd, (e i j gd).mpr (Or.inl k), d3⟩
theorem dg_b {g h : Int → Int → Bool} {K K' : Int → Int → Prop} {D : Int → Int} {i0 j0 : Int} (gd0 : Gd i0 j0) (d : Dgt g h K D) (e : ∀ i j, Gd i j → (K' i j ↔ K i j ∨ (i = i0 ∧ j = j0))) (hs : D (pai g h i0 j0) < i0 % 2 + j0 % 2 + 1) : Dgt g h K' (dset D (pai g h i0 j0) (i0 % 2 + j0 % 2 + 1)) := by
  refine ⟨fun p h0 h8 => ?_, fun p h0 h8 => ?_⟩
  · have := d.1 p h0 h8
    unfold dset; split <;> omega
  · obtain ⟨d1, d2⟩ := d.2 p h0 h8
    unfold dset
    by_cases q : p = pai g h i0 j0
    · rw [if_pos q]
      refine ⟨fun i j gd k hp => ?_, Or.inr ⟨i0, j0, gd0, (e i0 j0 gd0).mpr (Or.inr ⟨rfl, rfl⟩), q.symm, rfl⟩⟩
      rcases (e i j gd).mp k with k | ⟨rfl, rfl⟩
      · have := d1 i j gd k hp; rw [q] at this; omega
      · omega
    · rw [if_neg q]
      refine ⟨fun i j gd k hp => ?_, ?_⟩
      · rcases (e i j gd).mp k with k | ⟨rfl, rfl⟩
        · exact d1 i j gd k hp
        · exact absurd hp.symm q
      · rcases d2 with d2 | ⟨i, j, gd, k, d3⟩
        · exact Or.inl d2
        · exact Or.inr ⟨i, j, gd, (e i j gd).mpr (Or.inl k), d3⟩
def DA (dg : Nat → Int32) (D : Int → Int) : Prop := ∀ p, 0 ≤ p → p ≤ 8 → dg p.toNat = zI (D p)
theorem da_u {dg : Nat → Int32} {D : Int → Int} (h : DA dg D) {p s : Int} (hp : 0 ≤ p ∧ p ≤ 8) : DA (upd dg p.toNat (zI s)) (dset D p s) := by
  intro q q0 q8
  unfold upd dset
  by_cases e : q = p
  · rw [if_pos e, if_pos (by omega)]
  · rw [if_neg e, if_neg (by omega)]; exact h q q0 q8
section
variable {c rc gc lr rk : Int32} {a cx cy re st dg : Nat → Int32} {S : Int → Int → Int → Bool}
theorem ho_1 {post : Int32 → SX → Prop} {D : Int → Int} (h : DA dg D) {p k : Int} {n : Nat} (hp : 0 ≤ p ∧ p ≤ 8) (w : wX_relate_133 post c rc gc lr rk a cx cy re st dg n (zI (4 * k + D p)) (zI (p - 1))) : wX_relate_133 post c rc gc lr rk a cx cy re st dg (n + 1) (zI k) (zI p) := by
  refine zb_lt p 0 (fun h => absurd h (by omega)) (fun _ => ⟨zv_in p (by omega), nm_r ?_ (nm_r (zi_m1 p) w)⟩)
  rw [zi_cl (by omega), h p hp.1 hp.2]
  have e : 4 * zI k = zI (4 * k) := zi_mul 4 k
  rw [e, zi_add]
theorem ho_9 {post : Int32 → SX → Prop} {D : Int → Int} (h : DA dg D) (h8 : D 8 = 3) (w : post (zI (enc D)) (c, rc, gc, lr, rk, a, cx, cy, re, st, dg)) : wX_relate_133 post c rc gc lr rk a cx cy re st dg 10 0 8 := by
  refine ho_1 (p := 8) (k := 0) h (by omega) ?_
  refine ho_1 (p := 7) h (by omega) ?_
  refine ho_1 (p := 6) h (by omega) ?_
  refine ho_1 (p := 5) h (by omega) ?_
  refine ho_1 (p := 4) h (by omega) ?_
  refine ho_1 (p := 3) h (by omega) ?_
  refine ho_1 (p := 2) h (by omega) ?_
  refine ho_1 (p := 1) h (by omega) ?_
  refine ho_1 (p := 0) h (by omega) ?_
  refine zb_lt (-1) 0 (fun _ => ?_) (fun h => absurd h (by omega))
  have e : enc D = 4 * (4 * (4 * (4 * (4 * (4 * (4 * (4 * (4 * 0 + D 8) + D 7) + D 6) + D 5) + D 4) + D 3) + D 2) + D 1) + D 0 := by unfold enc; omega
  rw [e] at w; exact w
theorem re_i {post : Int32 → SX → Prop} {J : Int32 → (Nat → Int32) → (Nat → Int32) → (Nat → Int32) → (Nat → Int32) → (Nat → Int32) → (Nat → Int32) → Prop} (P : XP a S) {l m j : Int} (hl : 0 ≤ l ∧ l ≤ 5) (hm : 0 ≤ m ∧ m ≤ 5) (hj : 0 ≤ j ∧ j ≤ 24)
    (hJ : ∀ dg D, DA dg D → Dgt (S l) (S m) (fun _ j' => j' < j + 1) D → J (zI (j + 1)) a cx cy re st dg) :
    ∀ (N : Nat) (i : Int) (dg : Nat → Int32) (D : Int → Int), 0 ≤ i → i ≤ 25 → (25 - i).toNat < N → DA dg D → Dgt (S l) (S m) (fun i' j' => j' < j ∨ (j' = j ∧ i' < i)) D → wX_relate_48 post J (zI l) (zI m) (zI j) c rc gc lr rk N (zI i) a cx cy re st dg := by
  intro N
  induction N with
  | zero => intro i dg D h0 h1 h2; omega
  | succ N ih =>
    intro i dg D h0 h1 h2 hd hD
    refine zb_le 25 i (fun h => nm_r (zi_1 j) (hJ dg D hd (dg_c hD (fun i j gd => by omega)))) (fun h => ?_)
    refine xp_part P l i j (by omega) (by omega) (by omega) (xp_part P m i j (by omega) (by omega) (by omega) ?_)
    have q1 := pa_r (S l) (S m) i j
    have e3 : (3 * zI (prt (S l) i j)) + zI (prt (S m) i j) = zI (pai (S l) (S m) i j) := by
      have e : 3 * zI (prt (S l) i j) = zI (3 * prt (S l) i j) := zi_mul 3 _
      rw [e, zi_add]; rfl
    have r3 := hD.1 _ q1.1 q1.2
    have ed : ∀ i' j', Gd i' j' → ((j' < j ∨ (j' = j ∧ i' < i + 1)) ↔ (j' < j ∨ (j' = j ∧ i' < i)) ∨ (i' = i ∧ j' = j)) := fun i' j' _ => by omega
    refine nm_r e3 (xp_dim i j (by omega) (by omega) (nm_r (zi_1 _) ⟨zv_in (pai (S l) (S m) i j) (by omega), ?_⟩))
    rw [zi_cl (by omega), hd _ q1.1 q1.2]
    refine zb_le (i % 2 + j % 2 + 1) _ (fun h3 => nm_r (zi_1 i) ?_) (fun h3 => ⟨zv_in (pai (S l) (S m) i j) (by omega), nm_e (nm_r (zi_1 i) ?_)⟩)
    · exact ih (i + 1) dg D (by omega) (by omega) (by omega) hd (dg_a hD ed h3)
    · exact ih (i + 1) _ _ (by omega) (by omega) (by omega) (da_u hd q1) (dg_b (by omega) hD ed h3)
theorem re_o {post : Int32 → SX → Prop} (P : XP a S) {l m : Int} (hl : 0 ≤ l ∧ l ≤ 5) (hm : 0 ≤ m ∧ m ≤ 5)
    (f : ∀ dg D, Dgt (S l) (S m) (fun _ _ => True) D → post (zI (enc D)) (c, rc, gc, lr, rk, a, cx, cy, re, st, dg)) :
    ∀ (N : Nat) (j : Int) (dg : Nat → Int32) (D : Int → Int), 0 ≤ j → j ≤ 25 → (25 - j).toNat < N → DA dg D → Dgt (S l) (S m) (fun _ j' => j' < j) D → wX_relate_39 post (zI l) (zI m) c rc gc lr rk N (zI j) a cx cy re st dg := by
  intro N
  induction N with
  | zero => intro i dg D h0 h1 h2; omega
  | succ N ih =>
    intro j dg D h0 h1 h2 hd hD
    refine zb_le 25 j (fun h => nm_e ⟨10, ho_9 (da_u (p := 8) (s := 3) hd (by omega)) rfl ?_⟩) (fun h => ⟨26, ?_⟩)
    · rw [en_8]
      exact f _ D (dg_c hD (fun i j gd => ⟨fun _ => trivial, fun _ => by omega⟩))
    · exact re_i P hl hm (by omega) (fun dg' D' hd' hD' => ih (j + 1) dg' D' (by omega) (by omega) (by omega) hd' hD') 26 0 dg D (by omega) (by omega) (by omega) hd (dg_c hD (fun i j gd => by omega))
theorem re_z {post : Int32 → SX → Prop} (P : XP a S) {l m : Int} (hl : 0 ≤ l ∧ l ≤ 5) (hm : 0 ≤ m ∧ m ≤ 5)
    (f : ∀ dg D, Dgt (S l) (S m) (fun _ _ => True) D → post (zI (enc D)) (c, rc, gc, lr, rk, a, cx, cy, re, st, dg)) :
    ∀ (N : Nat) (p : Int) (dg : Nat → Int32), 0 ≤ p → p ≤ 9 → (9 - p).toNat < N → (∀ q, 0 ≤ q → q < p → dg q.toNat = 0) → wX_relate_18 post (zI l) (zI m) c rc gc lr rk N (zI p) a cx cy re st dg := by
  intro N
  induction N with
  | zero => intro i dg h0 h1 h2; omega
  | succ N ih =>
    intro p dg h0 h1 h2 hd
    refine zb_le 9 p (fun h => ⟨26, ?_⟩) (fun h => ⟨zv_in p (by omega), nm_e (nm_r (zi_1 p) ?_)⟩)
    · refine re_o P hl hm f 26 0 dg (fun _ => 0) (by omega) (by omega) (by omega) (fun q q0 q8 => hd q q0 (by omega)) ⟨fun p _ _ => ⟨Int.le_refl _, (by decide : (0 : Int) ≤ 3)⟩, fun p _ _ => ⟨fun i j gd hh => absurd hh (by omega), Or.inl rfl⟩⟩
    · refine ih (p + 1) _ (by omega) (by omega) (by omega) (fun q q0 q1 => ?_)
      rw [zi_cl (by omega)]
      unfold upd
      by_cases e : q = p
      · rw [if_pos (by omega)]
      · rw [if_neg (by omega)]; exact hd q q0 (by omega)
end
section
variable {c : Int32} {ly fi ma se px py la : Nat → Int32} {S : Int → Int → Int → Bool}
theorem re_y {post : Int32 → Prop} (Q : YP ly S) (H : HS S) {l m : Int} (hl : 0 ≤ l ∧ l ≤ 5) (hm : 0 ≤ m ∧ m ≤ 5)
    (f : ∀ D, Dgt (S l) (S m) (fun _ _ => True) D → post (zI (enc D))) :
    ∀ (N : Nat) (n : Int) (D : Int → Int), 0 ≤ n → n ≤ 625 → (625 - n).toNat < N → Dgt (S l) (S m) (fun i' j' => 25 * i' + j' < n) D → wY_relate_24 post (zI l) (zI m) c ly fi ma se px py la N (zI (enc D)) (zI n) := by
  intro N
  induction N with
  | zero => intro n D h0 h1 h2; omega
  | succ N ih =>
    intro n D h0 h1 h2 hD
    refine zb_le 625 n (fun h => f D (dg_c hD (fun i j gd => ⟨fun _ => trivial, fun _ => by omega⟩))) (fun h => ?_)
    refine ⟨by decide, nm_r (zi_d25 (by omega)) ⟨by decide, nm_r (zi_r25 (by omega)) ⟨by decide, by decide, ?_⟩⟩⟩
    rw [zi_r2 (by omega), zi_r2 (by omega), zi_add]
    refine nm_r (zi_1 _) (yp_part Q H l _ _ hl (by omega) (by omega) (yp_part Q H m _ _ hm (by omega) (by omega) ?_))
    have q1 := pa_r (S l) (S m) (n / 25) (n % 25)
    have e3 : 2 * ((3 * zI (prt (S l) (n / 25) (n % 25))) + zI (prt (S m) (n / 25) (n % 25))) = zI (2 * pai (S l) (S m) (n / 25) (n % 25)) := by
      have e : 3 * zI (prt (S l) (n / 25) (n % 25)) = zI (3 * prt (S l) (n / 25) (n % 25)) := zi_mul 3 _
      rw [e, zi_add, zi_dbl]; rfl
    have r3 := hD.1 _ q1.1 q1.2
    have ed : ∀ i' j', Gd i' j' → ((25 * i' + j' < n + 1) ↔ (25 * i' + j' < n) ∨ (i' = n / 25 ∧ j' = n % 25)) := fun i' j' _ => by omega
    refine nm_r e3 (nm_r (en_get hD.1 q1) ?_)
    by_cases h8 : pai (S l) (S m) (n / 25) (n % 25) = 8
    · rw [if_pos h8]
      refine zb_le (n / 25 % 2 + n % 25 % 2 + 1) 3 (fun _ => nm_r (zi_1 n) ?_) (fun h => absurd h (by omega))
      by_cases h9 : n / 25 % 2 + n % 25 % 2 + 1 ≤ D (pai (S l) (S m) (n / 25) (n % 25))
      · exact ih (n + 1) D (by omega) (by omega) (by omega) (dg_a hD ed h9)
      · have := ih (n + 1) _ (by omega) (by omega) (by omega) (dg_b (by omega) hD ed (by omega))
        rw [h8, en_8] at this; exact this
    · rw [if_neg h8]
      refine zb_le (n / 25 % 2 + n % 25 % 2 + 1) _ (fun h9 => nm_r (zi_1 n) ?_) (fun h9 => nm_e (nm_r (zi_1 n) ?_))
      · exact ih (n + 1) D (by omega) (by omega) (by omega) (dg_a hD ed h9)
      · have := ih (n + 1) _ (by omega) (by omega) (by omega) (dg_b (by omega) hD ed h9)
        rw [zi_sub, zi_shl' (by omega) q1, zi_add]
        rw [en_put (by omega)] at this; exact this
end
theorem i_vc_relate {k : Nat} {u : SX} {v : SY} (I : i_Rel k u v) (hk : k + 5 ≤ 2560) (v1 : Int32) (v2 : Int32) : wpX_relate (fun r u' => wpY_relate (fun r' => r' = r ∧ i_Rel (k + 5) u' v) v v1 v2) u v1 v2 := by
  obtain ⟨c, rc, gc, lr, rk, a, cx, cy, re, st, dg⟩ := u
  obtain ⟨c', ly, fi, ma, se, px, py, la⟩ := v
  obtain ⟨S, n, X, Y, P, Q, C, T, rfl, rfl⟩ := I
  obtain ⟨l, hl, rfl⟩ := zi_ex v1
  obtain ⟨m, hm, rfl⟩ := zi_ex v2
  have R0 : i_Rel (k + 5) (zI n, rc, gc, lr, rk, a, cx, cy, re, st, dg) (zI n, ly, fi, ma, se, px, py, la) := i_mk P Q C T
  unfold wpX_relate
  refine xg_layer l hl (fun h1 => b1_f (xg_layer m hm (fun h2 => b1_f ?_) (fun h2 => b0_t ?_))) (fun h1 => b0_t ?_)
  · refine ⟨10, re_z P h1 h2 (fun dg' D hD => ?_) 10 0 dg (by omega) (by omega) (by omega) (fun q q0 q1 => absurd q1 (by omega))⟩
    unfold wpY_relate
    refine yg_layer l hl (fun _ => b1_f (yg_layer m hm (fun _ => b1_f ?_) (fun h => absurd h2 h))) (fun h => absurd h1 h)
    refine ⟨626, re_y Q P.2 h1 h2 (fun D' hD' => ⟨?_, i_mk P Q C T⟩) 626 0 (fun _ => 0) (by omega) (by omega) (by omega) ⟨fun p _ _ => ⟨Int.le_refl _, (by decide : (0 : Int) ≤ 3)⟩, fun p _ _ => ⟨fun i j gd hh => absurd hh (by omega), Or.inl rfl⟩⟩⟩
    unfold enc
    rw [dg_u hD' hD (p := 0) (by omega) (by omega), dg_u hD' hD (p := 1) (by omega) (by omega), dg_u hD' hD (p := 2) (by omega) (by omega), dg_u hD' hD (p := 3) (by omega) (by omega), dg_u hD' hD (p := 4) (by omega) (by omega), dg_u hD' hD (p := 5) (by omega) (by omega), dg_u hD' hD (p := 6) (by omega) (by omega), dg_u hD' hD (p := 7) (by omega) (by omega)]
  · unfold wpY_relate
    exact yg_layer l hl (fun _ => b1_f (yg_layer m hm (fun h => absurd h h2) (fun _ => b0_t ⟨rfl, R0⟩))) (fun h => absurd h1 h)
  · unfold wpY_relate
    exact yg_layer l hl (fun h => absurd h h1) (fun _ => b0_t ⟨rfl, R0⟩)
end
section
/-! draw -/
def rct (x1 y1 x2 y2 i j : Int) : Prop := ((2 * x1 ≤ i ∧ i ≤ 2 * x2) ∨ (2 * x2 ≤ i ∧ i ≤ 2 * x1)) ∧ ((2 * y1 ≤ j ∧ j ≤ 2 * y2) ∨ (2 * y2 ≤ j ∧ j ≤ 2 * y1))
def Mk (S : Int → Int → Int → Bool) (l : Int) (R : Int → Int → Prop) (S' : Int → Int → Int → Bool) : Prop :=
  (∀ s, s ≠ l → S' s = S s) ∧ ∀ i j, (S' l i j = true ↔ S l i j = true ∨ R i j)
theorem mk_0 {S : Int → Int → Int → Bool} {l : Int} {R : Int → Int → Prop} (h : ∀ i j, ¬ R i j) : Mk S l R S :=
  ⟨fun _ _ => rfl, fun i j => ⟨Or.inl, fun q => q.elim id (fun r => absurd r (h i j))⟩⟩
theorem mk_c {S S' : Int → Int → Int → Bool} {l : Int} {R R' : Int → Int → Prop} (m : Mk S l R S') (h : ∀ i j, R i j ↔ R' i j) : Mk S l R' S' :=
  ⟨m.1, fun i j => by rw [m.2 i j, h i j]⟩
theorem mk_w {S S' : Int → Int → Int → Bool} {l : Int} {R R' : Int → Int → Prop} {i0 j0 : Int} (m : Mk S l R S') (h : ∀ i j, R' i j ↔ R i j ∨ (i = i0 ∧ j = j0)) : Mk S l R' (sto S' l i0 j0 true) := by
  refine ⟨fun s hs => ?_, fun i j => ?_⟩
  · rw [← m.1 s hs]; funext i j; unfold sto; rw [if_neg (fun q => hs q.1)]
  · unfold sto
    by_cases q : l = l ∧ i = i0 ∧ j = j0
    · rw [if_pos q]; exact ⟨fun _ => Or.inr ((h i j).mpr (Or.inr q.2)), fun _ => rfl⟩
    · rw [if_neg q, m.2 i j, h i j]
      exact ⟨fun z => z.elim Or.inl (fun z => Or.inr (Or.inl z)), fun z => z.elim Or.inl (fun z => z.elim Or.inr (fun z => absurd ⟨rfl, z⟩ q))⟩
theorem mk_t {S S' S'' : Int → Int → Int → Bool} {l : Int} {R R' R'' : Int → Int → Prop} (m : Mk S l R S') (m' : Mk S' l R' S'') (h : ∀ i j, R'' i j ↔ R i j ∨ R' i j) : Mk S l R'' S'' := by
  refine ⟨fun s hs => (m'.1 s hs).trans (m.1 s hs), fun i j => ?_⟩
  rw [m'.2 i j, m.2 i j, h i j, or_assoc]
theorem mk_u {S S' S'' : Int → Int → Int → Bool} {l : Int} {R R' : Int → Int → Prop} (m : Mk S l R S') (m' : Mk S l R' S'') (h : ∀ i j, R i j ↔ R' i j) : S' = S'' := by
  funext s
  by_cases e : s = l
  · subst e
    funext i j
    have h1 := m.2 i j
    have h2 := m'.2 i j
    rw [h i j, ← h2] at h1
    cases e1 : S' s i j <;> cases e2 : S'' s i j
    · rfl
    · exact absurd (h1.mpr e2) (by rw [e1]; decide)
    · exact absurd (h1.mp e1) (by rw [e2]; decide)
    · rfl
  · rw [m.1 s e, m'.1 s e]
section
variable {c rc gc lr rk : Int32} {a cx cy re st dg : Nat → Int32} {S S' : Int → Int → Int → Bool}
theorem dx_i {post : SX → Prop} {J : Int32 → Int32 → Int32 → Int32 → Int32 → Int32 → (Nat → Int32) → (Nat → Int32) → (Nat → Int32) → (Nat → Int32) → (Nat → Int32) → (Nat → Int32) → Prop} {l p q y0 y1 j : Int} (hl : 0 ≤ l ∧ l ≤ 5) (hp : 0 ≤ p ∧ p ≤ q) (hq : q ≤ 12) (hy : 0 ≤ y0 ∧ y1 ≤ 12) (hj : 2 * y0 ≤ j ∧ j ≤ 2 * y1)
    (hJ : ∀ a' S', XP a' S' → Mk S l (fun i' j' => (2 * p ≤ i' ∧ i' ≤ 2 * q) ∧ 2 * y0 ≤ j' ∧ j' < j + 1) S' → J (zI (j + 1)) c rc gc lr rk a' cx cy re st dg) :
    ∀ (N : Nat) (i : Int) (a : Nat → Int32) (S' : Int → Int → Int → Bool), 2 * p ≤ i → i ≤ 2 * q + 1 → (2 * q + 1 - i).toNat < N → XP a S' → Mk S l (fun i' j' => (2 * p ≤ i' ∧ i' ≤ 2 * q) ∧ 2 * y0 ≤ j' ∧ (j' < j ∨ (j' = j ∧ i' < i))) S' → wX_addStep_125 post J (zI l) (zI p) (zI q) (zI y1) (zI j) N (zI i) c rc gc lr rk a cx cy re st dg := by
  intro N
  induction N with
  | zero => intro i a S' h0 h1 h2; omega
  | succ N ih =>
    intro i a S' h0 h1 h2 P m
    refine zb_lt (2 * q) i (fun h => nm_r (zi_1 j) (hJ a S' P (mk_c m (fun i j => by omega)))) (fun h => ?_) (zi_dbl q)
    refine xp_write P l i j true (by omega) (by omega) (fun a' P' => nm_r (zi_1 i) ?_)
    exact ih (i + 1) a' _ (by omega) (by omega) (by omega) P' (mk_w m (fun i' j' => by omega))
theorem dx_o {post : SX → Prop} {l p q y0 y1 : Int} (hl : 0 ≤ l ∧ l ≤ 5) (hp : 0 ≤ p ∧ p ≤ q) (hq : q ≤ 12) (hy : 0 ≤ y0 ∧ y0 ≤ y1 ∧ y1 ≤ 12)
    (f : ∀ a' S', XP a' S' → Mk S l (fun i' j' => (2 * p ≤ i' ∧ i' ≤ 2 * q) ∧ 2 * y0 ≤ j' ∧ j' ≤ 2 * y1) S' → post (c, rc, gc, lr, rk, a', cx, cy, re, st, dg)) :
    ∀ (N : Nat) (j : Int) (a : Nat → Int32) (S' : Int → Int → Int → Bool), 2 * y0 ≤ j → j ≤ 2 * y1 + 1 → (2 * y1 + 1 - j).toNat < N → XP a S' → Mk S l (fun i' j' => (2 * p ≤ i' ∧ i' ≤ 2 * q) ∧ 2 * y0 ≤ j' ∧ j' < j) S' → wX_addStep_110 post (zI l) (zI p) (zI q) (zI y1) N (zI j) c rc gc lr rk a cx cy re st dg := by
  intro N
  induction N with
  | zero => intro i a S' h0 h1 h2; omega
  | succ N ih =>
    intro j a S' h0 h1 h2 P m
    refine zb_lt (2 * y1) j (fun h => f a S' P (mk_c m (fun i j => by omega))) (fun h => nm_r (zi_dbl p) ⟨26, ?_⟩) (zi_dbl y1)
    exact dx_i hl hp hq ⟨hy.1, hy.2.2⟩ ⟨h0, by omega⟩ (fun a' S'' P' m' => ih (j + 1) a' S'' (by omega) (by omega) (by omega) P' m') 26 (2 * p) a S' (by omega) (by omega) (by omega) P (mk_c m (fun i j => by omega))
theorem dx_s {post : SX → Prop} (P : XP a S) {l p q x1 y1 x2 y2 : Int} (hl : 0 ≤ l ∧ l ≤ 5) (hp : 0 ≤ p ∧ p ≤ 23) (hq : 0 ≤ q ∧ q ≤ 23) (r1 : 0 ≤ x1 ∧ x1 ≤ 12) (r2 : 0 ≤ y1 ∧ y1 ≤ 12) (r3 : 0 ≤ x2 ∧ x2 ≤ 12) (r4 : 0 ≤ y2 ∧ y2 ≤ 12) (e1 : cx p.toNat = zI x1) (e2 : cy p.toNat = zI y1) (e3 : cx q.toNat = zI x2) (e4 : cy q.toNat = zI y2)
    (f : ∀ a' S', XP a' S' → Mk S l (rct x1 y1 x2 y2) S' → post (c, rc, gc, lr, rk, a', cx, cy, re, st, dg)) : wpX_addStep post (c, rc, gc, lr, rk, a, cx, cy, re, st, dg) (zI l) (zI p) (zI q) := by
  have v1 : vp_in (zI p) 24 := zv_in p (by omega)
  have v2 : vp_in (zI q) 24 := zv_in q (by omega)
  have c1 : (zI p).toNatClampNeg = p.toNat := zi_cl (by omega)
  have c2 : (zI q).toNatClampNeg = q.toNat := zi_cl (by omega)
  have k62 : ∀ lx ly : Int, lx = (if x1 < x2 then x1 else x2) → ly = (if y1 < y2 then y1 else y2) → wX_addStep_62 post (zI l) (zI p) (zI q) (zI lx) (zI ly) c rc gc lr rk a cx cy re st dg := by
    intro lx ly ex ey
    unfold wX_addStep_62
    rw [c1, c2, e1, e2, e3, e4]
    have hx : lx ≤ lx + ds x1 x2 ∧ lx + ds x1 x2 ≤ 12 ∧ 0 ≤ lx := by rw [ex]; unfold ds; split <;> omega
    have hy : ly ≤ ly + ds y1 y2 ∧ ly + ds y1 y2 ≤ 12 ∧ 0 ≤ ly := by rw [ey]; unfold ds; split <;> omega
    refine ⟨v1, v2, xp_gap x1 x2 (by omega) (by omega) (nm_r (zi_add _ _) ⟨v1, v2, xp_gap y1 y2 (by omega) (by omega) (nm_r (zi_add _ _) (nm_r (zi_dbl ly) ⟨26, ?_⟩))⟩)⟩
    refine dx_o (y0 := ly) hl (by omega) (by omega) (by omega) (fun a' S' P' m' => f a' S' P' (mk_c m' (fun i j => ?_))) 26 (2 * ly) a S (by omega) (by omega) (by omega) P (mk_0 (fun i j => by omega))
    unfold rct
    rw [ex, ey]
    unfold ds
    split <;> split <;> omega
  have k30 : ∀ lx : Int, lx = (if x1 < x2 then x1 else x2) → wX_addStep_30 post (zI l) (zI p) (zI q) (zI lx) c rc gc lr rk a cx cy re st dg := by
    intro lx ex
    unfold wX_addStep_30
    rw [c1, c2, e2, e4]
    refine ⟨v1, v2, zb_le y2 y1 (fun h => ⟨v2, k62 lx _ ex ?_⟩) (fun h => ⟨v1, k62 lx _ ex ?_⟩)⟩
    · rw [if_neg (by omega)]
    · rw [if_pos (by omega)]
  unfold wpX_addStep
  dsimp only
  rw [c1, c2, e1, e3]
  refine ⟨v1, v2, zb_le x2 x1 (fun h => ⟨v2, k30 _ ?_⟩) (fun h => ⟨v1, k30 _ ?_⟩)⟩
  · rw [if_neg (by omega)]
  · rw [if_pos (by omega)]
end
def nxt (n k : Int) : Int := if k + 1 < n then k + 1 else k
def onX (n : Int) (X Y : Int → Int) (m i j : Int) : Prop := ∃ k, 0 ≤ k ∧ k < m ∧ rct (X k) (Y k) (X (nxt n k)) (Y (nxt n k)) i j
def onY (X Y : Int → Int) (m i j : Int) : Prop := (i = 2 * X 0 ∧ j = 2 * Y 0) ∨ ∃ k, 0 ≤ k ∧ k < m ∧ rct (X k) (Y k) (X (k + 1)) (Y (k + 1)) i j
theorem on_s {n : Int} {X Y : Int → Int} {m i j : Int} (h : 0 ≤ m) : onX n X Y (m + 1) i j ↔ onX n X Y m i j ∨ rct (X m) (Y m) (X (nxt n m)) (Y (nxt n m)) i j := by
  constructor
  · rintro ⟨k, k0, k1, hr⟩
    by_cases e : k = m
    · subst e; exact Or.inr hr
    · exact Or.inl ⟨k, k0, by omega, hr⟩
  · rintro (⟨k, k0, k1, hr⟩ | hr)
    · exact ⟨k, k0, by omega, hr⟩
    · exact ⟨m, h, by omega, hr⟩
theorem on_e {n : Int} {X Y : Int → Int} {i j : Int} (hn : 1 ≤ n) : onX n X Y n i j ↔ onY X Y (n - 1) i j := by
  constructor
  · rintro ⟨k, k0, k1, hr⟩
    by_cases e : k + 1 < n
    · unfold nxt at hr; rw [if_pos e] at hr
      exact Or.inr ⟨k, k0, by omega, hr⟩
    · unfold nxt at hr; rw [if_neg e] at hr
      by_cases e2 : k = 0
      · subst e2
        left
        unfold rct at hr; omega
      · right
        refine ⟨k - 1, by omega, by omega, ?_⟩
        have e3 : k - 1 + 1 = k := by omega
        rw [e3]
        unfold rct at hr ⊢; omega
  · rintro (h | ⟨k, k0, k1, hr⟩)
    · refine ⟨0, by omega, by omega, ?_⟩
      unfold rct; omega
    · refine ⟨k, k0, by omega, ?_⟩
      unfold nxt; rw [if_pos (by omega)]; exact hr
section
variable {rc gc lr rk : Int32} {cx cy re st dg px py : Nat → Int32} {S : Int → Int → Int → Bool}
theorem dx_d {post : Int32 → SX → Prop} {l n : Int} {X Y : Int → Int} (hl : 0 ≤ l ∧ l ≤ 5) (T : Pth n X Y cx cy px py)
    (f : ∀ a' S', XP a' S' → Mk S l (onX n X Y n) S' → post 1 (zI n, rc, gc, lr, rk, a', cx, cy, re, st, dg)) :
    ∀ (N : Nat) (k : Int) (a : Nat → Int32) (S' : Int → Int → Int → Bool), 0 ≤ k → k ≤ n → (n - k).toNat < N → XP a S' → Mk S l (onX n X Y k) S' → wX_draw_18 post (zI l) N (zI k) (zI n) rc gc lr rk a cx cy re st dg := by
  have hn := T.1
  intro N
  induction N with
  | zero => intro i a S' h0 h1 h2; omega
  | succ N ih =>
    intro k a S' h0 h1 h2 P m
    refine zb_le n k (fun h => ?_) (fun h => ?_)
    · have e : k = n := by omega
      subst e; exact f a S' P m
    · have key : ∀ z : Int, z = nxt n k → wX_draw_43 post (wX_draw_18 post (zI l) N) (zI l) (zI k) (zI z) (zI n) rc gc lr rk a cx cy re st dg := by
        intro z ez
        have hz : 0 ≤ z ∧ z < n := by rw [ez]; unfold nxt; split <;> omega
        obtain ⟨b1, b2, b3, b4, -, -⟩ := T.2.1 k h0 h
        obtain ⟨d1, d2, d3, d4, -, -⟩ := T.2.1 z hz.1 hz.2
        unfold wX_draw_43
        refine dx_s P hl (by omega) (by omega) b1 b2 d1 d2 b3 b4 d3 d4 (fun a' S'' P' m' => nm_r (zi_1 k) ?_)
        refine ih (k + 1) a' S'' (by omega) (by omega) (by omega) P' (mk_t m m' (fun i j => ?_))
        rw [on_s h0, ez]
      refine zb_le n (k + 1) (fun h3 => key k ?_) (fun h3 => ?_) rfl (zi_1 k)
      · unfold nxt; rw [if_neg (by omega)]
      · rw [zi_1]
        refine key (k + 1) ?_
        unfold nxt; rw [if_pos (by omega)]
end
theorem bi_or (b b' : Bool) : bI b ||| bI b' = bI (b || b') := by cases b <;> cases b' <;> decide
section
variable {fi ma se px py la cx cy : Nat → Int32} {S : Int → Int → Int → Bool}
theorem yp_step {post : Int32 → Prop} {c : Int32} {ly : Nat → Int32} {i j k x1 y1 x2 y2 : Int} (hi : -10 ≤ i ∧ i ≤ 100) (hj : -10 ≤ j ∧ j ≤ 100) (hk : 0 ≤ k ∧ k ≤ 23) (r1 : 0 ≤ x1 ∧ x1 ≤ 12) (r2 : 0 ≤ y1 ∧ y1 ≤ 12) (r3 : 0 ≤ x2 ∧ x2 ≤ 12) (r4 : 0 ≤ y2 ∧ y2 ≤ 12) (e1 : px k.toNat = zI x1) (e2 : py k.toNat = zI y1) (e3 : px (k + 1).toNat = zI x2) (e4 : py (k + 1).toNat = zI y2)
    (f : rct x1 y1 x2 y2 i j → post 1) (g : ¬ rct x1 y1 x2 y2 i j → post 0) : wpY_onStep post (c, ly, fi, ma, se, px, py, la) (zI i) (zI j) (zI k) := by
  have v1 : vp_in (zI k) 25 := zv_in k (by omega)
  have v2 : vp_in (zI k + 1) 25 := zv_in (k + 1) (by omega) (zi_1 k)
  have c1 : (zI k).toNatClampNeg = k.toNat := zi_cl (by omega)
  have c2 : (zI k + 1).toNatClampNeg = (k + 1).toNat := zv_cl (k + 1) (zi_1 k)
  have s80 : (2 * x1 ≤ i ∧ i ≤ 2 * x2) ∨ (2 * x2 ≤ i ∧ i ≤ 2 * x1) → ¬ (2 * y1 ≤ j ∧ j ≤ 2 * y2) → wY_onStep_80 post (zI j) (zI (2 * y1)) (zI (2 * y2)) c ly fi ma se px py la := by
    intro hx hy
    refine zb_lt j (2 * y2) (fun h => g (by unfold rct; omega)) (fun h => zb_lt (2 * y1) j (fun h2 => g (by unfold rct; omega)) (fun h2 => f (by unfold rct; omega)))
  have s68 : (2 * x1 ≤ i ∧ i ≤ 2 * x2) ∨ (2 * x2 ≤ i ∧ i ≤ 2 * x1) → wY_onStep_68 post (zI j) (zI (2 * y1)) (zI (2 * y2)) c ly fi ma se px py la := by
    intro hx
    refine zb_lt j (2 * y1) (fun h => s80 hx (by omega)) (fun h => zb_le j (2 * y2) (fun h2 => f (by unfold rct; omega)) (fun h2 => s80 hx (by omega)))
  have s56 : ¬ (2 * x1 ≤ i ∧ i ≤ 2 * x2) → wY_onStep_56 post (zI i) (zI j) (zI (2 * x1)) (zI (2 * x2)) (zI (2 * y1)) (zI (2 * y2)) c ly fi ma se px py la := by
    intro hx
    refine zb_lt i (2 * x2) (fun h => g (by unfold rct; omega)) (fun h => zb_lt (2 * x1) i (fun h2 => g (by unfold rct; omega)) (fun h2 => s68 (by omega)))
  unfold wpY_onStep
  dsimp only
  rw [c1, c2, e1, e2, e3, e4]
  refine ⟨v1, nm_r (zi_dbl x1) ⟨v2, nm_r (zi_dbl x2) ⟨v1, nm_r (zi_dbl y1) ⟨v2, nm_r (zi_dbl y2) ?_⟩⟩⟩⟩
  exact zb_lt i (2 * x1) (fun h => s56 (by omega)) (fun h => zb_le i (2 * x2) (fun h2 => s68 (by omega)) (fun h2 => s56 (by omega)))
theorem dy_i {post : Int32 → SY → Prop} {J : Int32 → (Nat → Int32) → (Nat → Int32) → (Nat → Int32) → (Nat → Int32) → (Nat → Int32) → (Nat → Int32) → (Nat → Int32) → Prop} {ly : Nat → Int32} {l n q : Int} {X Y : Int → Int} (hl : 0 ≤ l ∧ l ≤ 5) (T : Pth n X Y cx cy px py) (hn : 1 ≤ n) (hq : 0 ≤ q ∧ q ≤ 624)
    (hJ : onY X Y (n - 1) (q / 25) (q % 25) → J (zI (q + 1)) (upd ly (625 * l + q).toNat (bI true)) fi ma se px py la) (hJ' : ¬ onY X Y (n - 1) (q / 25) (q % 25) → J (zI (q + 1)) ly fi ma se px py la) :
    ∀ (N : Nat) (k : Int) (b : Bool), 0 ≤ k → k + 1 ≤ n → (n - k).toNat < N → (b = true ↔ onY X Y k (q / 25) (q % 25)) → wY_draw_72 post J (zI l) (zI q) (zI (q / 25)) (zI (q % 25)) (zI n) ly fi ma se px py la N (bI b) (zI k) := by
  have hn4 := T.1
  intro N
  induction N with
  | zero => intro i a S' h0 h1; omega
  | succ N ih =>
    intro k b h0 h1 h2 hb
    refine zb_le n (k + 1) (fun h => ?_) (fun h => ?_) rfl (zi_1 k)
    · have e : k = n - 1 := by omega
      subst e
      refine bb_0 (fun e => nm_r (zi_1 q) (hJ' (fun hh => ?_))) (fun e => ?_)
      · rw [e] at hb; exact absurd (hb.mpr hh) (by decide)
      · have e1 := zi_in2 l q
        refine ⟨zv_in (625 * l + q) (by omega) e1, nm_e (nm_r (zi_1 q) ?_)⟩
        rw [zv_cl _ e1]
        exact hJ (hb.mp e)
    · obtain ⟨b1, b2, -, -, b3, b4⟩ := T.2.1 k h0 (by omega)
      obtain ⟨d1, d2, -, -, d3, d4⟩ := T.2.1 (k + 1) (by omega) (by omega)
      refine yp_step (by omega) (by omega) (by omega) b1 b2 d1 d2 b3 b4 d3 d4 (fun hr => nm_r (bi_or b true) (nm_r (zi_1 k) (ih (k + 1) _ (by omega) (by omega) (by omega) ?_))) (fun hr => nm_r (bi_or b false) (nm_r (zi_1 k) (ih (k + 1) _ (by omega) (by omega) (by omega) ?_)))
      · refine ⟨fun _ => Or.inr ⟨k, h0, by omega, hr⟩, fun _ => by simp⟩
      · have e : (b || false) = b := by simp
        rw [e, hb]
        constructor
        · rintro (h | ⟨k', h3, h4, h5⟩)
          · exact Or.inl h
          · exact Or.inr ⟨k', h3, by omega, h5⟩
        · rintro (h | ⟨k', h3, h4, h5⟩)
          · exact Or.inl h
          · by_cases e : k' = k
            · subst e; exact absurd h5 hr
            · exact Or.inr ⟨k', h3, by omega, h5⟩
theorem dy_o {post : Int32 → SY → Prop} {l n : Int} {X Y : Int → Int} (hl : 0 ≤ l ∧ l ≤ 5) (T : Pth n X Y cx cy px py) (hn : 1 ≤ n)
    (f : ∀ ly' S', YP ly' S' → Mk S l (fun i j => Gd i j ∧ onY X Y (n - 1) i j) S' → post 1 (zI n, ly', fi, ma, se, px, py, la)) :
    ∀ (N : Nat) (q : Int) (ly : Nat → Int32) (S' : Int → Int → Int → Bool), 0 ≤ q → q ≤ 625 → (625 - q).toNat < N → YP ly S' → Mk S l (fun i j => 25 * i + j < q ∧ Gd i j ∧ onY X Y (n - 1) i j) S' → wY_draw_19 post (zI l) (zI n) N (zI q) ly fi ma se px py la := by
  have hn4 := T.1
  obtain ⟨b1, b2, -, -, b3, b4⟩ := T.2.1 0 (by omega) (by omega)
  intro N
  induction N with
  | zero => intro i a S' h0 h1; omega
  | succ N ih =>
    intro q ly S' h0 h1 h2 Q m
    refine zb_le 625 q (fun h => f ly S' Q (mk_c m (fun i j => ⟨fun z => z.2, fun z => ⟨by omega, z⟩⟩))) (fun h => ?_)
    refine ⟨by decide, nm_r (zi_d25 (by omega)) ⟨by decide, nm_r (zi_r25 (by omega)) ?_⟩⟩
    have gq : Gd (q / 25) (q % 25) := by omega
    have ei : 625 * l + q = 625 * l + 25 * (q / 25) + q % 25 := by omega
    have go : ∀ b : Bool, (b = true ↔ onY X Y 0 (q / 25) (q % 25)) → ∃ n72 : Nat, wY_draw_72 post (wY_draw_19 post (zI l) (zI n) N) (zI l) (zI q) (zI (q / 25)) (zI (q % 25)) (zI n) ly fi ma se px py la n72 (bI b) 0 := by
      intro b hb
      refine ⟨26, dy_i hl T hn (by omega) (fun hh => ?_) (fun hh => ?_) 26 0 b (by omega) (by omega) (by omega) hb⟩
      · rw [ei]
        refine ih (q + 1) _ _ (by omega) (by omega) (by omega) (yp_sto Q hl gq) (mk_w m (fun i j => ?_))
        constructor
        · rintro ⟨z1, z2, z3⟩
          by_cases e : 25 * i + j < q
          · exact Or.inl ⟨e, z2, z3⟩
          · exact Or.inr (by omega)
        · rintro (⟨z1, z2, z3⟩ | ⟨rfl, rfl⟩)
          · exact ⟨by omega, z2, z3⟩
          · exact ⟨by omega, gq, hh⟩
      · refine ih (q + 1) _ _ (by omega) (by omega) (by omega) Q (mk_c m (fun i j => ?_))
        constructor
        · rintro ⟨z1, z2, z3⟩
          exact ⟨by omega, z2, z3⟩
        · rintro ⟨z1, z2, z3⟩
          by_cases e : 25 * i + j < q
          · exact ⟨e, z2, z3⟩
          · have e1 : i = q / 25 := by omega
            have e2 : j = q % 25 := by omega
            rw [e1, e2] at z3; exact absurd z3 hh
    have b3' : px 0 = zI (X 0) := b3
    have b4' : py 0 = zI (Y 0) := b4
    rw [b3', b4', zi_dbl, zi_dbl]
    refine zb_eq (q / 25) (2 * X 0) (fun e1 => zb_eq (q % 25) (2 * Y 0) (fun e2 => go true ?_) (fun e2 => go false ?_)) (fun e1 => go false ?_)
    · exact ⟨fun _ => Or.inl ⟨e1, e2⟩, fun _ => rfl⟩
    · exact ⟨fun z => (nomatch z), fun z => by rcases z with z | ⟨k, k0, k1, _⟩ <;> omega⟩
    · exact ⟨fun z => (nomatch z), fun z => by rcases z with z | ⟨k, k0, k1, _⟩ <;> omega⟩
end
theorem mk_clo {S S' : Int → Int → Int → Bool} {l : Int} {R : Int → Int → Prop} (C : CL S) (m : Mk S l R S') (h : ∀ i j, R i j → (i % 2 = 1 → R (i - 1) j ∧ R (i + 1) j) ∧ (j % 2 = 1 → R i (j - 1) ∧ R i (j + 1))) : CL S' := by
  intro s s0 s5
  by_cases e : s = l
  · subst e
    intro i j hh
    rcases (m.2 i j).mp hh with h1 | h1
    · have := C s s0 s5 i j h1
      exact ⟨fun o => ⟨(m.2 _ _).mpr (Or.inl (this.1 o).1), (m.2 _ _).mpr (Or.inl (this.1 o).2)⟩, fun o => ⟨(m.2 _ _).mpr (Or.inl (this.2 o).1), (m.2 _ _).mpr (Or.inl (this.2 o).2)⟩⟩
    · have := h i j h1
      exact ⟨fun o => ⟨(m.2 _ _).mpr (Or.inr (this.1 o).1), (m.2 _ _).mpr (Or.inr (this.1 o).2)⟩, fun o => ⟨(m.2 _ _).mpr (Or.inr (this.2 o).1), (m.2 _ _).mpr (Or.inr (this.2 o).2)⟩⟩
  · rw [m.1 s e]; exact C s s0 s5
theorem i_vc_draw {k : Nat} {u : SX} {v : SY} (I : i_Rel k u v) (hk : k + 5 ≤ 2560) (v1 : Int32) : wpX_draw (fun r u' => wpY_draw (fun r' v' => r' = r ∧ i_Rel (k + 5) u' v') v v1) u v1 := by
  obtain ⟨c, rc, gc, lr, rk, a, cx, cy, re, st, dg⟩ := u
  obtain ⟨c', ly, fi, ma, se, px, py, la⟩ := v
  obtain ⟨S, n, X, Y, P, Q, C, T, rfl, rfl⟩ := I
  obtain ⟨l, hl, rfl⟩ := zi_ex v1
  have hn := T.1
  have R0 : i_Rel (k + 5) (zI n, rc, gc, lr, rk, a, cx, cy, re, st, dg) (zI n, ly, fi, ma, se, px, py, la) := i_mk P Q C T
  unfold wpX_draw
  refine xg_layer l hl (fun h1 => b1_f (zb_eq n 0 (fun h2 => ?_) (fun h2 => ?_))) (fun h1 => b0_t ?_)
  · unfold wpY_draw
    exact yg_layer l hl (fun _ => b1_f (zb_eq n 0 (fun _ => ⟨rfl, R0⟩) (fun h => absurd h2 h))) (fun h => absurd h1 h)
  · refine ⟨26, dx_d h1 T (fun a' S' P' m' => ?_) 26 0 a S (by omega) (by omega) (by omega) P (mk_0 (fun i j => fun ⟨k, k0, k1, _⟩ => by omega))⟩
    unfold wpY_draw
    refine yg_layer l hl (fun _ => b1_f (zb_eq n 0 (fun h => absurd h h2) (fun _ => ?_))) (fun h => absurd h1 h)
    refine ⟨626, dy_o h1 T (by omega) (fun ly' S'' Q' m'' => ⟨rfl, ?_⟩) 626 0 ly S (by omega) (by omega) (by omega) Q (mk_0 (fun i j z => by omega))⟩
    have rr : ∀ i j, onX n X Y n i j → Gd i j := by
      rintro i j ⟨q, q0, q1, hr⟩
      obtain ⟨d1, d2, -⟩ := T.2.1 q q0 q1
      obtain ⟨d3, d4, -⟩ := T.2.1 (nxt n q) (by unfold nxt; split <;> omega) (by unfold nxt; split <;> omega)
      unfold rct at hr; omega
    have e : S' = S'' := mk_u m' m'' (fun i j => ⟨fun z => ⟨rr i j z, (on_e (by omega)).mp z⟩, fun z => (on_e (by omega)).mpr z.2⟩)
    subst e
    refine i_mk P' Q' (mk_clo C m' (fun i j => ?_)) T
    rintro ⟨q, q0, q1, hr⟩
    unfold rct at hr
    refine ⟨fun o => ⟨⟨q, q0, q1, ?_⟩, ⟨q, q0, q1, ?_⟩⟩, fun o => ⟨⟨q, q0, q1, ?_⟩, ⟨q, q0, q1, ?_⟩⟩⟩ <;> (unfold rct; omega)
  · unfold wpY_draw
    exact yg_layer l hl (fun h => absurd h h1) (fun _ => b0_t ⟨rfl, R0⟩)
end
section
/-! closure -/
def clI (g : Int → Int → Bool) : Int → Int → Bool := fun i j => g i j || (decide (i % 2 = 0) && (g (i - 1) j || g (i + 1) j))
def clJ (g : Int → Int → Bool) : Int → Int → Bool := fun i j => g i j || (decide (j % 2 = 0) && (g i (j - 1) || g i (j + 1)))
def clos (g : Int → Int → Bool) : Int → Int → Bool := clJ (clI g)
def Sup (g : Int → Int → Bool) : Prop := ∀ i j, g i j = true → Gd i j
def setl (S : Int → Int → Int → Bool) (s : Int) (F : Int → Int → Bool) : Int → Int → Int → Bool := fun s' => if s' = s then F else S s'
theorem cI_i (g : Int → Int → Bool) (i j : Int) : clI g i j = true ↔ g i j = true ∨ (i % 2 = 0 ∧ (g (i - 1) j = true ∨ g (i + 1) j = true)) := by
  unfold clI; simp only [Bool.or_eq_true, Bool.and_eq_true, decide_eq_true_eq]
theorem cJ_i (g : Int → Int → Bool) (i j : Int) : clJ g i j = true ↔ g i j = true ∨ (j % 2 = 0 ∧ (g i (j - 1) = true ∨ g i (j + 1) = true)) := by
  unfold clJ; simp only [Bool.or_eq_true, Bool.and_eq_true, decide_eq_true_eq]
theorem be {x y : Bool} (h : x = true ↔ y = true) : x = y := by
  cases x <;> cases y
  · rfl
  · exact absurd (h.mpr rfl) (by decide)
  · exact absurd (h.mp rfl) (by decide)
  · rfl
theorem mk_set {S S' : Int → Int → Int → Bool} {s : Int} {R : Int → Int → Prop} {F : Int → Int → Bool} (m : Mk S s R S') (h : ∀ i j, F i j = true ↔ S s i j = true ∨ R i j) : S' = setl S s F := by
  funext s'
  unfold setl
  by_cases e : s' = s
  · rw [if_pos e, e]
    funext i j
    exact be ((m.2 i j).trans (h i j).symm)
  · rw [if_neg e]; exact m.1 s' e
theorem cI_s {g : Int → Int → Bool} (H : Sup g) : Sup (clI g) := by
  intro i j h
  rcases (cI_i g i j).mp h with h | ⟨h0, h | h⟩
  · exact H i j h
  · have := H _ _ h; omega
  · have := H _ _ h; omega
theorem cJ_s {g : Int → Int → Bool} (H : Sup g) : Sup (clJ g) := by
  intro i j h
  rcases (cJ_i g i j).mp h with h | ⟨h0, h | h⟩
  · exact H i j h
  · have := H _ _ h; omega
  · have := H _ _ h; omega
theorem cl_clo (g : Int → Int → Bool) : clo (clos g) := by
  intro i j h
  refine ⟨fun o => ?_, fun o => ?_⟩
  · have key : ∀ i', (i' = i - 1 ∨ i' = i + 1) → clos g i' j = true := by
      intro i' hi
      have lift : ∀ j', clI g i j' = true → clI g i' j' = true := by
        intro j' h'
        rcases (cI_i g i j').mp h' with q | q
        · refine (cI_i g i' j').mpr (Or.inr ⟨by omega, ?_⟩)
          rcases hi with e | e
          · right; rw [e]; have : i - 1 + 1 = i := by omega
            rw [this]; exact q
          · left; rw [e]; have : i + 1 - 1 = i := by omega
            rw [this]; exact q
        · omega
      rcases (cJ_i _ i j).mp h with q | ⟨q0, q | q⟩
      · exact (cJ_i _ _ _).mpr (Or.inl (lift _ q))
      · exact (cJ_i _ _ _).mpr (Or.inr ⟨q0, Or.inl (lift _ q)⟩)
      · exact (cJ_i _ _ _).mpr (Or.inr ⟨q0, Or.inr (lift _ q)⟩)
    exact ⟨key _ (Or.inl rfl), key _ (Or.inr rfl)⟩
  · rcases (cJ_i _ i j).mp h with q | ⟨q0, q⟩
    · refine ⟨(cJ_i _ _ _).mpr (Or.inr ⟨by omega, Or.inr ?_⟩), (cJ_i _ _ _).mpr (Or.inr ⟨by omega, Or.inl ?_⟩)⟩
      · have : j - 1 + 1 = j := by omega
        rw [this]; exact q
      · have : j + 1 - 1 = j := by omega
        rw [this]; exact q
    · omega
def RI (g : Int → Int → Bool) (i j i' j' : Int) : Prop := i' % 2 = 0 ∧ ((g (i' - 1) j' = true ∧ (j' < j ∨ (j' = j ∧ i' - 1 < i))) ∨ (g (i' + 1) j' = true ∧ (j' < j ∨ (j' = j ∧ i' + 1 < i))))
def RJ (g : Int → Int → Bool) (i j i' j' : Int) : Prop := j' % 2 = 0 ∧ ((g i' (j' - 1) = true ∧ (j' - 1 < j ∨ (j' - 1 = j ∧ i' < i))) ∨ (g i' (j' + 1) = true ∧ (j' + 1 < j ∨ (j' + 1 = j ∧ i' < i))))
theorem rI_0 {g : Int → Int → Bool} (H : Sup g) (i' j' : Int) : ¬ RI g 1 0 i' j' := by
  rintro ⟨h0, ⟨h1, h2⟩ | ⟨h1, h2⟩⟩
  · have := H _ _ h1; omega
  · have := H _ _ h1; omega
theorem rI_r {g : Int → Int → Bool} (H : Sup g) (j i' j' : Int) : RI g 25 j i' j' ↔ RI g 1 (j + 1) i' j' := by
  constructor
  · rintro ⟨h0, ⟨h1, h2⟩ | ⟨h1, h2⟩⟩
    · exact ⟨h0, Or.inl ⟨h1, by omega⟩⟩
    · exact ⟨h0, Or.inr ⟨h1, by omega⟩⟩
  · rintro ⟨h0, ⟨h1, h2⟩ | ⟨h1, h2⟩⟩
    · have := H _ _ h1; exact ⟨h0, Or.inl ⟨h1, by omega⟩⟩
    · have := H _ _ h1; exact ⟨h0, Or.inr ⟨h1, by omega⟩⟩
theorem rI_f {g : Int → Int → Bool} {i j : Int} (hi : i % 2 = 1) (h : g i j = false) (i' j' : Int) : RI g i j i' j' ↔ RI g (i + 2) j i' j' := by
  constructor
  · rintro ⟨h0, ⟨h1, h2⟩ | ⟨h1, h2⟩⟩
    · exact ⟨h0, Or.inl ⟨h1, by omega⟩⟩
    · exact ⟨h0, Or.inr ⟨h1, by omega⟩⟩
  · rintro ⟨h0, ⟨h1, h2⟩ | ⟨h1, h2⟩⟩
    · have : ¬ (i' - 1 = i ∧ j' = j) := by rintro ⟨e1, e2⟩; rw [e1, e2, h] at h1; exact absurd h1 (by decide)
      exact ⟨h0, Or.inl ⟨h1, by omega⟩⟩
    · have : ¬ (i' + 1 = i ∧ j' = j) := by rintro ⟨e1, e2⟩; rw [e1, e2, h] at h1; exact absurd h1 (by decide)
      exact ⟨h0, Or.inr ⟨h1, by omega⟩⟩
theorem rI_t {g : Int → Int → Bool} {i j : Int} (hi : i % 2 = 1) (h : g i j = true) (i' j' : Int) : RI g (i + 2) j i' j' ↔ (RI g i j i' j' ∨ (i' = i - 1 ∧ j' = j)) ∨ (i' = i + 1 ∧ j' = j) := by
  constructor
  · rintro ⟨h0, ⟨h1, h2⟩ | ⟨h1, h2⟩⟩
    · by_cases e : i' = i + 1 ∧ j' = j
      · exact Or.inr e
      · exact Or.inl (Or.inl ⟨h0, Or.inl ⟨h1, by omega⟩⟩)
    · by_cases e : i' = i - 1 ∧ j' = j
      · exact Or.inl (Or.inr e)
      · exact Or.inl (Or.inl ⟨h0, Or.inr ⟨h1, by omega⟩⟩)
  · rintro ((⟨h0, ⟨h1, h2⟩ | ⟨h1, h2⟩⟩ | ⟨e1, e2⟩) | ⟨e1, e2⟩)
    · exact ⟨h0, Or.inl ⟨h1, by omega⟩⟩
    · exact ⟨h0, Or.inr ⟨h1, by omega⟩⟩
    · refine ⟨by omega, Or.inr ⟨?_, by omega⟩⟩
      have : i' + 1 = i := by omega
      rw [this, e2]; exact h
    · refine ⟨by omega, Or.inl ⟨?_, by omega⟩⟩
      have : i' - 1 = i := by omega
      rw [this, e2]; exact h
theorem rJ_0 {g : Int → Int → Bool} (H : Sup g) (i' j' : Int) : ¬ RJ g 0 1 i' j' := by
  rintro ⟨h0, ⟨h1, h2⟩ | ⟨h1, h2⟩⟩
  · have := H _ _ h1; omega
  · have := H _ _ h1; omega
theorem rJ_r {g : Int → Int → Bool} (H : Sup g) {j : Int} (hj : j % 2 = 1) (i' j' : Int) : RJ g 25 j i' j' ↔ RJ g 0 (j + 2) i' j' := by
  constructor
  · rintro ⟨h0, ⟨h1, h2⟩ | ⟨h1, h2⟩⟩
    · exact ⟨h0, Or.inl ⟨h1, by omega⟩⟩
    · exact ⟨h0, Or.inr ⟨h1, by omega⟩⟩
  · rintro ⟨h0, ⟨h1, h2⟩ | ⟨h1, h2⟩⟩
    · have := H _ _ h1; exact ⟨h0, Or.inl ⟨h1, by omega⟩⟩
    · have := H _ _ h1; exact ⟨h0, Or.inr ⟨h1, by omega⟩⟩
theorem rJ_f {g : Int → Int → Bool} {i j : Int} (hj : j % 2 = 1) (h : g i j = false) (i' j' : Int) : RJ g i j i' j' ↔ RJ g (i + 1) j i' j' := by
  constructor
  · rintro ⟨h0, ⟨h1, h2⟩ | ⟨h1, h2⟩⟩
    · exact ⟨h0, Or.inl ⟨h1, by omega⟩⟩
    · exact ⟨h0, Or.inr ⟨h1, by omega⟩⟩
  · rintro ⟨h0, ⟨h1, h2⟩ | ⟨h1, h2⟩⟩
    · have : ¬ (i' = i ∧ j' - 1 = j) := by rintro ⟨e1, e2⟩; rw [e1, e2, h] at h1; exact absurd h1 (by decide)
      exact ⟨h0, Or.inl ⟨h1, by omega⟩⟩
    · have : ¬ (i' = i ∧ j' + 1 = j) := by rintro ⟨e1, e2⟩; rw [e1, e2, h] at h1; exact absurd h1 (by decide)
      exact ⟨h0, Or.inr ⟨h1, by omega⟩⟩
theorem rJ_t {g : Int → Int → Bool} {i j : Int} (hj : j % 2 = 1) (h : g i j = true) (i' j' : Int) : RJ g (i + 1) j i' j' ↔ (RJ g i j i' j' ∨ (i' = i ∧ j' = j - 1)) ∨ (i' = i ∧ j' = j + 1) := by
  constructor
  · rintro ⟨h0, ⟨h1, h2⟩ | ⟨h1, h2⟩⟩
    · by_cases e : i' = i ∧ j' = j + 1
      · exact Or.inr e
      · exact Or.inl (Or.inl ⟨h0, Or.inl ⟨h1, by omega⟩⟩)
    · by_cases e : i' = i ∧ j' = j - 1
      · exact Or.inl (Or.inr e)
      · exact Or.inl (Or.inl ⟨h0, Or.inr ⟨h1, by omega⟩⟩)
  · rintro ((⟨h0, ⟨h1, h2⟩ | ⟨h1, h2⟩⟩ | ⟨e1, e2⟩) | ⟨e1, e2⟩)
    · exact ⟨h0, Or.inl ⟨h1, by omega⟩⟩
    · exact ⟨h0, Or.inr ⟨h1, by omega⟩⟩
    · refine ⟨by omega, Or.inr ⟨?_, by omega⟩⟩
      have : j' + 1 = j := by omega
      rw [this, e1]; exact h
    · refine ⟨by omega, Or.inl ⟨?_, by omega⟩⟩
      have : j' - 1 = j := by omega
      rw [this, e1]; exact h
section
variable {c rc gc lr rk : Int32} {cx cy re st dg : Nat → Int32} {S : Int → Int → Int → Bool}
theorem xk_i1 {post : SX → Prop} {J : Int32 → Int32 → Int32 → Int32 → Int32 → Int32 → (Nat → Int32) → (Nat → Int32) → (Nat → Int32) → (Nat → Int32) → (Nat → Int32) → (Nat → Int32) → Prop} {s j : Int} (hs : 0 ≤ s ∧ s ≤ 6) (hj : 0 ≤ j ∧ j ≤ 24)
    (hJ : ∀ a' S', XP a' S' → Mk S s (RI (S s) 25 j) S' → J (zI (j + 1)) c rc gc lr rk a' cx cy re st dg) :
    ∀ (N : Nat) (i : Int) (a : Nat → Int32) (S' : Int → Int → Int → Bool), i % 2 = 1 → 1 ≤ i → i ≤ 25 → (25 - i).toNat < N → XP a S' → Mk S s (RI (S s) i j) S' → wX_close_10 post J (zI s) (zI j) N (zI i) c rc gc lr rk a cx cy re st dg := by
  intro N
  induction N with
  | zero => intro i a S' h0 h1 h2; omega
  | succ N ih =>
    intro i a S' h0 h1 h2 h3 P m
    refine zb_le 25 i (fun h => ?_) (fun h => ?_)
    · have e : i = 25 := by omega
      subst e; exact nm_r (zi_1 j) (hJ a S' P m)
    · have er : S' s i j = S s i j := be (by
        rw [m.2 i j]; exact ⟨fun z => z.elim id (fun z => absurd z.1 (by omega)), Or.inl⟩)
      refine xp_has P s i j hs (by omega) (by omega) ?_
      rw [er]
      refine bb_0 (fun e => nm_r (zi_2 i) ?_) (fun e => ?_)
      · exact ih (i + 2) a S' (by omega) (by omega) (by omega) (by omega) P (mk_c m (rI_f h0 e))
      · rw [zi_s1]
        refine xp_write P s (i - 1) j true hs (by omega) (fun a1 P1 => ?_)
        rw [zi_1]
        refine xp_write P1 s (i + 1) j true hs (by omega) (fun a2 P2 => nm_r (zi_2 i) ?_)
        exact ih (i + 2) a2 _ (by omega) (by omega) (by omega) (by omega) P2 (mk_w (mk_w m (fun _ _ => Iff.rfl)) (rI_t h0 e))
theorem xk_i2 {post : SX → Prop} {J : Int32 → Int32 → Int32 → Int32 → Int32 → Int32 → (Nat → Int32) → (Nat → Int32) → (Nat → Int32) → (Nat → Int32) → (Nat → Int32) → (Nat → Int32) → Prop} {s j : Int} (hs : 0 ≤ s ∧ s ≤ 6) (hj : 1 ≤ j ∧ j ≤ 23) (oj : j % 2 = 1)
    (hJ : ∀ a' S', XP a' S' → Mk S s (RJ (S s) 25 j) S' → J (zI (j + 2)) c rc gc lr rk a' cx cy re st dg) :
    ∀ (N : Nat) (i : Int) (a : Nat → Int32) (S' : Int → Int → Int → Bool), 0 ≤ i → i ≤ 25 → (25 - i).toNat < N → XP a S' → Mk S s (RJ (S s) i j) S' → wX_close_68 post J (zI s) (zI j) N (zI i) c rc gc lr rk a cx cy re st dg := by
  intro N
  induction N with
  | zero => intro i a S' h0 h1 h2; omega
  | succ N ih =>
    intro i a S' h1 h2 h3 P m
    refine zb_le 25 i (fun h => ?_) (fun h => ?_)
    · have e : i = 25 := by omega
      subst e; exact nm_r (zi_2 j) (hJ a S' P m)
    · have er : S' s i j = S s i j := be (by
        rw [m.2 i j]; exact ⟨fun z => z.elim id (fun z => absurd z.1 (by omega)), Or.inl⟩)
      refine xp_has P s i j hs (by omega) (by omega) ?_
      rw [er]
      refine bb_0 (fun e => nm_r (zi_1 i) ?_) (fun e => ?_)
      · exact ih (i + 1) a S' (by omega) (by omega) (by omega) P (mk_c m (rJ_f oj e))
      · rw [zi_s1]
        refine xp_write P s i (j - 1) true hs (by omega) (fun a1 P1 => ?_)
        rw [zi_1 j]
        refine xp_write P1 s i (j + 1) true hs (by omega) (fun a2 P2 => nm_r (zi_1 i) ?_)
        exact ih (i + 1) a2 _ (by omega) (by omega) (by omega) P2 (mk_w (mk_w m (fun _ _ => Iff.rfl)) (rJ_t oj e))
theorem xk_o2 {post : SX → Prop} {s : Int} (hs : 0 ≤ s ∧ s ≤ 6) (H : Sup (S s))
    (f : ∀ a' S', XP a' S' → Mk S s (RJ (S s) 0 25) S' → post (c, rc, gc, lr, rk, a', cx, cy, re, st, dg)) :
    ∀ (N : Nat) (j : Int) (a : Nat → Int32) (S' : Int → Int → Int → Bool), j % 2 = 1 → 1 ≤ j → j ≤ 25 → (25 - j).toNat < N → XP a S' → Mk S s (RJ (S s) 0 j) S' → wX_close_60 post (zI s) N (zI j) c rc gc lr rk a cx cy re st dg := by
  intro N
  induction N with
  | zero => intro i a S' h0 h1 h2; omega
  | succ N ih =>
    intro j a S' h0 h1 h2 h3 P m
    refine zb_le 25 j (fun h => ?_) (fun h => ⟨26, ?_⟩)
    · have e : j = 25 := by omega
      subst e; exact f a S' P m
    · exact xk_i2 hs (by omega) h0 (fun a' S'' P' m' => ih (j + 2) a' S'' (by omega) (by omega) (by omega) (by omega) P' (mk_c m' (rJ_r H h0))) 26 0 a S' (by omega) (by omega) (by omega) P m
theorem xk_o1 {post : SX → Prop} {s : Int} (hs : 0 ≤ s ∧ s ≤ 6) (H : Sup (S s))
    (f : ∀ a' S', XP a' S' → Mk S s (RI (S s) 1 25) S' → ∃ n60 : Nat, wX_close_60 post (zI s) n60 1 c rc gc lr rk a' cx cy re st dg) :
    ∀ (N : Nat) (j : Int) (a : Nat → Int32) (S' : Int → Int → Int → Bool), 0 ≤ j → j ≤ 25 → (25 - j).toNat < N → XP a S' → Mk S s (RI (S s) 1 j) S' → wX_close_2 post (zI s) N (zI j) c rc gc lr rk a cx cy re st dg := by
  intro N
  induction N with
  | zero => intro i a S' h0 h1 h2; omega
  | succ N ih =>
    intro j a S' h1 h2 h3 P m
    refine zb_le 25 j (fun h => ?_) (fun h => ⟨26, ?_⟩)
    · have e : j = 25 := by omega
      subst e; exact f a S' P m
    · exact xk_i1 hs (by omega) (fun a' S'' P' m' => ih (j + 1) a' S'' (by omega) (by omega) (by omega) P' (mk_c m' (rI_r H j))) 26 1 a S' (by omega) (by omega) (by omega) (by omega) P m
theorem xp_close {post : SX → Prop} {a : Nat → Int32} (P : XP a S) (s : Int) (hs : 0 ≤ s ∧ s ≤ 6) (f : ∀ a', XP a' (setl S s (clos (S s))) → post (c, rc, gc, lr, rk, a', cx, cy, re, st, dg)) : wpX_close post (c, rc, gc, lr, rk, a, cx, cy, re, st, dg) (zI s) := by
  unfold wpX_close
  have H : Sup (S s) := fun i j h => P.2 s i j h
  refine ⟨26, xk_o1 hs H (fun a' S' P' m' => ⟨26, ?_⟩) 26 0 a S (by omega) (by omega) (by omega) P (mk_0 (rI_0 H))⟩
  have e1 : S' = setl S s (clI (S s)) := mk_set m' (fun i j => by
    rw [cI_i]
    constructor
    · rintro (h | ⟨h0, h | h⟩)
      · exact Or.inl h
      · have := H _ _ h; exact Or.inr ⟨h0, Or.inl ⟨h, by omega⟩⟩
      · have := H _ _ h; exact Or.inr ⟨h0, Or.inr ⟨h, by omega⟩⟩
    · rintro (h | ⟨h0, h | h⟩)
      · exact Or.inl h
      · exact Or.inr ⟨h0, Or.inl h.1⟩
      · exact Or.inr ⟨h0, Or.inr h.1⟩)
  have e2 : S' s = clI (S s) := by rw [e1]; unfold setl; rw [if_pos rfl]
  have H' : Sup (S' s) := fun i j h => P'.2 s i j h
  refine xk_o2 hs H' (fun a'' S'' P'' m'' => ?_) 26 1 a' S' (by omega) (by omega) (by omega) (by omega) P' (mk_0 (rJ_0 H'))
  have e3 : S'' = setl S' s (clJ (S' s)) := mk_set m'' (fun i j => by
    rw [cJ_i]
    constructor
    · rintro (h | ⟨h0, h | h⟩)
      · exact Or.inl h
      · have := H' _ _ h; exact Or.inr ⟨h0, Or.inl ⟨h, by omega⟩⟩
      · have := H' _ _ h; exact Or.inr ⟨h0, Or.inr ⟨h, by omega⟩⟩
    · rintro (h | ⟨h0, h | h⟩)
      · exact Or.inl h
      · exact Or.inr ⟨h0, Or.inl h.1⟩
      · exact Or.inr ⟨h0, Or.inr h.1⟩)
  apply f a''
  rw [e3, e2] at P''
  have e4 : setl S' s (clJ (clI (S s))) = setl S s (clos (S s)) := by
    funext s'
    unfold setl
    by_cases e : s' = s
    · rw [if_pos e, if_pos e]; rfl
    · rw [if_neg e, if_neg e, m'.1 s' e]
  rw [e4] at P''; exact P''
end
end
section
/-! Y: closing, keeping; mixing; combine -/
def A1 (m : Nat → Int32) (g : Int → Int → Bool) : Prop := ∀ i j, Gd i j → m (25 * i + j).toNat = bI (g i j)
def Fc (g : Int → Int → Bool) (i j p q : Int) : Prop := Gd (i + p) (j + q) ∧ (p ≠ 0 ∨ q ≠ 0) ∧ (p = 0 ∨ (i + p) % 2 = 1) ∧ (q = 0 ∨ (j + q) % 2 = 1) ∧ g (i + p) (j + q) = true
def Fd1 (g : Int → Int → Bool) (i j d : Int) : Prop := g i j = true ∨ ∃ p q, (-1 ≤ p ∧ p ≤ 1) ∧ (-1 ≤ q ∧ q ≤ 1) ∧ 3 * (p + 1) + (q + 1) < d ∧ Fc g i j p q
theorem fc_cl {g : Int → Int → Bool} (H : Sup g) {i j : Int} (hg : Gd i j) : Fd1 g i j 9 ↔ clos g i j = true := by
  unfold clos
  rw [cJ_i, cI_i, cI_i, cI_i]
  constructor
  · rintro (h | ⟨p, q, hp, hq, -, f1, f2, f3, f4, f5⟩)
    · exact Or.inl (Or.inl h)
    · have ep : p = -1 ∨ p = 0 ∨ p = 1 := by omega
      have eq : q = -1 ∨ q = 0 ∨ q = 1 := by omega
      rcases ep with rfl | rfl | rfl <;> rcases eq with rfl | rfl | rfl
      · exact Or.inr ⟨by omega, Or.inl (Or.inr ⟨by omega, Or.inl f5⟩)⟩
      · have e : j + 0 = j := by omega
        rw [e] at f5
        exact Or.inl (Or.inr ⟨by omega, Or.inl f5⟩)
      · exact Or.inr ⟨by omega, Or.inr (Or.inr ⟨by omega, Or.inl f5⟩)⟩
      · have e : i + 0 = i := by omega
        rw [e] at f5
        exact Or.inr ⟨by omega, Or.inl (Or.inl f5)⟩
      · omega
      · have e : i + 0 = i := by omega
        rw [e] at f5
        exact Or.inr ⟨by omega, Or.inr (Or.inl f5)⟩
      · exact Or.inr ⟨by omega, Or.inl (Or.inr ⟨by omega, Or.inr f5⟩)⟩
      · have e : j + 0 = j := by omega
        rw [e] at f5
        exact Or.inl (Or.inr ⟨by omega, Or.inr f5⟩)
      · exact Or.inr ⟨by omega, Or.inr (Or.inr ⟨by omega, Or.inr f5⟩)⟩
  · have mk : ∀ p q, (-1 ≤ p ∧ p ≤ 1) → (-1 ≤ q ∧ q ≤ 1) → (p ≠ 0 ∨ q ≠ 0) → (p = 0 ∨ (i + p) % 2 = 1) → (q = 0 ∨ (j + q) % 2 = 1) → g (i + p) (j + q) = true → Fd1 g i j 9 :=
      fun p q h1 h2 h3 h4 h5 h6 => Or.inr ⟨p, q, h1, h2, by omega, H _ _ h6, h3, h4, h5, h6⟩
    have z1 : i + 0 = i := by omega
    have z2 : j + 0 = j := by omega
    rintro ((h | ⟨h0, h | h⟩) | ⟨h0, (h | ⟨h1, h | h⟩) | (h | ⟨h1, h | h⟩)⟩)
    · exact Or.inl h
    · exact mk (-1) 0 (by omega) (by omega) (by omega) (by omega) (by omega) (by rw [z2]; exact h)
    · exact mk 1 0 (by omega) (by omega) (by omega) (by omega) (by omega) (by rw [z2]; exact h)
    · exact mk 0 (-1) (by omega) (by omega) (by omega) (by omega) (by omega) (by rw [z1]; exact h)
    · exact mk (-1) (-1) (by omega) (by omega) (by omega) (by omega) (by omega) h
    · exact mk 1 (-1) (by omega) (by omega) (by omega) (by omega) (by omega) h
    · exact mk 0 1 (by omega) (by omega) (by omega) (by omega) (by omega) (by rw [z1]; exact h)
    · exact mk (-1) 1 (by omega) (by omega) (by omega) (by omega) (by omega) h
    · exact mk 1 1 (by omega) (by omega) (by omega) (by omega) (by omega) h
theorem fd_s {g : Int → Int → Bool} {i j d : Int} (hd : 0 ≤ d ∧ d ≤ 8) : Fd1 g i j (d + 1) ↔ Fd1 g i j d ∨ Fc g i j (d / 3 - 1) (d % 3 - 1) := by
  constructor
  · rintro (h | ⟨p, q, hp, hq, hlt, f⟩)
    · exact Or.inl (Or.inl h)
    · by_cases e : 3 * (p + 1) + (q + 1) < d
      · exact Or.inl (Or.inr ⟨p, q, hp, hq, e, f⟩)
      · have e1 : p = d / 3 - 1 := by omega
        have e2 : q = d % 3 - 1 := by omega
        rw [e1, e2] at f; exact Or.inr f
  · rintro ((h | ⟨p, q, hp, hq, hlt, f⟩) | f)
    · exact Or.inl h
    · exact Or.inr ⟨p, q, hp, hq, by omega, f⟩
    · exact Or.inr ⟨_, _, by omega, by omega, by omega, f⟩
section
variable {c : Int32} {ly fi ma se px py la : Nat → Int32} {S : Int → Int → Int → Bool}
theorem yp_face {post : Int32 → Prop} {i j p q : Int} (hg : Gd i j) (hp : -1 ≤ p ∧ p ≤ 1) (hq : -1 ≤ q ∧ q ≤ 1)
    (f : Gd (i + p) (j + q) ∧ (p ≠ 0 ∨ q ≠ 0) ∧ (p = 0 ∨ (i + p) % 2 = 1) ∧ (q = 0 ∨ (j + q) % 2 = 1) → post 1)
    (g : ¬ (Gd (i + p) (j + q) ∧ (p ≠ 0 ∨ q ≠ 0) ∧ (p = 0 ∨ (i + p) % 2 = 1) ∧ (q = 0 ∨ (j + q) % 2 = 1)) → post 0) : wpY_isFaceOf post (c, ly, fi, ma, se, px, py, la) (zI i) (zI j) (zI p) (zI q) := by
  unfold wpY_isFaceOf
  rw [zi_add, zi_add]
  refine yg_atom _ _ (by omega) (by omega) (fun ga => b1_f ?_) (fun ga => b0_t (g (fun h => ga h.1)))
  have k36 : (p = 0 ∨ (i + p) % 2 = 1) → (p ≠ 0 ∨ q ≠ 0) → wY_isFaceOf_36 post (zI j) (zI q) c ly fi ma se px py la := by
    intro h1 h2
    refine zb_eq q 0 (fun e => f ⟨ga, h2, h1, Or.inl e⟩) (fun e => ⟨by decide, ?_⟩)
    rw [zi_add, zi_r2 (by omega)]
    exact zb_eq ((j + q) % 2) 1 (fun e1 => f ⟨ga, h2, h1, Or.inr e1⟩) (fun e1 => g (fun h => by omega))
  have k23 : (p ≠ 0 ∨ q ≠ 0) → wY_isFaceOf_23 post (zI i) (zI j) (zI p) (zI q) c ly fi ma se px py la := by
    intro h2
    refine zb_eq p 0 (fun e => k36 (Or.inl e) h2) (fun e => ⟨by decide, ?_⟩)
    rw [zi_add, zi_r2 (by omega)]
    exact zb_eq ((i + p) % 2) 1 (fun e1 => k36 (Or.inr e1) h2) (fun e1 => g (fun h => by omega))
  exact zb_eq p 0 (fun e => zb_eq q 0 (fun e2 => g (fun h => by omega)) (fun e2 => k23 (Or.inr e2))) (fun e => k23 (Or.inl e))
def MB (m : Nat → Int32) (g : Int → Int → Bool) (q : Int) (b : Bool) : Prop :=
  (∀ i j, Gd i j → 25 * i + j ≠ q → m (25 * i + j).toNat = bI (if 25 * i + j < q then clos g i j else g i j)) ∧ m q.toNat = bI b
theorem yk_i {post : SY → Prop} {J : Int32 → (Nat → Int32) → (Nat → Int32) → (Nat → Int32) → (Nat → Int32) → (Nat → Int32) → (Nat → Int32) → (Nat → Int32) → Prop} {g : Int → Int → Bool} (A : A1 se g) {q : Int} (hq : 0 ≤ q ∧ q ≤ 624)
    (hJ : ∀ ma' b, MB ma' g q b → (b = true ↔ Fd1 g (q / 25) (q % 25) 9) → J (zI (q + 1)) ly fi ma' se px py la) :
    ∀ (N : Nat) (d : Int) (ma : Nat → Int32) (b : Bool), 0 ≤ d → d ≤ 9 → (9 - d).toNat < N → MB ma g q b → (b = true ↔ Fd1 g (q / 25) (q % 25) d) → wY_close_49 post J (zI q) (zI (q / 25)) (zI (q % 25)) c N (zI d) ly fi ma se px py la := by
  intro N
  induction N with
  | zero => intro d ma b h0 h1 h2; omega
  | succ N ih =>
    intro d ma b h0 h1 h2 hM hb
    refine zb_le 9 d (fun h => ?_) (fun h => ?_)
    · have e : d = 9 := by omega
      subst e; exact nm_r (zi_1 q) (hJ ma b hM hb)
    · have e5 : zI d / 3 - 1 = zI (d / 3 - 1) := by rw [zi_d3 (by omega), zi_s1]
      have e6 : (zI d - zI d / 3 * 3) - 1 = zI (d % 3 - 1) := by rw [zi_r3 (by omega), zi_s1]
      refine ⟨by decide, nm_r e5 ⟨by decide, nm_r e6 ?_⟩⟩
      have no : ¬ Fc g (q / 25) (q % 25) (d / 3 - 1) (d % 3 - 1) → wY_close_49 post J (zI q) (zI (q / 25)) (zI (q % 25)) c N (zI (d + 1)) ly fi ma se px py la := by
        intro hh
        refine ih (d + 1) ma b (by omega) (by omega) (by omega) hM ?_
        rw [fd_s (by omega), hb]
        exact ⟨Or.inl, fun z => z.elim id (fun z => absurd z hh)⟩
      refine yp_face (by omega) (by omega) (by omega) (fun hf => b1_f ?_) (fun hf => b0_t (nm_r (zi_1 d) (no (fun hc => hf ⟨hc.1, hc.2.1, hc.2.2.1, hc.2.2.2.1⟩))))
      have ei : (zI q + (25 * zI (d / 3 - 1))) + zI (d % 3 - 1) = zI (25 * (q / 25 + (d / 3 - 1)) + (q % 25 + (d % 3 - 1))) := by
        have e : 25 * zI (d / 3 - 1) = zI (25 * (d / 3 - 1)) := zi_mul 25 _
        rw [e, zi_add, zi_add]; apply congrArg zI; omega
      have hgd := hf.1
      refine ⟨zv_in (25 * (q / 25 + (d / 3 - 1)) + (q % 25 + (d % 3 - 1))) (by omega) ei, ?_⟩
      rw [zv_cl _ ei, A _ _ hf.1]
      refine bb_0 (fun e => nm_r (zi_1 d) (no (fun hc => ?_))) (fun e => ⟨zv_in q (by omega), nm_e (nm_r (zi_1 d) ?_)⟩)
      · rw [hc.2.2.2.2] at e; exact absurd e (by decide)
      · refine ih (d + 1) _ true (by omega) (by omega) (by omega) ⟨fun i j gd hne => ?_, ?_⟩ ?_
        · rw [zi_cl (by omega)]; unfold upd
          rw [if_neg (by omega)]; exact hM.1 i j gd hne
        · rw [zi_cl (by omega)]; unfold upd
          rw [if_pos rfl]; rfl
        · rw [fd_s (by omega)]
          exact ⟨fun _ => Or.inr ⟨hf.1, hf.2.1, hf.2.2.1, hf.2.2.2, e⟩, fun _ => rfl⟩
theorem yk_o {post : SY → Prop} {g : Int → Int → Bool} (H : Sup g) (A : A1 se g)
    (f : ∀ ma', A1 ma' (clos g) → post (c, ly, fi, ma', se, px, py, la)) :
    ∀ (N : Nat) (q : Int) (ma : Nat → Int32), 0 ≤ q → q ≤ 625 → (625 - q).toNat < N → (∀ i j, Gd i j → ma (25 * i + j).toNat = bI (if 25 * i + j < q then clos g i j else g i j)) → wY_close_29 post c N (zI q) ly fi ma se px py la := by
  intro N
  induction N with
  | zero => intro q ma h0 h1; omega
  | succ N ih =>
    intro q ma h0 h1 h2 hM
    refine zb_le 625 q (fun h => f ma (fun i j gd => ?_)) (fun h => ⟨by decide, nm_r (zi_d25 (by omega)) ⟨by decide, nm_r (zi_r25 (by omega)) ⟨10, ?_⟩⟩⟩)
    · rw [hM i j gd, if_pos (by omega)]
    · have gq : Gd (q / 25) (q % 25) := by omega
      have e0 : 25 * (q / 25) + q % 25 = q := by omega
      refine yk_i A (by omega) (fun ma' b hM' hb' => ih (q + 1) ma' (by omega) (by omega) (by omega) (fun i j gd => ?_)) 10 0 ma (g (q / 25) (q % 25)) (by omega) (by omega) (by omega) ⟨fun i j gd _ => hM i j gd, ?_⟩ ?_
      · by_cases e : 25 * i + j = q
        · have e1 : i = q / 25 := by omega
          have e2 : j = q % 25 := by omega
          rw [if_pos (by omega), e, hM'.2, e1, e2]
          congr 1
          exact be (hb'.trans (fc_cl H gq))
        · rw [hM'.1 i j gd e]
          by_cases e2 : 25 * i + j < q
          · rw [if_pos e2, if_pos (by omega)]
          · rw [if_neg e2, if_neg (by omega)]
      · have := hM _ _ gq
        rw [e0, if_neg (by omega)] at this; exact this
      · exact ⟨Or.inl, fun z => z.elim id (fun ⟨p, q, h1, h2, h3, _⟩ => by omega)⟩
theorem yk_c {post : SY → Prop} {g : Int → Int → Bool} (H : Sup g) (A : A1 ma g)
    (f : ∀ ma' se', A1 ma' (clos g) → post (c, ly, fi, ma', se', px, py, la)) :
    ∀ (N : Nat) (q : Int) (se : Nat → Int32), 0 ≤ q → q ≤ 625 → (625 - q).toNat < N → (∀ i j, Gd i j → 25 * i + j < q → se (25 * i + j).toNat = bI (g i j)) → wY_close_2 post c N (zI q) ly fi ma se px py la := by
  intro N
  induction N with
  | zero => intro q ma h0 h1; omega
  | succ N ih =>
    intro q se h0 h1 h2 hM
    refine zb_le 625 q (fun h => ⟨626, ?_⟩) (fun h => ⟨zv_in q (by omega), zv_in q (by omega), nm_e (nm_r (zi_1 q) ?_)⟩)
    · refine yk_o (g := g) H (fun i j gd => hM i j gd (by omega)) (fun ma' h' => f ma' se h') 626 0 ma (by omega) (by omega) (by omega) (fun i j gd => ?_)
      rw [if_neg (by omega)]; exact A i j gd
    · refine ih (q + 1) _ (by omega) (by omega) (by omega) (fun i j gd hlt => ?_)
      rw [zi_cl (by omega)]
      unfold upd
      by_cases e : 25 * i + j = q
      · rw [if_pos (by omega), ← e, A i j gd, bi_v]
      · rw [if_neg (by omega)]; exact hM i j gd (by omega)
theorem yp_close {post : SY → Prop} {g : Int → Int → Bool} (H : Sup g) (A : A1 ma g) (f : ∀ ma' se', A1 ma' (clos g) → post (c, ly, fi, ma', se', px, py, la)) : wpY_close post (c, ly, fi, ma, se, px, py, la) := by
  unfold wpY_close
  exact ⟨626, yk_c H A f 626 0 se (by omega) (by omega) (by omega) (fun i j gd hlt => absurd hlt (by omega))⟩
def kp (S : Int → Int → Int → Bool) (l : Int) (g : Int → Int → Bool) (q : Int) : Int → Int → Int → Bool := fun s i j => if s = l ∧ 25 * i + j < q then g i j else S s i j
theorem ykp {post : SY → Prop} {g : Int → Int → Bool} {l : Int} (hl : 0 ≤ l ∧ l ≤ 5) (A : A1 ma g)
    (f : ∀ ly', YP ly' (setl S l g) → post (c, ly', fi, ma, se, px, py, la)) :
    ∀ (N : Nat) (q : Int) (ly : Nat → Int32), 0 ≤ q → q ≤ 625 → (625 - q).toNat < N → YP ly (kp S l g q) → wY_keep_2 post (zI l) c N (zI q) ly fi ma se px py la := by
  intro N
  induction N with
  | zero => intro q ma h0 h1; omega
  | succ N ih =>
    intro q ly h0 h1 h2 Q
    have e1 := zi_in2 l q
    refine zb_le 625 q (fun h => f ly ?_) (fun h => ⟨zv_in q (by omega), zv_in (625 * l + q) (by omega) e1, nm_e (nm_r (zi_1 q) ?_)⟩)
    · intro l' i j l0 l5 gd
      rw [Q l' i j l0 l5 gd]
      unfold kp setl
      by_cases e : l' = l
      · rw [if_pos (by omega), if_pos e]
      · rw [if_neg (by omega), if_neg e]
    · refine ih (q + 1) _ (by omega) (by omega) (by omega) ?_
      intro l' i j l0 l5 gd
      rw [zv_cl _ e1, zi_cl (by omega)]
      unfold upd
      by_cases e : l' = l ∧ 25 * i + j = q
      · rw [if_pos (by omega), ← e.2, A i j gd, bi_v]
        unfold kp; rw [if_pos (by omega)]
      · rw [if_neg (by omega), Q l' i j l0 l5 gd]
        unfold kp
        by_cases e2 : l' = l ∧ 25 * i + j < q
        · rw [if_pos e2, if_pos (by omega)]
        · rw [if_neg e2, if_neg (by omega)]
theorem yp_keep {post : SY → Prop} {g : Int → Int → Bool} (Q : YP ly S) (l : Int) (hl : 0 ≤ l ∧ l ≤ 5) (A : A1 ma g) (f : ∀ ly', YP ly' (setl S l g) → post (c, ly', fi, ma, se, px, py, la)) : wpY_keep post (c, ly, fi, ma, se, px, py, la) (zI l) := by
  unfold wpY_keep
  refine ⟨626, ykp hl A f 626 0 ly (by omega) (by omega) (by omega) ?_⟩
  intro l' i j l0 l5 gd
  rw [Q l' i j l0 l5 gd]; unfold kp; rw [if_neg (by omega)]
end
def opB (op : Int) (x y : Bool) : Bool := if op = 0 then x || y else if op = 1 then x && y else if op = 2 then x && !y else x != y
theorem op_0 {op : Int} : opB op false false = false := by unfold opB; split <;> (try split) <;> (try split) <;> rfl
theorem op_s {op : Int} {g h : Int → Int → Bool} (H1 : Sup g) (H2 : Sup h) : Sup (fun i j => opB op (g i j) (h i j)) := by
  intro i j e
  cases e1 : g i j
  · cases e2 : h i j
    · simp only [e1, e2, op_0] at e; exact absurd e (by decide)
    · exact H2 i j e2
  · exact H1 i j e1
theorem xp_mem {post : Int32 → Prop} {op : Int} (ho : 0 ≤ op ∧ op ≤ 3) (x y : Bool) (h : post (bI (opB op x y))) : wpX_isMember post (zI op) (bI x) (bI y) := by
  unfold opB at h
  refine zb_lt op 0 (fun q => absurd q (by omega)) (fun _ => zb_lt 2 op (fun q => ?_) (fun q => zb_eq op 0 (fun q0 => ?_) (fun q0 => zb_eq op 1 (fun q1 => ?_) (fun q1 => zb_eq op 2 (fun q2 => ?_) (fun q2 => trivial)))))
  · rw [if_neg (by omega), if_neg (by omega), if_neg (by omega)] at h
    refine bb_e (fun e => ?_) (fun e => ?_)
    · rw [e] at h; simpa [bI] using h
    · cases x <;> cases y <;> first | exact absurd rfl e | exact h
  · rw [if_pos q0] at h
    refine bb_0 (fun e => bb_0 (fun e2 => ?_) (fun e2 => ?_)) (fun e => ?_)
    · rw [e, e2] at h; exact h
    · rw [e, e2] at h; exact h
    · rw [e] at h; exact h
  · rw [if_neg q0, if_pos q1] at h
    refine bb_0 (fun e => ?_) (fun e => bb_0 (fun e2 => ?_) (fun e2 => ?_))
    · rw [e] at h; exact h
    · rw [e, e2] at h; exact h
    · rw [e, e2] at h; exact h
  · rw [if_neg q0, if_neg q1, if_pos q2] at h
    refine bb_0 (fun e => ?_) (fun e => bb_0 (fun e2 => ?_) (fun e2 => ?_))
    · rw [e] at h; exact h
    · rw [e, e2] at h; exact h
    · rw [e, e2] at h; exact h
theorem yp_mem {post : Int32 → Prop} {v : SY} {op : Int} (ho : 0 ≤ op ∧ op ≤ 3) (x y : Bool) (h : post (bI (opB op x y))) : wpY_combined post v (zI op) (bI x) (bI y) := by
  unfold opB at h
  refine zb_eq op 0 (fun q0 => ?_) (fun q0 => zb_eq op 1 (fun q1 => ?_) (fun q1 => zb_eq op 2 (fun q2 => ?_) (fun q2 => ?_)))
  · rw [if_pos q0] at h
    refine bb_0 (fun e => bb_0 (fun e2 => ?_) (fun e2 => ?_)) (fun e => ?_)
    · rw [e, e2] at h; exact h
    · rw [e, e2] at h; exact h
    · rw [e] at h; exact h
  · rw [if_neg q0, if_pos q1] at h
    refine bb_0 (fun e => ?_) (fun e => bb_0 (fun e2 => ?_) (fun e2 => ?_))
    · rw [e] at h; exact h
    · rw [e, e2] at h; exact h
    · rw [e, e2] at h; exact h
  · rw [if_neg q0, if_neg q1, if_pos q2] at h
    refine bb_0 (fun e => ?_) (fun e => bb_0 (fun e2 => ?_) (fun e2 => ?_))
    · rw [e] at h; exact h
    · rw [e, e2] at h; exact h
    · rw [e, e2] at h; exact h
  · rw [if_neg q0, if_neg q1, if_neg q2] at h
    refine bb_e (fun e => ?_) (fun e => ?_)
    · rw [e] at h; simpa [bI] using h
    · cases x <;> cases y <;> first | exact absurd rfl e | exact h
section
variable {c rc gc lr rk : Int32} {cx cy re st dg : Nat → Int32} {S : Int → Int → Int → Bool}
def kx (S : Int → Int → Int → Bool) (l : Int) (g : Int → Int → Bool) (q : Int) : Int → Int → Int → Bool := fun s i j => if s = l ∧ Gd i j ∧ 25 * j + i < q then g i j else S s i j
theorem xm_l {post : SX → Prop} {op l m t : Int} (ho : 0 ≤ op ∧ op ≤ 3) (hl : 0 ≤ l ∧ l ≤ 6) (hm : 0 ≤ m ∧ m ≤ 6) (ht : 0 ≤ t ∧ t ≤ 6) (H : ∀ s i j, S s i j = true → Gd i j)
    (f : ∀ a', XP a' (setl S t (clos (fun i j => opB op (S l i j) (S m i j)))) → post (c, rc, gc, lr, rk, a', cx, cy, re, st, dg)) :
    ∀ (N : Nat) (q : Int) (a : Nat → Int32), 0 ≤ q → q ≤ 625 → (625 - q).toNat < N → XP a (kx S t (fun i j => opB op (S l i j) (S m i j)) q) → wX_mix_3 post (zI op) (zI l) (zI m) (zI t) c rc gc lr rk N (zI q) a cx cy re st dg := by
  intro N
  induction N with
  | zero => intro q ma h0 h1; omega
  | succ N ih =>
    intro q a h0 h1 h2 P
    have gq' : q < 625 → Gd (q % 25) (q / 25) := fun h => by omega
    have e1 := zi_in1 l q
    have e2 := zi_in1 m q
    have e3 := zi_in1 t q
    have ix : ∀ s : Int, s * 625 + q = s * 625 + (q / 25) * 25 + q % 25 := fun s => by omega
    have rd : q < 625 → ∀ s : Int, 0 ≤ s ∧ s ≤ 6 → a (s * 625 + q).toNat = bI (S s (q % 25) (q / 25)) := by
      intro hq s hs
      rw [ix s, P.1 s _ _ hs.1 hs.2 (gq' hq)]
      unfold kx; rw [if_neg (by omega)]
    refine zb_le 625 q (fun h => ?_) (fun h => ⟨zv_in (l * 625 + q) (by omega) e1, nm_e ⟨zv_in (m * 625 + q) (by omega) e2, nm_e ?_⟩⟩)
    · have P' : XP a (setl S t (fun i j => opB op (S l i j) (S m i j))) := by
        refine px_c P (fun s i j => ?_)
        unfold kx setl
        by_cases e : s = t
        · rw [if_pos e]
          by_cases gd : Gd i j
          · rw [if_pos (by omega)]
          · rw [if_neg (by omega)]
            have n1 : S l i j = false := by
              cases z : S l i j
              · rfl
              · exact absurd (H _ _ _ z) gd
            have n2 : S m i j = false := by
              cases z : S m i j
              · rfl
              · exact absurd (H _ _ _ z) gd
            have n3 : S s i j = false := by
              cases z : S s i j
              · rfl
              · exact absurd (H _ _ _ z) gd
            show S s i j = opB op (S l i j) (S m i j)
            rw [n1, n2, n3, op_0]
        · rw [if_neg (by omega), if_neg e]
      refine xp_close P' t ht (fun a' P2 => f a' (px_c P2 (fun s i j => ?_)))
      unfold setl
      by_cases e : s = t
      · rw [if_pos e, if_pos e, if_pos rfl]
      · rw [if_neg e, if_neg e, if_neg e]
    · have gq := gq' h
      rw [zv_cl _ e1, zv_cl _ e2, rd h l hl, rd h m hm]
      refine xp_mem ho _ _ ⟨zv_in (t * 625 + q) (by omega) e3, nm_e (nm_r (zi_1 q) ?_)⟩
      rw [zv_cl _ e3, bi_v]
      refine ih (q + 1) _ (by omega) (by omega) (by omega) ?_
      rw [ix t]
      refine px_c (px_sto P ht gq) (fun s i j => ?_)
      unfold sto kx
      by_cases e : s = t ∧ i = q % 25 ∧ j = q / 25
      · rw [if_pos e, if_pos (by omega), e.2.1, e.2.2]
      · rw [if_neg e]
        by_cases e2 : s = t ∧ Gd i j ∧ 25 * j + i < q
        · rw [if_pos e2, if_pos (by omega)]
        · rw [if_neg e2, if_neg (by omega)]
theorem xp_mix {post : SX → Prop} {a : Nat → Int32} (P : XP a S) {op l m t : Int} (ho : 0 ≤ op ∧ op ≤ 3) (hl : 0 ≤ l ∧ l ≤ 6) (hm : 0 ≤ m ∧ m ≤ 6) (ht : 0 ≤ t ∧ t ≤ 6)
    (f : ∀ a', XP a' (setl S t (clos (fun i j => opB op (S l i j) (S m i j)))) → post (c, rc, gc, lr, rk, a', cx, cy, re, st, dg)) : wpX_mix post (c, rc, gc, lr, rk, a, cx, cy, re, st, dg) (zI op) (zI l) (zI m) (zI t) := by
  unfold wpX_mix
  refine ⟨626, xm_l ho hl hm ht P.2 f 626 0 a (by omega) (by omega) (by omega) (px_c P (fun s i j => ?_))⟩
  unfold kx; rw [if_neg (by omega)]
end
theorem cl_set {S : Int → Int → Int → Bool} {l : Int} {g : Int → Int → Bool} (C : CL S) (h : clo g) : CL (setl S l g) := by
  intro s s0 s5
  unfold setl
  by_cases e : s = l
  · rw [if_pos e]; exact h
  · rw [if_neg e]; exact C s s0 s5
section
variable {c : Int32} {fi ly px py la : Nat → Int32} {S : Int → Int → Int → Bool}
theorem yc_l {post : Int32 → SY → Prop} {op l m t : Int} (ho : 0 ≤ op ∧ op ≤ 3) (hl : 0 ≤ l ∧ l ≤ 5) (hm : 0 ≤ m ∧ m ≤ 5) (ht : 0 ≤ t ∧ t ≤ 5) (H : HS S) (Q : YP ly S)
    (f : ∀ ly' ma' se', YP ly' (setl S t (clos (fun i j => opB op (S l i j) (S m i j)))) → post 1 (c, ly', fi, ma', se', px, py, la)) :
    ∀ (N : Nat) (q : Int) (ma se : Nat → Int32), 0 ≤ q → q ≤ 625 → (625 - q).toNat < N → (∀ i j, Gd i j → 25 * i + j < q → ma (25 * i + j).toNat = bI (opB op (S l i j) (S m i j))) → wY_combine_39 post (zI op) (zI l) (zI m) (zI t) c N (zI q) ly fi ma se px py la := by
  intro N
  induction N with
  | zero => intro q ma h0 h1; omega
  | succ N ih =>
    intro q ma se h0 h1 h2 A
    have gq' : q < 625 → Gd (q / 25) (q % 25) := fun h => by omega
    have e1 := zi_in2 l q
    have e2 := zi_in2 m q
    have ix : ∀ s : Int, 625 * s + q = 625 * s + 25 * (q / 25) + q % 25 := fun s => by omega
    have rd : q < 625 → ∀ s : Int, 0 ≤ s ∧ s ≤ 5 → ly (625 * s + q).toNat = bI (S s (q / 25) (q % 25)) := by
      intro hq s hs
      rw [ix s, Q s _ _ hs.1 hs.2 (gq' hq)]
    refine zb_le 625 q (fun h => ?_) (fun h => ⟨zv_in (625 * l + q) (by omega) e1, zv_in (625 * m + q) (by omega) e2, ?_⟩)
    · refine yp_close (g := fun i j => opB op (S l i j) (S m i j)) (op_s (fun i j => H l i j) (fun i j => H m i j)) (fun i j gd => A i j gd (by omega)) (fun ma' se' A' => ?_)
      exact yp_keep Q t ht A' (fun ly' Q' => f ly' ma' se' Q')
    · have gq := gq' h
      rw [zv_cl _ e1, zv_cl _ e2, rd h l hl, rd h m hm]
      refine yp_mem ho _ _ ⟨zv_in q (by omega), nm_e (nm_r (zi_1 q) ?_)⟩
      refine ih (q + 1) _ se (by omega) (by omega) (by omega) (fun i j gd hlt => ?_)
      rw [zi_cl (by omega), bi_v]
      unfold upd
      by_cases e : 25 * i + j = q
      · have ei : i = q / 25 := by omega
        have ej : j = q % 25 := by omega
        rw [if_pos (by omega), ei, ej]
      · rw [if_neg (by omega)]; exact A i j gd (by omega)
end
theorem i_vc_combine {k : Nat} {u : SX} {v : SY} (I : i_Rel k u v) (hk : k + 5 ≤ 2560) (v1 : Int32) (v2 : Int32) (v3 : Int32) (v4 : Int32) : wpX_combine (fun r u' => wpY_combine (fun r' v' => r' = r ∧ i_Rel (k + 5) u' v') v v1 v2 v3 v4) u v1 v2 v3 v4 := by
  obtain ⟨c, rc, gc, lr, rk, a, cx, cy, re, st, dg⟩ := u
  obtain ⟨c', ly, fi, ma, se, px, py, la⟩ := v
  obtain ⟨S, n, X, Y, P, Q, C, T, rfl, rfl⟩ := I
  obtain ⟨op, ho, rfl⟩ := zi_ex v1
  obtain ⟨l, hl, rfl⟩ := zi_ex v2
  obtain ⟨m, hm, rfl⟩ := zi_ex v3
  obtain ⟨t, ht, rfl⟩ := zi_ex v4
  have R0 : i_Rel (k + 5) (zI n, rc, gc, lr, rk, a, cx, cy, re, st, dg) (zI n, ly, fi, ma, se, px, py, la) := i_mk P Q C T
  have Yc : ∀ post : Int32 → SY → Prop, ((0 ≤ op ∧ op ≤ 3) ∧ (0 ≤ l ∧ l ≤ 5) ∧ (0 ≤ m ∧ m ≤ 5) ∧ (0 ≤ t ∧ t ≤ 5) → ∃ N, wY_combine_39 post (zI op) (zI l) (zI m) (zI t) (zI n) N 0 ly fi ma se px py la) → (¬ ((0 ≤ op ∧ op ≤ 3) ∧ (0 ≤ l ∧ l ≤ 5) ∧ (0 ≤ m ∧ m ≤ 5) ∧ (0 ≤ t ∧ t ≤ 5)) → post 0 (zI n, ly, fi, ma, se, px, py, la)) → wpY_combine post (zI n, ly, fi, ma, se, px, py, la) (zI op) (zI l) (zI m) (zI t) := by
    intro post f g
    unfold wpY_combine
    refine zb_lt op 0 (fun h => g (by omega)) (fun h0 => zb_lt 3 op (fun h => g (by omega)) (fun h3 => ?_))
    refine yg_layer l hl (fun h1 => b1_f ?_) (fun h1 => b0_t (g (by omega)))
    refine yg_layer m hm (fun h2 => b1_f ?_) (fun h2 => b0_t (g (by omega)))
    refine yg_layer t ht (fun h4 => b1_f ?_) (fun h4 => b0_t (g (by omega)))
    exact f (by omega)
  unfold wpX_combine
  refine xg_op op ho (fun h1 => b1_f ?_) (fun h1 => b0_t (Yc _ (fun h => absurd h.1 h1) (fun _ => ⟨rfl, R0⟩)))
  refine xg_layer l hl (fun h2 => b1_f ?_) (fun h2 => b0_t (Yc _ (fun h => absurd h.2.1 h2) (fun _ => ⟨rfl, R0⟩)))
  refine xg_layer m hm (fun h3 => b1_f ?_) (fun h3 => b0_t (Yc _ (fun h => absurd h.2.2.1 h3) (fun _ => ⟨rfl, R0⟩)))
  refine xg_layer t ht (fun h4 => b1_f ?_) (fun h4 => b0_t (Yc _ (fun h => absurd h.2.2.2 h4) (fun _ => ⟨rfl, R0⟩)))
  refine xp_mix P h1 (by omega) (by omega) (by omega) (fun a' P' => Yc _ (fun _ => ⟨626, ?_⟩) (fun h => absurd ⟨h1, h2, h3, h4⟩ h))
  refine yc_l h1 h2 h3 h4 P.2 Q (fun ly' ma' se' Q' => ⟨rfl, ?_⟩) 626 0 ma se (by omega) (by omega) (by omega) (fun i j gd hlt => absurd hlt (by omega))
  exact i_mk P' Q' (cl_set C (cl_clo _)) T
end
section
/-! fill -/
def fo (p : Nat → Bool) : Nat → Bool
  | 0 => false
  | m + 1 => fo p m != p m
theorem fo_c (p : Nat → Bool) : ∀ m, fo p m = decide (cnt p m % 2 = 1)
  | 0 => rfl
  | m + 1 => by
    simp only [fo, cnt]
    rw [fo_c p m]
    by_cases h : p m = true
    · rcases Nat.mod_two_eq_zero_or_one (cnt p m) with e | e
      · have : (cnt p m + 1) % 2 = 1 := by omega
        simp [h, e, this]
      · have : (cnt p m + 1) % 2 = 0 := by omega
        simp [h, e, this]
    · have h' : p m = false := by simpa using h
      simp [h']
def nxr (n k : Int) : Int := if k + 1 < n then k + 1 else 0
def psX (n : Int) (X Y : Int → Int) (i j : Int) (k : Nat) : Bool := (decide (2 * Y k < j) != decide (2 * Y (nxr n k) < j)) && decide (2 * X k < i)
def crs (x1 y1 x2 y2 i j : Int) : Bool := decide (x1 = x2) && (decide (2 * x1 < i) && decide ((2 * y1 ≤ j ∧ j ≤ 2 * y2) ∨ (2 * y2 ≤ j ∧ j ≤ 2 * y1)))
def psY (X Y : Int → Int) (i j : Int) (k : Nat) : Bool := crs (X k) (Y k) (X (k + 1)) (Y (k + 1)) i j
theorem ne_i (b : Bool) : (b != false) = b := by cases b <;> rfl
section
variable {rc gc lr rk : Int32} {a cx cy re st dg px py : Nat → Int32}
theorem ir_79 {post : Int32 → Prop} {J : Int32 → Int32 → Prop} {c : Int32} {i j k x : Int} {b z : Bool} (hi : 0 ≤ i ∧ i ≤ 24) (hk : 0 ≤ k ∧ k ≤ 23) (hx : 0 ≤ x ∧ x ≤ 12) (e1 : cx k.toNat = zI x)
    (h : J (bI (b != (z && decide (2 * x < i)))) (zI (k + 1))) : wX_isInsideRing_79 post J (zI i) (zI j) (bI b) (zI k) (bI z) c rc gc lr rk a cx cy re st dg := by
  refine bb_0 (fun ez => nm_r (zi_1 k) ?_) (fun ez => ⟨zv_in k (by omega), ?_⟩)
  · rw [ez, Bool.false_and, ne_i] at h; exact h
  · rw [zi_cl (by omega), e1, zi_dbl]
    rw [ez, Bool.true_and] at h
    refine zb_le i (2 * x) (fun q => nm_r (zi_1 k) ?_) (fun q => ?_)
    · have : decide (2 * x < i) = false := by simp; omega
      rw [this, ne_i] at h; exact h
    · have : decide (2 * x < i) = true := by simp; omega
      rw [this] at h
      refine bb_0 (fun eb => nm_r (zi_1 k) ?_) (fun eb => nm_r (zi_1 k) ?_)
      · rw [eb] at h; exact h
      · rw [eb] at h; exact h
theorem ir_33 {post : Int32 → Prop} {J : Int32 → Int32 → Prop} {c : Int32} {i j k x y k2 y2 : Int} {b : Bool} (hi : 0 ≤ i ∧ i ≤ 24) (hj : 0 ≤ j ∧ j ≤ 24) (hk : 0 ≤ k ∧ k ≤ 23) (hk2 : 0 ≤ k2 ∧ k2 ≤ 23) (hx : 0 ≤ x ∧ x ≤ 12) (hy : 0 ≤ y ∧ y ≤ 12) (hy2 : 0 ≤ y2 ∧ y2 ≤ 12) (e1 : cx k.toNat = zI x) (e2 : cy k.toNat = zI y) (e3 : cy k2.toNat = zI y2)
    (h : J (bI (b != ((decide (2 * y < j) != decide (2 * y2 < j)) && decide (2 * x < i)))) (zI (k + 1))) : wX_isInsideRing_33 post J (zI i) (zI j) (bI b) (zI k) (zI k2) c rc gc lr rk a cx cy re st dg := by
  have s71 : ∀ p q : Bool, p = decide (2 * y < j) → q = decide (2 * y2 < j) → wX_isInsideRing_71 post J (zI i) (zI j) (bI b) (zI k) (bI q) (bI p) c rc gc lr rk a cx cy re st dg := by
    intro p q ep eq
    rw [← ep, ← eq] at h
    refine bb_e (fun e => ir_79 (z := false) hi hk hx e1 ?_) (fun e => ir_79 (z := true) hi hk hx e1 ?_)
    · rw [e] at h; simpa using h
    · have : (p != q) = true := by cases p <;> cases q <;> first | exact absurd rfl e | rfl
      rw [this] at h; exact h
  have s53 : ∀ p : Bool, p = decide (2 * y < j) → wX_isInsideRing_53 post J (zI i) (zI j) (bI b) (zI k) (zI k2) (bI p) c rc gc lr rk a cx cy re st dg := by
    intro p ep
    unfold wX_isInsideRing_53
    rw [zi_cl (by omega), e3, zi_dbl]
    refine ⟨zv_in k2 (by omega), zb_le j (2 * y2) (fun q => s71 p false ep ?_) (fun q => s71 p true ep ?_)⟩
    · simp; omega
    · simp; omega
  unfold wX_isInsideRing_33
  rw [zi_cl (by omega), e2, zi_dbl]
  refine ⟨zv_in k (by omega), zb_le j (2 * y) (fun q => s53 false ?_) (fun q => s53 true ?_)⟩
  · simp; omega
  · simp; omega
theorem ir_5 {post : Int32 → Prop} {n i j : Int} {X Y : Int → Int} (T : Pth n X Y cx cy px py) (hi : 0 ≤ i ∧ i ≤ 24) (hj : 0 ≤ j ∧ j ≤ 24) (f : post (bI (fo (psX n X Y i j) n.toNat))) :
    ∀ (N : Nat) (k : Int), 0 ≤ k → k ≤ n → (n - k).toNat < N → wX_isInsideRing_5 post (zI i) (zI j) (zI n) rc gc lr rk a cx cy re st dg N (bI (fo (psX n X Y i j) k.toNat)) (zI k) := by
  have hn := T.1
  intro N
  induction N with
  | zero => intro k h0 h1; omega
  | succ N ih =>
    intro k h0 h1 h2
    refine zb_le n k (fun h => ?_) (fun h => ?_)
    · have e : k = n := by omega
      subst e; exact ⟨bi_n _, f⟩
    · have key : ∀ z : Int, z = nxr n k → wX_isInsideRing_33 post (wX_isInsideRing_5 post (zI i) (zI j) (zI n) rc gc lr rk a cx cy re st dg N) (zI i) (zI j) (bI (fo (psX n X Y i j) k.toNat)) (zI k) (zI z) (zI n) rc gc lr rk a cx cy re st dg := by
        intro z ez
        have hz : 0 ≤ z ∧ z < n := by rw [ez]; unfold nxr; split <;> omega
        obtain ⟨b1, b2, b3, b4, -, -⟩ := T.2.1 k h0 h
        obtain ⟨d1, d2, d3, d4, -, -⟩ := T.2.1 z hz.1 hz.2
        refine ir_33 hi hj (by omega) (by omega) b1 b2 d2 b3 b4 d4 ?_
        have e := ih (k + 1) (by omega) (by omega) (by omega)
        have e2 : (k + 1).toNat = k.toNat + 1 := by omega
        have e3 : ((k.toNat : Nat) : Int) = k := by omega
        rw [e2] at e
        simp only [fo, psX] at e
        rw [e3, ← ez] at e
        exact e
      refine zb_le n (k + 1) (fun h3 => key 0 ?_) (fun h3 => ?_) rfl (zi_1 k)
      · unfold nxr; rw [if_neg (by omega)]
      · rw [zi_1]
        refine key (k + 1) ?_
        unfold nxr; rw [if_pos (by omega)]
def FX (n : Int) (X Y : Int → Int) (i j : Int) : Bool := decide (Gd i j ∧ i % 2 = 1 ∧ j % 2 = 1) && fo (psX n X Y i j) n.toNat
theorem fx_s {n : Int} {X Y : Int → Int} : Sup (FX n X Y) := by
  intro i j h
  unfold FX at h
  rw [Bool.and_eq_true, decide_eq_true_eq] at h
  exact h.1.1
theorem fa_i {post : SX → Prop} {J : Int32 → Int32 → Int32 → Int32 → Int32 → Int32 → (Nat → Int32) → (Nat → Int32) → (Nat → Int32) → (Nat → Int32) → (Nat → Int32) → (Nat → Int32) → Prop} {n j : Int} {X Y : Int → Int} {S : Int → Int → Int → Bool} (T : Pth n X Y cx cy px py) (hj : 0 ≤ j ∧ j ≤ 24)
    (hJ : ∀ a', XP a' (swp S 6 (FX n X Y) 0 (j + 1)) → J (zI (j + 1)) (zI n) rc gc lr rk a' cx cy re st dg) :
    ∀ (N : Nat) (i : Int) (a : Nat → Int32), 0 ≤ i → i ≤ 25 → (25 - i).toNat < N → XP a (swp S 6 (FX n X Y) i j) → wX_setFillingAside_10 post J (zI j) N (zI i) (zI n) rc gc lr rk a cx cy re st dg := by
  intro N
  induction N with
  | zero => intro i a h0 h1; omega
  | succ N ih =>
    intro i a h0 h1 h2 P
    refine zb_le 25 i (fun h => ?_) (fun h => ?_)
    · have e : i = 25 := by omega
      subst e; exact nm_r (zi_1 j) (hJ a (px_c P sw_r))
    · have w39 : ∀ b : Bool, b = FX n X Y i j → wX_setFillingAside_39 post J (wX_setFillingAside_10 post J (zI j) N) (zI j) (zI i) (bI b) (zI n) rc gc lr rk a cx cy re st dg := by
        intro b eb
        unfold wX_setFillingAside_39
        refine xp_write P 6 i j b (by omega) (by omega) (fun a' P' => nm_r (zi_1 i) (ih (i + 1) a' (by omega) (by omega) (by omega) ?_))
        rw [eb] at P'
        exact px_c P' (sw_w (by omega))
      refine xp_dim i j (by omega) (by omega) (zb_eq (i % 2 + j % 2) 2 (fun e => ?_) (fun e => ?_))
      · have eF : FX n X Y i j = fo (psX n X Y i j) n.toNat := by
          unfold FX
          have : decide (Gd i j ∧ i % 2 = 1 ∧ j % 2 = 1) = true := by rw [decide_eq_true_eq]; omega
          rw [this, Bool.true_and]
        unfold wpX_isInsideRing
        refine ⟨26, ir_5 T (by omega) (by omega) ?_ 26 0 (by omega) T.1.1 (by have := T.1; omega)⟩
        refine bb_0 (fun e => w39 false ?_) (fun e => w39 true ?_)
        · rw [eF, e]
        · rw [eF, e]
      · refine w39 false ?_
        unfold FX
        have : decide (Gd i j ∧ i % 2 = 1 ∧ j % 2 = 1) = false := by rw [decide_eq_false_iff_not]; omega
        rw [this, Bool.false_and]
theorem fa_o {post : SX → Prop} {n : Int} {X Y : Int → Int} {S : Int → Int → Int → Bool} (T : Pth n X Y cx cy px py)
    (f : ∀ a', XP a' (setl S 6 (clos (FX n X Y))) → post (zI n, rc, gc, lr, rk, a', cx, cy, re, st, dg)) (HH : HS S) :
    ∀ (N : Nat) (j : Int) (a : Nat → Int32), 0 ≤ j → j ≤ 25 → (25 - j).toNat < N → XP a (swp S 6 (FX n X Y) 0 j) → wX_setFillingAside_2 post N (zI j) (zI n) rc gc lr rk a cx cy re st dg := by
  intro N
  induction N with
  | zero => intro i a h0 h1; omega
  | succ N ih =>
    intro j a h0 h1 h2 P
    refine zb_le 25 j (fun h => ?_) (fun h => ⟨26, fa_i T (by omega) (fun a' P' => ih (j + 1) a' (by omega) (by omega) (by omega) P') 26 0 a (by omega) (by omega) (by omega) P⟩)
    have e : j = 25 := by omega
    subst e
    have P' : XP a (setl S 6 (FX n X Y)) := by
      refine px_c P (fun s i j => ?_)
      rw [sw_e]
      unfold put setl
      by_cases e : s = 6
      · rw [if_pos e]
        by_cases gd : Gd i j
        · rw [if_pos ⟨e, gd⟩]
        · rw [if_neg (fun h => gd h.2)]
          have n1 : S s i j = false := by
            cases z : S s i j
            · rfl
            · exact absurd (HH _ _ _ z) gd
          have n2 : FX n X Y i j = false := by
            cases z : FX n X Y i j
            · rfl
            · exact absurd (fx_s _ _ z) gd
          rw [n1, n2]
      · rw [if_neg (fun h => e h.1), if_neg e]
    refine xp_close P' 6 (by omega) (fun a' P2 => f a' (px_c P2 (fun s i j => ?_)))
    unfold setl
    by_cases e : s = 6
    · rw [if_pos e, if_pos e, if_pos rfl]
    · rw [if_neg e, if_neg e, if_neg e]
theorem xp_fa {post : SX → Prop} {n : Int} {X Y : Int → Int} {S : Int → Int → Int → Bool} (P : XP a S) (T : Pth n X Y cx cy px py)
    (f : ∀ a', XP a' (setl S 6 (clos (FX n X Y))) → post (zI n, rc, gc, lr, rk, a', cx, cy, re, st, dg)) : wpX_setFillingAside post (zI n, rc, gc, lr, rk, a, cx, cy, re, st, dg) := by
  unfold wpX_setFillingAside
  exact ⟨26, fa_o T f P.2 26 0 a (by omega) (by omega) (by omega) (px_c P sw_0)⟩
theorem xp_ring {post : Int32 → Prop} {n : Int} {X Y : Int → Int} (T : Pth n X Y cx cy px py)
    (f : 1 ≤ n → X (n - 1) = X 0 ∨ Y (n - 1) = Y 0 → post 1) (g : ¬ (1 ≤ n ∧ (X (n - 1) = X 0 ∨ Y (n - 1) = Y 0)) → post 0) : wpX_hasRing post (zI n, rc, gc, lr, rk, a, cx, cy, re, st, dg) := by
  have hn := T.1
  unfold wpX_hasRing
  refine zb_le n 0 (fun h => g (by omega)) (fun h => ?_)
  obtain ⟨b1, b2, b3, b4, -, -⟩ := T.2.1 (n - 1) (by omega) (by omega)
  obtain ⟨d1, d2, d3, d4, -, -⟩ := T.2.1 0 (by omega) (by omega)
  have d3' : cx 0 = zI (X 0) := d3
  have d4' : cy 0 = zI (Y 0) := d4
  have vi : vp_in (zI n - 1) 24 := zv_in (n - 1) (by omega) (zi_s1 n)
  have ec : (zI n - 1).toNatClampNeg = (n - 1).toNat := zv_cl (n - 1) (zi_s1 n)
  rw [ec, b3, b4, d3', d4']
  refine ⟨vi, zb_eq (X 0) (X (n - 1)) (fun e => f (by omega) (Or.inl e.symm)) (fun e => ⟨vi, zb_eq (Y 0) (Y (n - 1)) (fun e2 => f (by omega) (Or.inr e2.symm)) (fun e2 => g (by omega))⟩)⟩
end
end
section
/-! Y's fill -/
def FY (X Y : Int → Int) (t : Int) (i j : Int) : Bool := decide (Gd i j ∧ i % 2 = 1 ∧ j % 2 = 1) && fo (psY X Y i j) t.toNat
theorem fy_s {X Y : Int → Int} {t : Int} : Sup (FY X Y t) := by
  intro i j h
  unfold FY at h
  rw [Bool.and_eq_true, decide_eq_true_eq] at h
  exact h.1.1
/-- the steps that Y passes over: its corners up to t, t included -/
def PtY (t : Int) (X Y : Int → Int) (px py : Nat → Int32) : Prop := (0 ≤ t ∧ t ≤ 24) ∧ ∀ k, 0 ≤ k → k ≤ t → (0 ≤ X k ∧ X k ≤ 12) ∧ (0 ≤ Y k ∧ Y k ≤ 12) ∧ px k.toNat = zI (X k) ∧ py k.toNat = zI (Y k)
section
variable {c : Int32} {fi ly se px py la : Nat → Int32} {S : Int → Int → Int → Bool}
theorem yp_6 {ma : Nat → Int32} {post : Int32 → Prop} {i j t : Int} {X Y : Int → Int} (T : PtY t X Y px py) (hi : 0 ≤ i ∧ i ≤ 24) (hj : 0 ≤ j ∧ j ≤ 24) (f : post (zI (cnt (psY X Y i j) t.toNat))) :
    ∀ (N : Nat) (k : Int), 0 ≤ k → k ≤ t → (t - k).toNat < N → wY_passes_6 post (zI i) (zI j) (zI t) c ly fi ma se px py la N (zI (cnt (psY X Y i j) k.toNat)) (zI k) := by
  have ht := T.1
  intro N
  induction N with
  | zero => intro k h0 h1; omega
  | succ N ih =>
    intro k h0 h1 h2
    refine zb_le t k (fun h => ?_) (fun h => ?_)
    · have e : k = t := by omega
      subst e; exact f
    · obtain ⟨b1, b2, b3, b4⟩ := T.2 k h0 (by omega)
      obtain ⟨d1, d2, d3, d4⟩ := T.2 (k + 1) (by omega) (by omega)
      have c1 : (zI k).toNatClampNeg = k.toNat := zi_cl (by omega)
      have c2 : (zI k + 1).toNatClampNeg = (k + 1).toNat := zv_cl (k + 1) (zi_1 k)
      have v1 : vp_in (zI k) 25 := zv_in k (by omega)
      have v2 : vp_in (zI k + 1) 25 := zv_in (k + 1) (by omega) (zi_1 k)
      have e2 : (k + 1).toNat = k.toNat + 1 := by omega
      have e3 : ((k.toNat : Nat) : Int) = k := by omega
      have w := ih (k + 1) (by omega) (by omega) (by omega)
      rw [e2] at w
      simp only [cnt] at w
      have no : psY X Y i j k.toNat = false → wY_passes_6 post (zI i) (zI j) (zI t) c ly fi ma se px py la N (zI (cnt (psY X Y i j) k.toNat)) (zI (k + 1)) := by
        intro hf
        rw [hf] at w
        simpa using w
      have ye : psY X Y i j k.toNat = true → wY_passes_6 post (zI i) (zI j) (zI t) c ly fi ma se px py la N (zI (cnt (psY X Y i j) k.toNat + 1)) (zI (k + 1)) := by
        intro hf
        rw [hf] at w
        simpa using w
      have psd : psY X Y i j k.toNat = (decide (X k = X (k + 1)) && (decide (2 * X k < i) && decide ((2 * Y k ≤ j ∧ j ≤ 2 * Y (k + 1)) ∨ (2 * Y (k + 1) ≤ j ∧ j ≤ 2 * Y k)))) := by
        unfold psY; rw [e3]; rfl
      rw [c1, c2, b3, d3, zi_dbl]
      refine ⟨v1, v2, zb_eq (X k) (X (k + 1)) (fun q1 => ⟨v1, zb_le i (2 * X k) (fun q2 => nm_r (zi_1 k) (no ?_)) (fun q2 => ⟨v1, ?_⟩)⟩) (fun q1 => nm_r (zi_1 k) (no ?_))⟩
      · have : decide (2 * X k < i) = false := by rw [decide_eq_false_iff_not]; omega
        rw [psd, this]; simp
      · have t1 : decide (X k = X (k + 1)) = true := by rw [decide_eq_true_eq]; exact q1
        have t2 : decide (2 * X k < i) = true := by rw [decide_eq_true_eq]; exact q2
        refine yp_step (by omega) (by omega) (by omega) b1 b2 d1 d2 b3 b4 d3 d4 (fun hr => b1_f (nm_r (zi_1 _) (nm_r (zi_1 k) (ye ?_)))) (fun hr => b0_t (nm_r (zi_1 k) (no ?_)))
        · rw [psd, t1, t2]
          have : decide ((2 * Y k ≤ j ∧ j ≤ 2 * Y (k + 1)) ∨ (2 * Y (k + 1) ≤ j ∧ j ≤ 2 * Y k)) = true := by rw [decide_eq_true_eq]; exact hr.2
          rw [this]; rfl
        · rw [psd, t1, t2]
          have : decide ((2 * Y k ≤ j ∧ j ≤ 2 * Y (k + 1)) ∨ (2 * Y (k + 1) ≤ j ∧ j ≤ 2 * Y k)) = false := by
            rw [decide_eq_false_iff_not]
            exact fun h => hr ⟨Or.inl (by omega), h⟩
          rw [this]; rfl
      · have : decide (X k = X (k + 1)) = false := by rw [decide_eq_false_iff_not]; exact q1
        rw [psd, this, Bool.false_and]
theorem yf_253 {post : Int32 → SY → Prop} {op l : Int} {F : Int → Int → Bool} (ho : 0 ≤ op ∧ op ≤ 3) (hl : 0 ≤ l ∧ l ≤ 5) (H : HS S) (HF : Sup F) (Q : YP ly S) (A : A1 fi F)
    (f : ∀ ly' ma' se', YP ly' (setl S l (clos (fun i j => opB op (S l i j) (F i j)))) → post 1 (c, ly', fi, ma', se', px, py, la)) :
    ∀ (N : Nat) (q : Int) (ma se : Nat → Int32), 0 ≤ q → q ≤ 625 → (625 - q).toNat < N → (∀ i j, Gd i j → 25 * i + j < q → ma (25 * i + j).toNat = bI (opB op (S l i j) (F i j))) → wY_fill_253 post (zI l) (zI op) c N (zI q) ly fi ma se px py la := by
  intro N
  induction N with
  | zero => intro q ma h0 h1; omega
  | succ N ih =>
    intro q ma se h0 h1 h2 hM
    have e1 := zi_in2 l q
    refine zb_le 625 q (fun h => ?_) (fun h => ⟨zv_in (625 * l + q) (by omega) e1, zv_in q (by omega), ?_⟩)
    · refine yp_close (g := fun i j => opB op (S l i j) (F i j)) (op_s (fun i j => H l i j) HF) (fun i j gd => hM i j gd (by omega)) (fun ma' se' A' => ?_)
      exact yp_keep Q l hl A' (fun ly' Q' => f ly' ma' se' Q')
    · have gq : Gd (q / 25) (q % 25) := by omega
      have ix : 625 * l + q = 625 * l + 25 * (q / 25) + q % 25 := by omega
      have ix2 : q = 25 * (q / 25) + q % 25 := by omega
      have r1 : ly (625 * l + q).toNat = bI (S l (q / 25) (q % 25)) := by rw [ix]; exact Q l _ _ hl.1 hl.2 gq
      have r2 : fi q.toNat = bI (F (q / 25) (q % 25)) := by have := A _ _ gq; rw [← ix2] at this; exact this
      rw [zv_cl _ e1, zi_cl (by omega), r1, r2]
      refine yp_mem ho _ _ ⟨zv_in q (by omega), nm_e (nm_r (zi_1 q) ?_)⟩
      refine ih (q + 1) _ se (by omega) (by omega) (by omega) (fun i j gd hlt => ?_)
      rw [bi_v]
      unfold upd
      by_cases e : 25 * i + j = q
      · have ei : i = q / 25 := by omega
        have ej : j = q % 25 := by omega
        rw [if_pos (by omega), ei, ej]
      · rw [if_neg (by omega)]; exact hM i j gd (by omega)
theorem yf_222 {post : Int32 → SY → Prop} {ma : Nat → Int32} {op l : Int} {F : Int → Int → Bool} (ho : 0 ≤ op ∧ op ≤ 3) (hl : 0 ≤ l ∧ l ≤ 5) (H : HS S) (HF : Sup F) (Q : YP ly S) (A : A1 ma F)
    (f : ∀ ly' fi' ma' se', YP ly' (setl S l (clos (fun i j => opB op (S l i j) (F i j)))) → post 1 (c, ly', fi', ma', se', px, py, la)) :
    ∀ (N : Nat) (q : Int) (fi : Nat → Int32), 0 ≤ q → q ≤ 625 → (625 - q).toNat < N → (∀ i j, Gd i j → 25 * i + j < q → fi (25 * i + j).toNat = bI (F i j)) → wY_fill_222 post (zI l) (zI op) c N (zI q) ly fi ma se px py la := by
  intro N
  induction N with
  | zero => intro q ma h0 h1; omega
  | succ N ih =>
    intro q fi h0 h1 h2 hM
    refine zb_le 625 q (fun h => ⟨626, ?_⟩) (fun h => ⟨zv_in q (by omega), zv_in q (by omega), nm_e (nm_r (zi_1 q) ?_)⟩)
    · exact yf_253 (F := F) ho hl H HF Q (fun i j gd => hM i j gd (by omega)) (fun ly' ma' se' Q' => f ly' fi ma' se' Q') 626 0 ma se (by omega) (by omega) (by omega) (fun i j gd hlt => absurd hlt (by omega))
    · refine ih (q + 1) _ (by omega) (by omega) (by omega) (fun i j gd hlt => ?_)
      rw [zi_cl (by omega)]
      unfold upd
      by_cases e : 25 * i + j = q
      · rw [if_pos (by omega), ← e, A i j gd, bi_v]
      · rw [if_neg (by omega)]; exact hM i j gd (by omega)
theorem yf_143 {post : Int32 → SY → Prop} {op l t : Int} {X Y : Int → Int} (ho : 0 ≤ op ∧ op ≤ 3) (hl : 0 ≤ l ∧ l ≤ 5) (H : HS S) (Q : YP ly S) (T : PtY t X Y px py)
    (f : ∀ ly' fi' ma' se', YP ly' (setl S l (clos (fun i j => opB op (S l i j) (clos (FY X Y t) i j)))) → post 1 (c, ly', fi', ma', se', px, py, la)) :
    ∀ (N : Nat) (q : Int) (ma : Nat → Int32), 0 ≤ q → q ≤ 625 → (625 - q).toNat < N → (∀ i j, Gd i j → 25 * i + j < q → ma (25 * i + j).toNat = bI (FY X Y t i j)) → wY_fill_143 post (zI l) (zI op) (zI t) c N (zI q) ly fi ma se px py la := by
  intro N
  induction N with
  | zero => intro q ma h0 h1; omega
  | succ N ih =>
    intro q ma h0 h1 h2 hM
    refine zb_le 625 q (fun h => ?_) (fun h => ⟨by decide, nm_r (zi_d25 (by omega)) ⟨by decide, nm_r (zi_r25 (by omega)) ?_⟩⟩)
    · refine yp_close (g := FY X Y t) fy_s (fun i j gd => hM i j gd (by omega)) (fun ma' se' A' => ⟨626, ?_⟩)
      exact yf_222 ho hl H (cJ_s (cI_s fy_s)) Q A' f 626 0 fi (by omega) (by omega) (by omega) (fun i j gd hlt => absurd hlt (by omega))
    · rw [zi_r2 (by omega), zi_r2 (by omega)]
      have gq : Gd (q / 25) (q % 25) := by omega
      have st : ∀ b : Bool, b = FY X Y t (q / 25) (q % 25) → wY_fill_143 post (zI l) (zI op) (zI t) c N (zI (q + 1)) ly fi (upd ma (zI q).toNatClampNeg (vp_nar .boolean (bI b))) se px py la := by
        intro b eb
        refine ih (q + 1) _ (by omega) (by omega) (by omega) (fun i j gd hlt => ?_)
        rw [zi_cl (by omega), bi_v]
        unfold upd
        by_cases e : 25 * i + j = q
        · have ei : i = q / 25 := by omega
          have ej : j = q % 25 := by omega
          rw [if_pos (by omega), ei, ej, eb]
        · rw [if_neg (by omega)]; exact hM i j gd (by omega)
      have v1 : vp_in (zI q) 625 := zv_in q (by omega)
      refine ⟨by decide, zb_eq (q / 25 % 2) 1 (fun o1 => ⟨by decide, zb_eq (q % 25 % 2) 1 (fun o2 => ?_) (fun o2 => ⟨v1, nm_e (nm_r (zi_1 q) (st false ?_))⟩)⟩) (fun o1 => ⟨v1, nm_e (nm_r (zi_1 q) (st false ?_))⟩)⟩
      · have eF : FY X Y t (q / 25) (q % 25) = fo (psY X Y (q / 25) (q % 25)) t.toNat := by
          unfold FY
          have : decide (Gd (q / 25) (q % 25) ∧ q / 25 % 2 = 1 ∧ q % 25 % 2 = 1) = true := by rw [decide_eq_true_eq]; exact ⟨gq, o1, o2⟩
          rw [this, Bool.true_and]
        have ht := T.1
        have hc : cnt (psY X Y (q / 25) (q % 25)) t.toNat ≤ t.toNat := cn_le _ _
        unfold wpY_passes
        refine ⟨26, yp_6 T (by omega) (by omega) ⟨by decide, ?_⟩ 26 0 (by omega) ht.1 (by omega)⟩
        rw [zi_r2 (by omega)]
        refine zb_eq (((cnt (psY X Y (q / 25) (q % 25)) t.toNat : Nat) : Int) % 2) 1 (fun e => ⟨v1, nm_e (nm_r (zi_1 q) (st true ?_))⟩) (fun e => ⟨v1, nm_e (nm_r (zi_1 q) (st false ?_))⟩)
        · rw [eF, fo_c]; symm; rw [decide_eq_true_eq]; omega
        · rw [eF, fo_c]; symm; rw [decide_eq_false_iff_not]; omega
      · unfold FY
        have : decide (Gd (q / 25) (q % 25) ∧ q / 25 % 2 = 1 ∧ q % 25 % 2 = 1) = false := by rw [decide_eq_false_iff_not]; exact fun h => o2 h.2.2
        rw [this, Bool.false_and]
      · unfold FY
        have : decide (Gd (q / 25) (q % 25) ∧ q / 25 % 2 = 1 ∧ q % 25 % 2 = 1) = false := by rw [decide_eq_false_iff_not]; exact fun h => o1 h.2.1
        rw [this, Bool.false_and]
end
theorem fo_e {p q : Nat → Bool} : ∀ {m : Nat}, (∀ k, k < m → p k = q k) → fo p m = fo q m
  | 0, _ => rfl
  | m + 1, h => by simp only [fo]; rw [fo_e (m := m) (fun k hk => h k (by omega)), h m (by omega)]
/-- one step: X passes where Y does -/
theorem ps_e {x1 y1 x2 y2 i j : Int} (hj : j % 2 = 1) (h : x1 = x2 ∨ y1 = y2) :
    ((decide (2 * y1 < j) != decide (2 * y2 < j)) && decide (2 * x1 < i)) = crs x1 y1 x2 y2 i j := by
  unfold crs
  by_cases e : x1 = x2
  · have t1 : decide (x1 = x2) = true := by rw [decide_eq_true_eq]; exact e
    rw [t1, Bool.true_and, Bool.and_comm]
    congr 1
    by_cases a : 2 * y1 < j <;> by_cases b : 2 * y2 < j
    · have t2 : decide ((2 * y1 ≤ j ∧ j ≤ 2 * y2) ∨ (2 * y2 ≤ j ∧ j ≤ 2 * y1)) = false := by rw [decide_eq_false_iff_not]; omega
      simp [a, b, t2]
    · have t2 : decide ((2 * y1 ≤ j ∧ j ≤ 2 * y2) ∨ (2 * y2 ≤ j ∧ j ≤ 2 * y1)) = true := by rw [decide_eq_true_eq]; omega
      rw [t2]; simp [a, b]
    · have t2 : decide ((2 * y1 ≤ j ∧ j ≤ 2 * y2) ∨ (2 * y2 ≤ j ∧ j ≤ 2 * y1)) = true := by rw [decide_eq_true_eq]; omega
      rw [t2]; simp [a, b]
    · have t2 : decide ((2 * y1 ≤ j ∧ j ≤ 2 * y2) ∨ (2 * y2 ≤ j ∧ j ≤ 2 * y1)) = false := by rw [decide_eq_false_iff_not]; omega
      rw [t2]; simp [a, b]
  · have t1 : decide (x1 = x2) = false := by rw [decide_eq_false_iff_not]; exact e
    have ey : y1 = y2 := by omega
    rw [t1, ey, Bool.false_and]; simp
/-- the same filling: the path ends where it begins -/
theorem ff_1 {n : Int} {X Y : Int → Int} (hn : 1 ≤ n) (A : ∀ k, 0 ≤ k → k + 1 < n → X k = X (k + 1) ∨ Y k = Y (k + 1)) (ex : X (n - 1) = X 0) (ey : Y (n - 1) = Y 0) : FX n X Y = FY X Y (n - 1) := by
  funext i j
  unfold FX FY
  by_cases h : Gd i j ∧ i % 2 = 1 ∧ j % 2 = 1
  · have e : n.toNat = (n - 1).toNat + 1 := by omega
    rw [e]
    simp only [fo]
    have e2 : psX n X Y i j (n - 1).toNat = false := by
      have e3 : (((n - 1).toNat : Nat) : Int) = n - 1 := by omega
      unfold psX nxr
      rw [e3, if_neg (by omega), ey]; simp
    rw [e2, ne_i]
    congr 1
    refine fo_e (fun k hk => ?_)
    unfold psX psY nxr
    rw [if_pos (by omega)]
    exact ps_e h.2.2 (A k (by omega) (by omega))
  · have : decide (Gd i j ∧ i % 2 = 1 ∧ j % 2 = 1) = false := by rw [decide_eq_false_iff_not]; exact h
    rw [this, Bool.false_and, Bool.false_and]
/-- the same filling: one step more leads back -/
theorem ff_2 {n : Int} {X Y : Int → Int} (hn : 1 ≤ n) (A : ∀ k, 0 ≤ k → k + 1 < n → X k = X (k + 1) ∨ Y k = Y (k + 1)) (ex : X (n - 1) = X 0 ∨ Y (n - 1) = Y 0) : FX n X Y = FY (fun k => if k = n then X 0 else X k) (fun k => if k = n then Y 0 else Y k) n := by
  funext i j
  unfold FX FY
  by_cases h : Gd i j ∧ i % 2 = 1 ∧ j % 2 = 1
  · congr 1
    refine fo_e (fun k hk => ?_)
    unfold psX psY nxr
    dsimp only
    have q1 : (if (k : Int) = n then X 0 else X k) = X k := if_neg (by omega)
    have q2 : (if (k : Int) = n then Y 0 else Y k) = Y k := if_neg (by omega)
    rw [q1, q2]
    by_cases e : (k : Int) + 1 < n
    · have q3 : (if (k : Int) + 1 = n then X 0 else X (k + 1)) = X (k + 1) := if_neg (by omega)
      have q4 : (if (k : Int) + 1 = n then Y 0 else Y (k + 1)) = Y (k + 1) := if_neg (by omega)
      rw [q3, q4, if_pos e]
      exact ps_e h.2.2 (A k (by omega) (by omega))
    · have e2 : (k : Int) = n - 1 := by omega
      have q3 : (if (k : Int) + 1 = n then X 0 else X (k + 1)) = X 0 := if_pos (by omega)
      have q4 : (if (k : Int) + 1 = n then Y 0 else Y (k + 1)) = Y 0 := if_pos (by omega)
      rw [q3, q4, if_neg e, e2]
      exact ps_e h.2.2 ex
  · have : decide (Gd i j ∧ i % 2 = 1 ∧ j % 2 = 1) = false := by rw [decide_eq_false_iff_not]; exact h
    rw [this, Bool.false_and, Bool.false_and]
theorem i_vc_fill {k : Nat} {u : SX} {v : SY} (I : i_Rel k u v) (hk : k + 5 ≤ 2560) (v1 : Int32) (v2 : Int32) : wpX_fill (fun r u' => wpY_fill (fun r' v' => r' = r ∧ i_Rel (k + 5) u' v') v v1 v2) u v1 v2 := by
  obtain ⟨c, rc, gc, lr, rk, a, cx, cy, re, st, dg⟩ := u
  obtain ⟨c', ly, fi, ma, se, px, py, la⟩ := v
  obtain ⟨S, n, X, Y, P, Q, C, T, rfl, rfl⟩ := I
  obtain ⟨l, hl, rfl⟩ := zi_ex v1
  obtain ⟨op, ho, rfl⟩ := zi_ex v2
  have hn := T.1
  have R0 : i_Rel (k + 5) (zI n, rc, gc, lr, rk, a, cx, cy, re, st, dg) (zI n, ly, fi, ma, se, px, py, la) := i_mk P Q C T
  have Yc : ∀ post : Int32 → SY → Prop, ((0 ≤ l ∧ l ≤ 5) ∧ (0 ≤ op ∧ op ≤ 3) ∧ 1 ≤ n ∧ (X (n - 1) = X 0 ∨ Y (n - 1) = Y 0) → ∀ ly' fi' ma' se' px' py', Pth n X Y cx cy px' py' → YP ly' (setl S l (clos (fun i j => opB op (S l i j) (clos (FX n X Y) i j)))) → post 1 (zI n, ly', fi', ma', se', px', py', la)) → (¬ ((0 ≤ l ∧ l ≤ 5) ∧ (0 ≤ op ∧ op ≤ 3) ∧ 1 ≤ n ∧ (X (n - 1) = X 0 ∨ Y (n - 1) = Y 0)) → post 0 (zI n, ly, fi, ma, se, px, py, la)) → wpY_fill post (zI n, ly, fi, ma, se, px, py, la) (zI l) (zI op) := by
    intro post f g
    unfold wpY_fill
    refine yg_layer l hl (fun h1 => b1_f ?_) (fun h1 => b0_t (g (by omega)))
    refine zb_lt op 0 (fun h => g (by omega)) (fun h0 => zb_lt 3 op (fun h => g (by omega)) (fun h3 => zb_eq n 0 (fun h => g (by omega)) (fun h4 => ?_)))
    obtain ⟨b1, b2, -, -, b3, b4⟩ := T.2.1 (n - 1) (by omega) (by omega)
    obtain ⟨d1, d2, -, -, d3, d4⟩ := T.2.1 0 (by omega) (by omega)
    have d3' : px 0 = zI (X 0) := d3
    have d4' : py 0 = zI (Y 0) := d4
    have vi : vp_in (zI n - 1) 25 := zv_in (n - 1) (by omega) (zi_s1 n)
    have ec : (zI n - 1).toNatClampNeg = (n - 1).toNat := zv_cl (n - 1) (zi_s1 n)
    rw [ec, b3, b4, d3', d4']
    have k80 : ¬ (X (n - 1) = X 0 ∧ Y (n - 1) = Y 0) → wY_fill_80 post (zI l) (zI op) (zI (X (n - 1))) (zI (Y (n - 1))) (zI n) ly fi ma se px py la := by
      intro hne
      unfold wY_fill_80
      rw [d3', d4']
      refine yp_apart _ _ _ _ (by omega) (by omega) (by omega) (by omega) (fun hr => b1_f ?_) (fun hr => b0_t (g (by omega)))
      refine ⟨zv_in n (by omega), nm_e ⟨zv_in n (by omega), nm_e ⟨626, ?_⟩⟩⟩
      rw [zi_cl (by omega)]
      have T2 : PtY n (fun k => if k = n then X 0 else X k) (fun k => if k = n then Y 0 else Y k) (upd px n.toNat (zI (X 0))) (upd py n.toNat (zI (Y 0))) := by
        refine ⟨by omega, fun q q0 q1 => ?_⟩
        unfold upd
        by_cases e : q = n
        · subst e
          simp only [if_pos]
          exact ⟨d1, d2, trivial, trivial⟩
        · have e2 : q.toNat ≠ n.toNat := by omega
          simp only [if_neg e, if_neg e2]
          obtain ⟨z1, z2, -, -, z3, z4⟩ := T.2.1 q q0 (by omega)
          exact ⟨z1, z2, z3, z4⟩
      refine yf_143 (by omega) h1 P.2 Q T2 (fun ly' fi' ma' se' Q' => f ⟨h1, by omega, by omega, by omega⟩ ly' fi' ma' se' _ _ ?_ ?_) 626 0 ma (by omega) (by omega) (by omega) (fun i j gd hlt => absurd hlt (by omega))
      · refine ⟨hn, fun q q0 q1 => ?_, T.2.2⟩
        unfold upd
        rw [if_neg (by omega), if_neg (by omega)]
        exact T.2.1 q q0 q1
      · rw [ff_2 (by omega) T.2.2 (by omega)]; exact Q'
    refine ⟨vi, nm_e ⟨vi, nm_e (nm_r (zi_s1 n) (zb_eq (X (n - 1)) (X 0) (fun q1 => zb_eq (Y (n - 1)) (Y 0) (fun q2 => ⟨626, ?_⟩) (fun q2 => k80 (by omega))) (fun q1 => k80 (by omega))))⟩⟩
    have T2 : PtY (n - 1) X Y px py := by
      refine ⟨by omega, fun q q0 q1 => ?_⟩
      obtain ⟨z1, z2, -, -, z3, z4⟩ := T.2.1 q q0 (by omega)
      exact ⟨z1, z2, z3, z4⟩
    refine yf_143 (by omega) h1 P.2 Q T2 (fun ly' fi' ma' se' Q' => f ⟨h1, by omega, by omega, by omega⟩ ly' fi' ma' se' px py T ?_) 626 0 ma (by omega) (by omega) (by omega) (fun i j gd hlt => absurd hlt (by omega))
    rw [ff_1 (by omega) T.2.2 q1 q2]; exact Q'
  unfold wpX_fill
  refine xg_layer l hl (fun h1 => b1_f ?_) (fun h1 => b0_t (Yc _ (fun h => absurd h.1 h1) (fun _ => ⟨rfl, R0⟩)))
  refine xg_op op ho (fun h2 => b1_f ?_) (fun h2 => b0_t (Yc _ (fun h => absurd h.2.1 h2) (fun _ => ⟨rfl, R0⟩)))
  refine xp_ring T (fun h3 h4 => b1_f ?_) (fun h3 => b0_t (Yc _ (fun h => absurd h.2.2 h3) (fun _ => ⟨rfl, R0⟩)))
  refine xp_fa P T (fun a1 P1 => ?_)
  refine xp_mix P1 (l := l) (m := 6) (t := l) h2 (by omega) (by omega) (by omega) (fun a2 P2 => ?_)
  refine Yc _ (fun _ ly' fi' ma' se' px' py' T' Q' => ⟨rfl, ?_⟩) (fun h => absurd ⟨h1, h2, h3, h4⟩ h)
  have e6 : setl S 6 (clos (FX n X Y)) 6 = clos (FX n X Y) := by unfold setl; rw [if_pos rfl]
  have el : ∀ s : Int, s ≤ 5 → setl S 6 (clos (FX n X Y)) s = S s := by intro s hs; unfold setl; rw [if_neg (by omega)]
  rw [e6, el l (by omega)] at P2
  refine i_mk P2 (fun l' i j l0 l5 gd => ?_) (cl_set (fun s s0 s5 => by rw [el s s5]; exact C s s0 s5) (cl_clo _)) T'
  rw [Q' l' i j l0 l5 gd]
  unfold setl
  by_cases e : l' = l
  · rw [if_pos e, if_pos e]
  · rw [if_neg e, if_neg e, if_neg (by omega)]
end
section
/-! setting aside; turn -/
def AsF (g : Int → Int → Bool) (mb : Bool) (md : Int) (i j : Int) : Bool := decide (Gd i j ∧ g i j = mb ∧ i % 2 + j % 2 ≤ md)
theorem as_s {g : Int → Int → Bool} {mb : Bool} {md : Int} : Sup (AsF g mb md) := by
  intro i j h
  unfold AsF at h
  rw [decide_eq_true_eq] at h
  exact h.1
/-- a written sweep is a set put whole -/
theorem sw_set {a : Nat → Int32} {S : Int → Int → Int → Bool} {s : Int} {F : Int → Int → Bool} (H : HS S) (HF : Sup F) (P : XP a (swp S s F 0 25)) : XP a (setl S s F) := by
  refine px_c P (fun s' i j => ?_)
  rw [sw_e]
  unfold put setl
  by_cases e : s' = s
  · rw [if_pos e]
    by_cases gd : Gd i j
    · rw [if_pos ⟨e, gd⟩]
    · rw [if_neg (fun h => gd h.2)]
      have n1 : S s' i j = false := by
        cases z : S s' i j
        · rfl
        · exact absurd (H _ _ _ z) gd
      have n2 : F i j = false := by
        cases z : F i j
        · rfl
        · exact absurd (HF _ _ z) gd
      rw [n1, n2]
  · rw [if_neg (fun h => e h.1), if_neg e]
section
variable {c rc gc lr rk : Int32} {cx cy re st dg : Nat → Int32} {S : Int → Int → Int → Bool}
theorem sa_i {post : SX → Prop} {J : Int32 → Int32 → Int32 → Int32 → Int32 → Int32 → (Nat → Int32) → (Nat → Int32) → (Nat → Int32) → (Nat → Int32) → (Nat → Int32) → (Nat → Int32) → Prop} {l j md : Int} {mb : Bool} (hl : 0 ≤ l ∧ l ≤ 5) (hj : 0 ≤ j ∧ j ≤ 24) (hm : 0 ≤ md ∧ md ≤ 2)
    (hJ : ∀ a', XP a' (swp S 6 (AsF (S l) mb md) 0 (j + 1)) → J (zI (j + 1)) c rc gc lr rk a' cx cy re st dg) :
    ∀ (N : Nat) (i : Int) (a : Nat → Int32), 0 ≤ i → i ≤ 25 → (25 - i).toNat < N → XP a (swp S 6 (AsF (S l) mb md) i j) → wX_setAside_13 post J (zI l) (bI mb) (zI md) (zI j) N (zI i) c rc gc lr rk a cx cy re st dg := by
  intro N
  induction N with
  | zero => intro i a h0 h1; omega
  | succ N ih =>
    intro i a h0 h1 h2 P
    refine zb_le 25 i (fun h => ?_) (fun h => ?_)
    · have e : i = 25 := by omega
      subst e; exact nm_r (zi_1 j) (hJ a (px_c P sw_r))
    · have w49 : ∀ b : Bool, b = AsF (S l) mb md i j → wX_setAside_49 post J (wX_setAside_13 post J (zI l) (bI mb) (zI md) (zI j) N) (zI l) (bI mb) (zI md) (zI j) (zI i) (bI b) c rc gc lr rk a cx cy re st dg := by
        intro b eb
        unfold wX_setAside_49
        refine xp_write P 6 i j b (by omega) (by omega) (fun a' P' => nm_r (zi_1 i) (ih (i + 1) a' (by omega) (by omega) (by omega) ?_))
        rw [eb] at P'
        exact px_c P' (sw_w (by omega))
      refine xp_has P l i j (by omega) (by omega) (by omega) ?_
      rw [sw_o (by omega)]
      refine bb_e (fun e => xp_dim i j (by omega) (by omega) (zb_lt md (i % 2 + j % 2) (fun q => w49 false ?_) (fun q => w49 true ?_))) (fun e => w49 false ?_)
      · unfold AsF; symm; rw [decide_eq_false_iff_not]; exact fun h => absurd h.2.2 (by omega)
      · unfold AsF; symm; rw [decide_eq_true_eq]; exact ⟨by omega, e, q⟩
      · unfold AsF; symm; rw [decide_eq_false_iff_not]; exact fun h => e h.2.1
theorem sa_o {post : SX → Prop} {l md : Int} {mb : Bool} (hl : 0 ≤ l ∧ l ≤ 5) (hm : 0 ≤ md ∧ md ≤ 2) (H : HS S)
    (f : ∀ a', XP a' (setl S 6 (AsF (S l) mb md)) → post (c, rc, gc, lr, rk, a', cx, cy, re, st, dg)) :
    ∀ (N : Nat) (j : Int) (a : Nat → Int32), 0 ≤ j → j ≤ 25 → (25 - j).toNat < N → XP a (swp S 6 (AsF (S l) mb md) 0 j) → wX_setAside_3 post (zI l) (bI mb) (zI md) N (zI j) c rc gc lr rk a cx cy re st dg := by
  intro N
  induction N with
  | zero => intro i a h0 h1; omega
  | succ N ih =>
    intro j a h0 h1 h2 P
    refine zb_le 25 j (fun h => ?_) (fun h => ⟨26, sa_i hl (by omega) hm (fun a' P' => ih (j + 1) a' (by omega) (by omega) (by omega) P') 26 0 a (by omega) (by omega) (by omega) P⟩)
    have e : j = 25 := by omega
    subst e
    exact f a (sw_set H as_s P)
theorem xp_as {post : SX → Prop} {a : Nat → Int32} (P : XP a S) (l md : Int) (mb : Bool) (hl : 0 ≤ l ∧ l ≤ 5) (hm : 0 ≤ md ∧ md ≤ 2)
    (f : ∀ a', XP a' (setl S 6 (AsF (S l) mb md)) → post (c, rc, gc, lr, rk, a', cx, cy, re, st, dg)) : wpX_setAside post (c, rc, gc, lr, rk, a, cx, cy, re, st, dg) (zI l) (bI mb) (zI md) := by
  unfold wpX_setAside
  exact ⟨26, sa_o hl hm P.2 f 26 0 a (by omega) (by omega) (by omega) (px_c P sw_0)⟩
def tI (w i j : Int) : Int := if w = 0 then 24 - i else if w = 2 then j else i
def tJ (w i j : Int) : Int := if w = 1 then 24 - j else if w = 2 then i else j
def TF (g : Int → Int → Bool) (w i j : Int) : Bool := g (tI w i j) (tJ w i j)
theorem t_g {w i j : Int} (hw : 0 ≤ w ∧ w ≤ 2) : Gd (tI w i j) (tJ w i j) ↔ Gd i j := by
  have e : w = 0 ∨ w = 1 ∨ w = 2 := by omega
  rcases e with rfl | rfl | rfl <;> simp [tI, tJ] <;> omega
theorem tf_s {g : Int → Int → Bool} {w : Int} (hw : 0 ≤ w ∧ w ≤ 2) (H : Sup g) : Sup (TF g w) := fun i j h => (t_g hw).mp (H _ _ h)
theorem tu_i {post : Int32 → SX → Prop} {J : Int32 → Int32 → Int32 → Int32 → Int32 → Int32 → (Nat → Int32) → (Nat → Int32) → (Nat → Int32) → (Nat → Int32) → (Nat → Int32) → (Nat → Int32) → Prop} {l w j : Int} (hl : 0 ≤ l ∧ l ≤ 5) (hw : 0 ≤ w ∧ w ≤ 2) (hj : 0 ≤ j ∧ j ≤ 24)
    (hJ : ∀ a', XP a' (swp S l (TF (S 6) w) 0 (j + 1)) → J (zI (j + 1)) c rc gc lr rk a' cx cy re st dg) :
    ∀ (N : Nat) (i : Int) (a : Nat → Int32), 0 ≤ i → i ≤ 25 → (25 - i).toNat < N → XP a (swp S l (TF (S 6) w) i j) → wX_turn_36 post J (zI l) (zI w) (zI j) N (zI i) c rc gc lr rk a cx cy re st dg := by
  intro N
  induction N with
  | zero => intro i a h0 h1; omega
  | succ N ih =>
    intro i a h0 h1 h2 P
    refine zb_le 25 i (fun h => ?_) (fun h => ?_)
    · have e : i = 25 := by omega
      subst e; exact nm_r (zi_1 j) (hJ a (px_c P sw_r))
    · have w91 : ∀ p q : Int, p = tI w i j → q = tJ w i j → wX_turn_91 post J (wX_turn_36 post J (zI l) (zI w) (zI j) N) (zI l) (zI w) (zI j) (zI i) (zI p) (zI q) c rc gc lr rk a cx cy re st dg := by
        intro p q ep eq
        have hg : Gd p q := by rw [ep, eq]; exact (t_g hw).mpr (by omega)
        unfold wX_turn_91
        refine xp_has P 6 p q (by omega) (by omega) (by omega) ?_
        rw [sw_o (by omega)]
        refine xp_write P l i j _ (by omega) (by omega) (fun a' P' => nm_r (zi_1 i) (ih (i + 1) a' (by omega) (by omega) (by omega) ?_))
        rw [ep, eq] at P'
        exact px_c P' (sw_w (by omega))
      have e24 : ∀ z : Int, 24 - zI z = zI (24 - z) := fun z => zi_sub 24 z
      have w66 : ∀ p : Int, p = tI w i j → wX_turn_66 post J (wX_turn_36 post J (zI l) (zI w) (zI j) N) (zI l) (zI w) (zI j) (zI i) (zI p) c rc gc lr rk a cx cy re st dg := by
        intro p ep
        unfold wX_turn_66
        rw [e24]
        refine zb_eq w 1 (fun q => w91 p _ ep ?_) (fun q => zb_eq w 2 (fun q2 => w91 p _ ep ?_) (fun q2 => w91 p _ ep ?_))
        · unfold tJ; rw [if_pos q]
        · unfold tJ; rw [if_neg q, if_pos q2]
        · unfold tJ; rw [if_neg q, if_neg q2]
      rw [e24]
      refine zb_eq w 0 (fun q => w66 _ ?_) (fun q => zb_eq w 2 (fun q2 => w66 _ ?_) (fun q2 => w66 _ ?_))
      · unfold tI; rw [if_pos q]
      · unfold tI; rw [if_neg q, if_pos q2]
      · unfold tI; rw [if_neg q, if_neg q2]
theorem tu_o {post : Int32 → SX → Prop} {l w : Int} (hl : 0 ≤ l ∧ l ≤ 5) (hw : 0 ≤ w ∧ w ≤ 2) (H : HS S)
    (f : ∀ a', XP a' (setl S l (TF (S 6) w)) → post 1 (c, rc, gc, lr, rk, a', cx, cy, re, st, dg)) :
    ∀ (N : Nat) (j : Int) (a : Nat → Int32), 0 ≤ j → j ≤ 25 → (25 - j).toNat < N → XP a (swp S l (TF (S 6) w) 0 j) → wX_turn_27 post (zI l) (zI w) N (zI j) c rc gc lr rk a cx cy re st dg := by
  intro N
  induction N with
  | zero => intro i a h0 h1; omega
  | succ N ih =>
    intro j a h0 h1 h2 P
    refine zb_le 25 j (fun h => ?_) (fun h => ⟨26, tu_i hl hw (by omega) (fun a' P' => ih (j + 1) a' (by omega) (by omega) (by omega) P') 26 0 a (by omega) (by omega) (by omega) P⟩)
    have e : j = 25 := by omega
    subst e
    exact f a (sw_set H (tf_s hw (fun i j => H 6 i j)) P)
end
theorem as_2 {g : Int → Int → Bool} (H : Sup g) : AsF g true 2 = g := by
  funext i j
  refine be ?_
  unfold AsF
  rw [decide_eq_true_eq]
  exact ⟨fun h => h.2.1, fun h => ⟨H i j h, h, by omega⟩⟩
theorem ty {c : Int32} {fi se px py la ly : Nat → Int32} {S : Int → Int → Int → Bool} {post : Int32 → SY → Prop} {l w : Int} (hl : 0 ≤ l ∧ l ≤ 5) (hw : 0 ≤ w ∧ w ≤ 2) (Q : YP ly S)
    (f : ∀ ly' ma', YP ly' (setl S l (TF (S l) w)) → post 1 (c, ly', fi, ma', se, px, py, la)) :
    ∀ (N : Nat) (q : Int) (ma : Nat → Int32), 0 ≤ q → q ≤ 625 → (625 - q).toNat < N → (∀ i j, Gd i j → 25 * i + j < q → ma (25 * tI w i j + tJ w i j).toNat = bI (S l i j)) → wY_turn_21 post (zI l) (zI w) c N (zI q) ly fi ma se px py la := by
  have ew : w = 0 ∨ w = 1 ∨ w = 2 := by omega
  intro N
  induction N with
  | zero => intro q ma h0 h1; omega
  | succ N ih =>
    intro q ma h0 h1 h2 hM
    refine zb_le 625 q (fun h => ?_) (fun h => ⟨by decide, nm_r (zi_d25 (by omega)) ⟨by decide, nm_r (zi_r25 (by omega)) ?_⟩⟩)
    · refine yp_keep (g := TF (S l) w) Q l hl (fun i j gd => ?_) (fun ly' Q' => f ly' ma Q')
      have gd' := (t_g hw).mpr gd
      have := hM (tI w i j) (tJ w i j) gd' (by omega)
      have e1 : tI w (tI w i j) (tJ w i j) = i := by rcases ew with rfl | rfl | rfl <;> simp [tI, tJ] <;> omega
      have e2 : tJ w (tI w i j) (tJ w i j) = j := by rcases ew with rfl | rfl | rfl <;> simp [tI, tJ] <;> omega
      rw [e1, e2] at this
      exact this
    · have gq : Gd (q / 25) (q % 25) := by omega
      have gt := (t_g (i := q / 25) (j := q % 25) hw).mpr gq
      have k89 : ∀ z : Int, z = 25 * tI w (q / 25) (q % 25) + tJ w (q / 25) (q % 25) → wY_turn_89 post (wY_turn_21 post (zI l) (zI w) c N) (zI l) (zI w) (zI q) (zI z) c ly fi ma se px py la := by
        intro z ez
        have e1 := zi_in2 l q
        have ix : 625 * l + q = 625 * l + 25 * (q / 25) + q % 25 := by omega
        have r1 : ly (625 * l + q).toNat = bI (S l (q / 25) (q % 25)) := by rw [ix]; exact Q l _ _ hl.1 hl.2 gq
        unfold wY_turn_89
        refine ⟨zv_in (625 * l + q) (by omega) e1, zv_in z (by omega), nm_e (nm_r (zi_1 q) ?_)⟩
        rw [zv_cl _ e1, r1, bi_v, zi_cl (by omega)]
        refine ih (q + 1) _ (by omega) (by omega) (by omega) (fun i j gd hlt => ?_)
        unfold upd
        by_cases e : 25 * i + j = q
        · have ei : i = q / 25 := by omega
          have ej : j = q % 25 := by omega
          rw [if_pos (by rw [ez, ei, ej]), ei, ej]
        · have gd' := (t_g (i := i) (j := j) hw).mpr gd
          have ne : ¬ (25 * tI w i j + tJ w i j).toNat = z.toNat := by
            intro hh
            have hh2 : 25 * tI w i j + tJ w i j = 25 * tI w (q / 25) (q % 25) + tJ w (q / 25) (q % 25) := by omega
            rcases ew with rfl | rfl | rfl <;> simp [tI, tJ] at hh2 <;> omega
          rw [if_neg ne]; exact hM i j gd (by omega)
      have x0 : 25 * (24 - zI (q / 25)) + zI (q % 25) = zI (25 * (24 - q / 25) + q % 25) := by
        have e1 : 24 - zI (q / 25) = zI (24 - q / 25) := zi_sub 24 _
        have e2 : 25 * zI (24 - q / 25) = zI (25 * (24 - q / 25)) := zi_mul 25 _
        rw [e1, e2, zi_add]
      have x1 : ((25 * zI (q / 25)) + 24) - zI (q % 25) = zI (25 * (q / 25) + 24 - q % 25) := by
        have e2 : 25 * zI (q / 25) = zI (25 * (q / 25)) := zi_mul 25 _
        have e3 : zI (25 * (q / 25)) + 24 = zI (25 * (q / 25) + 24) := zi_add _ 24
        rw [e2, e3, zi_sub]
      have x2 : (25 * zI (q % 25)) + zI (q / 25) = zI (25 * (q % 25) + q / 25) := by
        have e2 : 25 * zI (q % 25) = zI (25 * (q % 25)) := zi_mul 25 _
        rw [e2, zi_add]
      rw [x0, x1, x2]
      refine zb_eq w 0 (fun e => k89 _ ?_) (fun e => zb_eq w 1 (fun e1 => k89 _ ?_) (fun e1 => k89 _ ?_))
      · subst e; rfl
      · subst e1; simp [tI, tJ]; omega
      · have : w = 2 := by omega
        subst this; rfl
theorem i_vc_turn {k : Nat} {u : SX} {v : SY} (I : i_Rel k u v) (hk : k + 5 ≤ 2560) (v1 : Int32) (v2 : Int32) : wpX_turn (fun r u' => wpY_turn (fun r' v' => r' = r ∧ i_Rel (k + 5) u' v') v v1 v2) u v1 v2 := by
  obtain ⟨c, rc, gc, lr, rk, a, cx, cy, re, st, dg⟩ := u
  obtain ⟨c', ly, fi, ma, se, px, py, la⟩ := v
  obtain ⟨S, n, X, Y, P, Q, C, T, rfl, rfl⟩ := I
  obtain ⟨l, hl, rfl⟩ := zi_ex v1
  obtain ⟨w, hw, rfl⟩ := zi_ex v2
  have R0 : i_Rel (k + 5) (zI n, rc, gc, lr, rk, a, cx, cy, re, st, dg) (zI n, ly, fi, ma, se, px, py, la) := i_mk P Q C T
  have Yc : ∀ post : Int32 → SY → Prop, ((0 ≤ l ∧ l ≤ 5) ∧ (0 ≤ w ∧ w ≤ 2) → ∃ N, wY_turn_21 post (zI l) (zI w) (zI n) N 0 ly fi ma se px py la) → (¬ ((0 ≤ l ∧ l ≤ 5) ∧ (0 ≤ w ∧ w ≤ 2)) → post 0 (zI n, ly, fi, ma, se, px, py, la)) → wpY_turn post (zI n, ly, fi, ma, se, px, py, la) (zI l) (zI w) := by
    intro post f g
    unfold wpY_turn
    refine yg_layer l hl (fun h1 => b1_f ?_) (fun h1 => b0_t (g (by omega)))
    exact zb_lt w 0 (fun h => g (by omega)) (fun h0 => zb_le w 2 (fun h => f (by omega)) (fun h => g (by omega)))
  unfold wpX_turn
  refine xg_layer l hl (fun h1 => b1_f ?_) (fun h1 => b0_t (Yc _ (fun h => absurd h.1 h1) (fun _ => ⟨rfl, R0⟩)))
  refine zb_lt w 0 (fun h2 => Yc _ (fun h => absurd h2 (by omega)) (fun _ => ⟨rfl, R0⟩)) (fun h2 => zb_le w 2 (fun h3 => ?_) (fun h3 => Yc _ (fun h => absurd h3 (by omega)) (fun _ => ⟨rfl, R0⟩)))
  refine xp_as P l 2 true h1 (by omega) (fun a1 P1 => ⟨26, ?_⟩)
  have Hl : Sup (S l) := fun i j => P.2 l i j
  rw [as_2 Hl] at P1
  have e6 : setl S 6 (S l) 6 = S l := by unfold setl; rw [if_pos rfl]
  have el : ∀ s : Int, s ≤ 5 → setl S 6 (S l) s = S s := by intro s hs; unfold setl; rw [if_neg (by omega)]
  refine tu_o (S := setl S 6 (S l)) h1 (by omega) P1.2 (fun a2 P2 => ?_) 26 0 a1 (by omega) (by omega) (by omega) (px_c P1 sw_0)
  rw [e6] at P2
  refine Yc _ (fun _ => ⟨626, ?_⟩) (fun h => absurd ⟨h1, h2, h3⟩ h)
  refine ty h1 ⟨h2, h3⟩ Q (fun ly' ma' Q' => ⟨rfl, ?_⟩) 626 0 ma (by omega) (by omega) (by omega) (fun i j gd hlt => absurd hlt (by omega))
  refine i_mk P2 (fun l' i j l0 l5 gd => ?_) (cl_set (fun s s0 s5 => by rw [el s s5]; exact C s s0 s5) ?_) T
  · rw [Q' l' i j l0 l5 gd]
    unfold setl
    by_cases e : l' = l
    · rw [if_pos e, if_pos e]
    · rw [if_neg e, if_neg e, if_neg (by omega)]
  · intro i j hh
    have := C l h1.1 h1.2 _ _ hh
    have ew : w = 0 ∨ w = 1 ∨ w = 2 := by omega
    unfold TF at hh ⊢
    rcases ew with rfl | rfl | rfl
    · simp only [tI, tJ, if_pos, if_neg] at this ⊢
      simp at this ⊢
      refine ⟨fun o => ?_, fun o => ?_⟩
      · have z1 : 24 - (i - 1) = 24 - i + 1 := by omega
        have z2 : 24 - (i + 1) = 24 - i - 1 := by omega
        rw [z1, z2]
        exact ⟨(this.1 (by omega)).2, (this.1 (by omega)).1⟩
      · exact this.2 o
    · simp only [tI, tJ] at this ⊢
      simp at this ⊢
      refine ⟨fun o => this.1 o, fun o => ?_⟩
      have z1 : 24 - (j - 1) = 24 - j + 1 := by omega
      have z2 : 24 - (j + 1) = 24 - j - 1 := by omega
      rw [z1, z2]
      exact ⟨(this.2 (by omega)).2, (this.2 (by omega)).1⟩
    · simp only [tI, tJ] at this ⊢
      simp at this ⊢
      exact ⟨fun o => this.2 o, fun o => this.1 o⟩
end
section
/-! grow, shrink -/
def bN (b : Bool) : Nat := if b = true then 1 else 0
theorem cn_s (P : Nat → Bool) (m : Nat) : cnt P (m + 1) = cnt P m + bN (P m) := rfl
theorem cn_pos {P : Nat → Bool} : ∀ {N : Nat}, 1 ≤ cnt P N ↔ ∃ k, k < N ∧ P k = true
  | 0 => ⟨fun h => absurd h (by simp [cnt]), fun ⟨k, hk, _⟩ => by omega⟩
  | N + 1 => by
    simp only [cnt]
    by_cases h : P N = true
    · exact ⟨fun _ => ⟨N, by omega, h⟩, fun _ => by rw [if_pos h]; omega⟩
    · rw [if_neg h, Nat.add_zero, cn_pos (N := N)]
      constructor
      · rintro ⟨k, hk, hp⟩; exact ⟨k, by omega, hp⟩
      · rintro ⟨k, hk, hp⟩
        refine ⟨k, ?_, hp⟩
        rcases Nat.lt_or_ge k N with z | z
        · exact z
        · have : k = N := by omega
          subst this; exact absurd hp h
theorem sm_pos {f : Nat → Nat} : ∀ {N : Nat}, 1 ≤ sm f N ↔ ∃ k, k < N ∧ 1 ≤ f k
  | 0 => ⟨fun h => absurd h (by simp [sm]), fun ⟨k, hk, _⟩ => by omega⟩
  | N + 1 => by
    simp only [sm]
    by_cases h : 1 ≤ f N
    · exact ⟨fun _ => ⟨N, by omega, h⟩, fun _ => by omega⟩
    · have : f N = 0 := by omega
      rw [this, Nat.add_zero, sm_pos (N := N)]
      constructor
      · rintro ⟨k, hk, hp⟩; exact ⟨k, by omega, hp⟩
      · rintro ⟨k, hk, hp⟩
        refine ⟨k, ?_, hp⟩
        rcases Nat.lt_or_ge k N with z | z
        · exact z
        · have : k = N := by omega
          subst this; exact absurd hp h
theorem cn_full {P : Nat → Bool} : ∀ {N : Nat}, N ≤ cnt P N ↔ ∀ k, k < N → P k = true
  | 0 => ⟨fun _ k hk => by omega, fun _ => Nat.zero_le _⟩
  | N + 1 => by
    simp only [cnt]
    have hl := cn_le P N
    by_cases h : P N = true
    · rw [if_pos h]
      constructor
      · intro hh k hk
        rcases Nat.lt_or_ge k N with z | z
        · exact (cn_full (N := N)).mp (by omega) k z
        · have : k = N := by omega
          subst this; exact h
      · intro hh
        have := (cn_full (P := P) (N := N)).mpr (fun k hk => hh k (by omega))
        omega
    · rw [if_neg h]
      exact ⟨fun hh => by omega, fun hh => absurd (hh N (by omega)) h⟩
theorem sm_le {f : Nat → Nat} {w : Nat} : ∀ {N : Nat}, (∀ k, k < N → f k ≤ w) → sm f N ≤ N * w
  | 0, _ => by simp [sm]
  | N + 1, h => by
    simp only [sm]
    have := sm_le (N := N) (fun k hk => h k (by omega))
    have := h N (by omega)
    rw [Nat.succ_mul]; omega
theorem sm_full {f : Nat → Nat} {w : Nat} : ∀ {N : Nat}, (∀ k, k < N → f k ≤ w) → (N * w ≤ sm f N ↔ ∀ k, k < N → w ≤ f k)
  | 0, _ => ⟨fun _ k hk => by omega, fun _ => by simp⟩
  | N + 1, h => by
    simp only [sm]
    have h1 := sm_le (N := N) (fun k hk => h k (by omega))
    have h2 := h N (by omega)
    have ih := sm_full (N := N) (fun k hk => h k (by omega))
    rw [Nat.succ_mul]
    constructor
    · intro hh k hk
      rcases Nat.lt_or_ge k N with z | z
      · exact ih.mp (by omega) k z
      · have : k = N := by omega
        subst this; omega
    · intro hh
      have a := ih.mpr (fun k hk => hh k (by omega))
      have b := hh N (by omega)
      omega
theorem sq_full {h w M : Nat} (h1 : h ≤ M) (h2 : w ≤ M) (hM : 1 ≤ M) (hh : M * M ≤ h * w) : h = M ∧ w = M := by
  have a : h * w ≤ h * M := Nat.mul_le_mul_left h h2
  have b : h * w ≤ M * w := Nat.mul_le_mul_right w h1
  constructor
  · have : M * M ≤ h * M := by omega
    have := Nat.le_of_mul_le_mul_right this (by omega)
    omega
  · have : M * M ≤ M * w := by omega
    have := Nat.le_of_mul_le_mul_left this (by omega)
    omega
def wLo (i R : Int) : Int := if i ≤ R then 0 else i - R
def wHi (i R : Int) : Int := if i + R < 24 then i + R else 24
def wWd (i R : Int) : Nat := (wHi i R - wLo i R + 1).toNat
def rwc (g : Int → Int → Bool) (i R jj : Int) : Nat := cnt (fun t => g (wLo i R + t) jj) (wWd i R)
def wcn (g : Int → Int → Bool) (i j R : Int) : Nat := sm (fun t => rwc g i R (wLo j R + t)) (wWd j R)
theorem wl_r {i R : Int} (hi : 0 ≤ i ∧ i ≤ 24) (hR : 0 ≤ R) : 0 ≤ wLo i R ∧ wLo i R ≤ i ∧ i ≤ wHi i R ∧ wHi i R ≤ 24 := by
  unfold wLo wHi; split <;> split <;> omega
theorem wl_i {i R u : Int} (hi : 0 ≤ i ∧ i ≤ 24) (hR : 0 ≤ R) : (wLo i R ≤ u ∧ u ≤ wHi i R) ↔ (0 ≤ u ∧ u ≤ 24) ∧ i - R ≤ u ∧ u ≤ i + R := by
  unfold wLo wHi; split <;> split <;> omega
def NE (g : Int → Int → Bool) (i j R : Int) : Prop := ∃ u v, ((0 ≤ u ∧ u ≤ 24) ∧ i - R ≤ u ∧ u ≤ i + R) ∧ ((0 ≤ v ∧ v ≤ 24) ∧ j - R ≤ v ∧ v ≤ j + R) ∧ g u v = true
def AL (g : Int → Int → Bool) (i j R : Int) : Prop := (R ≤ i ∧ i ≤ 24 - R) ∧ (R ≤ j ∧ j ≤ 24 - R) ∧ ∀ u v, i - R ≤ u → u ≤ i + R → j - R ≤ v → v ≤ j + R → g u v = true
theorem wc_1 {g : Int → Int → Bool} {i j R : Int} (hi : 0 ≤ i ∧ i ≤ 24) (hj : 0 ≤ j ∧ j ≤ 24) (hR : 0 ≤ R) : 1 ≤ wcn g i j R ↔ NE g i j R := by
  have r1 := wl_r hi hR
  have r2 := wl_r hj hR
  unfold wcn
  rw [sm_pos]
  constructor
  · rintro ⟨t, ht, h⟩
    unfold rwc at h
    rw [cn_pos] at h
    obtain ⟨s, hs, h⟩ := h
    unfold wWd at ht hs
    exact ⟨_, _, (wl_i hi hR).mp (by omega), (wl_i hj hR).mp (by omega), h⟩
  · rintro ⟨u, v, hu, hv, h⟩
    have hu' := (wl_i hi hR).mpr hu
    have hv' := (wl_i hj hR).mpr hv
    refine ⟨(v - wLo j R).toNat, by unfold wWd; omega, ?_⟩
    unfold rwc
    rw [cn_pos]
    refine ⟨(u - wLo i R).toNat, by unfold wWd; omega, ?_⟩
    have e1 : wLo i R + ((u - wLo i R).toNat : Int) = u := by omega
    have e2 : wLo j R + ((v - wLo j R).toNat : Int) = v := by omega
    show g (wLo i R + ((u - wLo i R).toNat : Int)) (wLo j R + ((v - wLo j R).toNat : Int)) = true
    rw [e1, e2]; exact h
theorem wc_le {g : Int → Int → Bool} {i j R : Int} : wcn g i j R ≤ wWd j R * wWd i R := by
  unfold wcn
  exact sm_le (fun k hk => cn_le _ _)
theorem wc_b {g : Int → Int → Bool} {i j R : Int} (hi : 0 ≤ i ∧ i ≤ 24) (hj : 0 ≤ j ∧ j ≤ 24) (hR : 0 ≤ R) : wcn g i j R ≤ 625 := by
  have r1 := wl_r hi hR
  have r2 := wl_r hj hR
  have h := wc_le (g := g) (i := i) (j := j) (R := R)
  have a : wWd j R ≤ 25 := by unfold wWd; omega
  have b : wWd i R ≤ 25 := by unfold wWd; omega
  have := Nat.mul_le_mul a b
  omega
theorem wc_2 {g : Int → Int → Bool} {i j R : Int} (hi : 0 ≤ i ∧ i ≤ 24) (hj : 0 ≤ j ∧ j ≤ 24) (hR : 0 ≤ R) : (2 * R + 1).toNat * (2 * R + 1).toNat ≤ wcn g i j R ↔ AL g i j R := by
  have r1 := wl_r hi hR
  have r2 := wl_r hj hR
  constructor
  · intro h
    have h2 := wc_le (g := g) (i := i) (j := j) (R := R)
    have d1 : wWd j R ≤ (2 * R + 1).toNat := by unfold wWd wHi wLo; split <;> split <;> omega
    have d2 : wWd i R ≤ (2 * R + 1).toNat := by unfold wWd wHi wLo; split <;> split <;> omega
    obtain ⟨e1, e2⟩ := sq_full d1 d2 (by omega) (by omega)
    have x1 : R ≤ i ∧ i ≤ 24 - R := by unfold wWd wHi wLo at e2; split at e2 <;> split at e2 <;> omega
    have x2 : R ≤ j ∧ j ≤ 24 - R := by unfold wWd wHi wLo at e1; split at e1 <;> split at e1 <;> omega
    refine ⟨x1, x2, fun u v u0 u1 v0 v1 => ?_⟩
    have hu' := (wl_i (u := u) hi hR).mpr (by omega)
    have hv' := (wl_i (u := v) hj hR).mpr (by omega)
    have full := (sm_full (f := fun t => rwc g i R (wLo j R + t)) (w := wWd i R) (N := wWd j R) (fun k hk => cn_le _ _)).mp (by
      show wWd j R * wWd i R ≤ wcn g i j R
      rw [e1, e2]; exact h)
    have row := full (v - wLo j R).toNat (by unfold wWd; omega)
    have row2 := cn_full.mp row (u - wLo i R).toNat (by unfold wWd; omega)
    have z1 : wLo i R + ((u - wLo i R).toNat : Int) = u := by omega
    have z2 : wLo j R + ((v - wLo j R).toNat : Int) = v := by omega
    have row3 : g (wLo i R + ((u - wLo i R).toNat : Int)) (wLo j R + ((v - wLo j R).toNat : Int)) = true := row2
    rw [z1, z2] at row3; exact row3
  · rintro ⟨x1, x2, h⟩
    have l1 : wLo i R = i - R := by unfold wLo; split <;> omega
    have l2 : wLo j R = j - R := by unfold wLo; split <;> omega
    have l3 : wHi i R = i + R := by unfold wHi; split <;> omega
    have l4 : wHi j R = j + R := by unfold wHi; split <;> omega
    have e1 : wWd j R = (2 * R + 1).toNat := by unfold wWd; rw [l2, l4]; omega
    have e2 : wWd i R = (2 * R + 1).toNat := by unfold wWd; rw [l1, l3]; omega
    have key : wWd j R * wWd i R ≤ wcn g i j R := by
      refine (sm_full (f := fun t => rwc g i R (wLo j R + t)) (w := wWd i R) (N := wWd j R) (fun k hk => cn_le _ _)).mpr (fun k hk => ?_)
      refine cn_full.mpr (fun t ht => ?_)
      show g (wLo i R + (t : Int)) (wLo j R + (k : Int)) = true
      rw [e1] at hk
      rw [e2] at ht
      exact h _ _ (by omega) (by omega) (by omega) (by omega)
    rw [e1, e2] at key; exact key
def KC (g : Int → Int → Bool) (R m : Int) (i j : Int) : Bool := decide (Gd i j ∧ m ≤ (wcn g i j R : Int))
theorem kc_s {g : Int → Int → Bool} {R m : Int} : Sup (KC g R m) := by
  intro i j h
  unfold KC at h
  rw [decide_eq_true_eq] at h
  exact h.1
theorem kc_1 {g : Int → Int → Bool} {R i j : Int} (hR : 0 ≤ R) (gd : Gd i j) : KC g R 1 i j = true ↔ NE g i j R := by
  unfold KC
  rw [decide_eq_true_eq, ← wc_1 (by omega) (by omega) hR]
  exact ⟨fun h => by omega, fun h => ⟨gd, by omega⟩⟩
theorem kc_2 {g : Int → Int → Bool} {R i j : Int} (hR : 0 ≤ R) (gd : Gd i j) : KC g R ((2 * R + 1) * (2 * R + 1)) i j = true ↔ AL g i j R := by
  unfold KC
  have e : (2 * R + 1) * (2 * R + 1) = (((2 * R + 1).toNat * (2 * R + 1).toNat : Nat) : Int) := by
    rw [Int.natCast_mul]
    have : ((2 * R + 1).toNat : Int) = 2 * R + 1 := by omega
    rw [this]
  rw [decide_eq_true_eq, ← wc_2 (by omega) (by omega) hR, e]
  exact ⟨fun h => by omega, fun h => ⟨gd, by omega⟩⟩
section
variable {c rc gc lr rk : Int32} {cx cy re st dg : Nat → Int32} {S : Int → Int → Int → Bool}
theorem ca_i {a : Nat → Int32} {post : Int32 → Prop} {J : Int32 → Int32 → Prop} (P : XP a S) {i j R jj k : Int} (hi : 0 ≤ i ∧ i ≤ 24) (hR : 0 ≤ R ∧ R ≤ 24) (hjj : 0 ≤ jj ∧ jj ≤ 24)
    (hJ : J (zI (k + rwc (S 6) i R jj)) (zI (jj + 1))) :
    ∀ (N : Nat) (ii : Int), wLo i R ≤ ii → ii ≤ wHi i R + 1 → (wHi i R + 1 - ii).toNat < N → wX_countAside_54 post J (zI i) (zI j) (zI R) (zI (wLo i R)) (zI jj) c rc gc lr rk a cx cy re st dg N (zI (k + cnt (fun t => S 6 (wLo i R + t) jj) (ii - wLo i R).toNat)) (zI ii) := by
  have r1 := wl_r hi hR.1
  intro N
  induction N with
  | zero => intro ii h0 h1; omega
  | succ N ih =>
    intro ii h0 h1 h2
    have fin : wHi i R < ii → J (zI (k + cnt (fun t => S 6 (wLo i R + t) jj) (ii - wLo i R).toNat)) (zI (jj + 1)) := by
      intro h
      have e : (ii - wLo i R).toNat = wWd i R := by unfold wWd; omega
      rw [e]; exact hJ
    have hw : wHi i R = 24 ∨ wHi i R = i + R := by unfold wHi; split <;> omega
    have hw2 : wHi i R ≤ i + R := by unfold wHi; split <;> omega
    refine zb_lt 24 ii (fun h => nm_r (zi_1 jj) (fin (by omega))) (fun h => zb_lt (i + R) ii (fun h3 => nm_r (zi_1 jj) (fin (by omega))) (fun h3 => ?_) (zi_add i R))
    have e1 : (ii + 1 - wLo i R).toNat = (ii - wLo i R).toNat + 1 := by omega
    have e2 : wLo i R + ((ii - wLo i R).toNat : Int) = ii := by omega
    have w := ih (ii + 1) (by omega) (by omega) (by omega)
    rw [e1, cn_s] at w
    rw [e2] at w
    refine xp_has P 6 ii jj (by omega) (by omega) (by omega) (bb_0 (fun e => nm_r (zi_1 ii) ?_) (fun e => nm_r (zi_1 _) (nm_r (zi_1 ii) ?_)))
    · rw [e] at w; exact w
    · rw [e] at w
      have e3 : k + ↑(cnt (fun t => S 6 (wLo i R + ↑t) jj) (ii - wLo i R).toNat) + 1 = k + ↑(cnt (fun t => S 6 (wLo i R + ↑t) jj) (ii - wLo i R).toNat + bN true) := by
        have : bN true = 1 := rfl
        rw [this]; omega
      rw [e3]; exact w
theorem ca_o {a : Nat → Int32} {post : Int32 → Prop} (P : XP a S) {i j R : Int} (hi : 0 ≤ i ∧ i ≤ 24) (hj : 0 ≤ j ∧ j ≤ 24) (hR : 0 ≤ R ∧ R ≤ 24)
    (f : post (zI (wcn (S 6) i j R))) :
    ∀ (N : Nat) (jj : Int), wLo j R ≤ jj → jj ≤ wHi j R + 1 → (wHi j R + 1 - jj).toNat < N → wX_countAside_35 post (zI i) (zI j) (zI R) (zI (wLo i R)) c rc gc lr rk a cx cy re st dg N (zI (sm (fun t => rwc (S 6) i R (wLo j R + t)) (jj - wLo j R).toNat)) (zI jj) := by
  have r1 := wl_r hi hR.1
  have r2 := wl_r hj hR.1
  intro N
  induction N with
  | zero => intro ii h0 h1; omega
  | succ N ih =>
    intro jj h0 h1 h2
    have fin : wHi j R < jj → post (zI (sm (fun t => rwc (S 6) i R (wLo j R + t)) (jj - wLo j R).toNat)) := by
      intro h
      have e : (jj - wLo j R).toNat = wWd j R := by unfold wWd; omega
      rw [e]; exact f
    have hw : wHi j R = 24 ∨ wHi j R = j + R := by unfold wHi; split <;> omega
    have hw2 : wHi j R ≤ j + R := by unfold wHi; split <;> omega
    refine zb_lt 24 jj (fun h => fin (by omega)) (fun h => zb_lt (j + R) jj (fun h3 => fin (by omega)) (fun h3 => ⟨26, ?_⟩) (zi_add j R))
    have e1 : (jj + 1 - wLo j R).toNat = (jj - wLo j R).toNat + 1 := by omega
    have e2 : wLo j R + ((jj - wLo j R).toNat : Int) = jj := by omega
    have w := ih (jj + 1) (by omega) (by omega) (by omega)
    rw [e1] at w
    simp only [sm] at w
    rw [e2] at w
    have e4 : (wLo i R - wLo i R).toNat = 0 := by omega
    have e5 : zI (sm (fun t => rwc (S 6) i R (wLo j R + t)) (jj - wLo j R).toNat) = zI ((sm (fun t => rwc (S 6) i R (wLo j R + t)) (jj - wLo j R).toNat : Int) + cnt (fun t => S 6 (wLo i R + t) jj) (wLo i R - wLo i R).toNat) := by
      rw [e4]; simp [cnt]
    rw [e5]
    refine ca_i P hi hR (by omega) ?_ 26 (wLo i R) (by omega) (by omega) (by omega)
    rw [← Int.natCast_add]; exact w
theorem xp_ca {a : Nat → Int32} {post : Int32 → Prop} (P : XP a S) {i j R : Int} (hi : 0 ≤ i ∧ i ≤ 24) (hj : 0 ≤ j ∧ j ≤ 24) (hR : 0 ≤ R ∧ R ≤ 24)
    (f : post (zI (wcn (S 6) i j R))) : wpX_countAside post (c, rc, gc, lr, rk, a, cx, cy, re, st, dg) (zI i) (zI j) (zI R) := by
  have r1 := wl_r hi hR.1
  have r2 := wl_r hj hR.1
  have k12 : ∀ z : Int, z = wLo i R → wX_countAside_12 post (zI i) (zI j) (zI R) (zI z) c rc gc lr rk a cx cy re st dg := by
    intro z ez
    rw [ez]
    have go : ∀ y : Int, y = wLo j R → ∃ N, wX_countAside_35 post (zI i) (zI j) (zI R) (zI (wLo i R)) c rc gc lr rk a cx cy re st dg N 0 (zI y) := by
      intro y ey
      rw [ey]
      have w := ca_o (c := c) (rc := rc) (gc := gc) (lr := lr) (rk := rk) (cx := cx) (cy := cy) (re := re) (st := st) (dg := dg) P hi hj hR f 27 (wLo j R) (by omega) (by omega) (by omega)
      have e4 : (wLo j R - wLo j R).toNat = 0 := by omega
      rw [e4] at w
      exact ⟨27, w⟩
    unfold wX_countAside_12
    refine zb_le j R (fun h => go 0 ?_) (fun h => nm_r (zi_sub j R) (go _ ?_))
    · unfold wLo; rw [if_pos h]
    · unfold wLo; rw [if_neg (by omega)]
  unfold wpX_countAside
  dsimp only
  rw [zi_sub]
  refine zb_le i R (fun h => k12 0 ?_) (fun h => k12 _ ?_)
  · unfold wLo; rw [if_pos h]
  · unfold wLo; rw [if_neg (by omega)]
theorem kc_i {post : SX → Prop} {J : Int32 → Int32 → Int32 → Int32 → Int32 → Int32 → (Nat → Int32) → (Nat → Int32) → (Nat → Int32) → (Nat → Int32) → (Nat → Int32) → (Nat → Int32) → Prop} {l R m j : Int} (hl : 0 ≤ l ∧ l ≤ 5) (hR : 0 ≤ R ∧ R ≤ 24) (hm : 0 ≤ m ∧ m ≤ 10000) (hj : 0 ≤ j ∧ j ≤ 24)
    (hJ : ∀ a', XP a' (swp S l (KC (S 6) R m) 0 (j + 1)) → J (zI (j + 1)) c rc gc lr rk a' cx cy re st dg) :
    ∀ (N : Nat) (i : Int) (a : Nat → Int32), 0 ≤ i → i ≤ 25 → (25 - i).toNat < N → XP a (swp S l (KC (S 6) R m) i j) → wX_keepCrowded_20 post J (zI l) (zI R) (zI m) (zI j) N (zI i) c rc gc lr rk a cx cy re st dg := by
  intro N
  induction N with
  | zero => intro i a h0 h1; omega
  | succ N ih =>
    intro i a h0 h1 h2 P
    refine zb_le 25 i (fun h => ?_) (fun h => ?_)
    · have e : i = 25 := by omega
      subst e; exact nm_r (zi_1 j) (hJ a (px_c P sw_r))
    · have w45 : ∀ b : Bool, b = KC (S 6) R m i j → wX_keepCrowded_45 post J (wX_keepCrowded_20 post J (zI l) (zI R) (zI m) (zI j) N) (zI l) (zI R) (zI m) (zI j) (zI i) (bI b) c rc gc lr rk a cx cy re st dg := by
        intro b eb
        unfold wX_keepCrowded_45
        refine xp_write P l i j b (by omega) (by omega) (fun a' P' => nm_r (zi_1 i) (ih (i + 1) a' (by omega) (by omega) (by omega) ?_))
        rw [eb] at P'
        exact px_c P' (sw_w (by omega))
      have hb := wc_b (g := S 6) (i := i) (j := j) (R := R) (by omega) (by omega) hR.1
      refine xp_ca P (by omega) hj hR ?_
      rw [sw_o (by omega)]
      refine zb_lt (wcn (S 6) i j R : Int) m (fun q => w45 false ?_) (fun q => w45 true ?_)
      · unfold KC; symm; rw [decide_eq_false_iff_not]; omega
      · unfold KC; symm; rw [decide_eq_true_eq]; omega
theorem kc_o {post : SX → Prop} {l R m : Int} (hl : 0 ≤ l ∧ l ≤ 5) (hR : 0 ≤ R ∧ R ≤ 24) (hm : 0 ≤ m ∧ m ≤ 10000) (H : HS S)
    (f : ∀ a', XP a' (setl S l (KC (S 6) R m)) → post (c, rc, gc, lr, rk, a', cx, cy, re, st, dg)) :
    ∀ (N : Nat) (j : Int) (a : Nat → Int32), 0 ≤ j → j ≤ 25 → (25 - j).toNat < N → XP a (swp S l (KC (S 6) R m) 0 j) → wX_keepCrowded_10 post (zI l) (zI R) (zI m) N (zI j) c rc gc lr rk a cx cy re st dg := by
  intro N
  induction N with
  | zero => intro i a h0 h1; omega
  | succ N ih =>
    intro j a h0 h1 h2 P
    refine zb_le 25 j (fun h => ?_) (fun h => ⟨26, kc_i hl hR hm (by omega) (fun a' P' => ih (j + 1) a' (by omega) (by omega) (by omega) P') 26 0 a (by omega) (by omega) (by omega) P⟩)
    have e : j = 25 := by omega
    subst e
    exact f a (sw_set H kc_s P)
theorem xp_kc {a : Nat → Int32} {post : SX → Prop} (P : XP a S) {l R m : Int} (hl : 0 ≤ l ∧ l ≤ 5) (hR : 0 ≤ R ∧ R ≤ 24) (hm : 0 ≤ m ∧ m ≤ 10000)
    (f : ∀ a' S', XP a' S' → (∀ s, s ≤ 5 → S' s = setl S l (KC (S l) R m) s) → post (c, rc, gc, lr, rk, a', cx, cy, re, st, dg)) : wpX_keepCrowded post (c, rc, gc, lr, rk, a, cx, cy, re, st, dg) (zI l) (zI R) (zI m) := by
  unfold wpX_keepCrowded
  refine xp_as P l 2 true hl (by omega) (fun a1 P1 => ⟨26, ?_⟩)
  have Hl : Sup (S l) := fun i j => P.2 l i j
  rw [as_2 Hl] at P1
  have e6 : setl S 6 (S l) 6 = S l := by unfold setl; rw [if_pos rfl]
  refine kc_o (S := setl S 6 (S l)) hl hR hm P1.2 (fun a2 P2 => f a2 _ P2 (fun s hs => ?_)) 26 0 a1 (by omega) (by omega) (by omega) (px_c P1 sw_0)
  rw [e6]
  unfold setl
  by_cases e : s = l
  · rw [if_pos e, if_pos e]
  · rw [if_neg e, if_neg e, if_neg (by omega)]
end
end
section
/-! Y's near and surrounded; grow, shrink -/
section
variable {c : Int32} {fi ly ma se px py la : Nat → Int32} {S : Int → Int → Int → Bool}
theorem yn_50 {post : Int32 → Prop} {J : Int32 → Prop} (Q : YP ly S) {l i j R u : Int} (hl : 0 ≤ l ∧ l ≤ 5) (hi : 0 ≤ i ∧ i ≤ 24) (hj : 0 ≤ j ∧ j ≤ 24) (hR : 0 ≤ R ∧ R ≤ 24) (hu : (0 ≤ u ∧ u ≤ 24) ∧ i - R ≤ u ∧ u ≤ i + R)
    (f : NE (S l) i j R → post 1) (hJ : (∀ v, (0 ≤ v ∧ v ≤ 24) ∧ j - R ≤ v ∧ v ≤ j + R → S l u v = false) → J (zI (u + 1))) :
    ∀ (N : Nat) (v : Int), wLo j R ≤ v → v ≤ wHi j R + 1 → (wHi j R + 1 - v).toNat < N → (∀ v', (0 ≤ v' ∧ v' ≤ 24) ∧ j - R ≤ v' ∧ v' ≤ j + R → v' < v → S l u v' = false) → wY_near_50 post J (zI l) (zI i) (zI j) (zI R) (zI u) c ly fi ma se px py la N (zI v) := by
  have r2 := wl_r hj hR.1
  intro N
  induction N with
  | zero => intro v h0 h1; omega
  | succ N ih =>
    intro v h0 h1 h2 hb
    have hw : wHi j R = 24 ∨ wHi j R = j + R := by unfold wHi; split <;> omega
    have hw2 : wHi j R ≤ j + R := by unfold wHi; split <;> omega
    refine zb_lt (j + R) v (fun h => nm_r (zi_1 u) (hJ (fun v' hv' => hb v' hv' (by omega)))) (fun h => zb_le 25 v (fun h3 => nm_r (zi_1 u) (hJ (fun v' hv' => hb v' hv' (by omega)))) (fun h3 => ?_)) (zi_add j R)
    have e := zi_iy l u v
    have hv := (wl_i (u := v) hj hR.1).mp (by omega)
    refine ⟨zv_in (625 * l + 25 * u + v) (by omega) e, ?_⟩
    rw [zv_cl _ e, Q l u v hl.1 hl.2 (by omega)]
    refine bb_0 (fun q => nm_r (zi_1 v) (ih (v + 1) (by omega) (by omega) (by omega) (fun v' hv' hlt => ?_))) (fun q => f ⟨u, v, hu, hv, q⟩)
    by_cases e : v' = v
    · rw [e]; exact q
    · exact hb v' hv' (by omega)
theorem yn_17 {post : Int32 → Prop} (Q : YP ly S) {l i j R : Int} (hl : 0 ≤ l ∧ l ≤ 5) (hi : 0 ≤ i ∧ i ≤ 24) (hj : 0 ≤ j ∧ j ≤ 24) (hR : 0 ≤ R ∧ R ≤ 24)
    (f : NE (S l) i j R → post 1) (g : ¬ NE (S l) i j R → post 0) :
    ∀ (N : Nat) (u : Int), wLo i R ≤ u → u ≤ wHi i R + 1 → (wHi i R + 1 - u).toNat < N → (∀ u' v', ((0 ≤ u' ∧ u' ≤ 24) ∧ i - R ≤ u' ∧ u' ≤ i + R) → u' < u → ((0 ≤ v' ∧ v' ≤ 24) ∧ j - R ≤ v' ∧ v' ≤ j + R) → S l u' v' = false) → wY_near_17 post (zI l) (zI i) (zI j) (zI R) c ly fi ma se px py la N (zI u) := by
  have r1 := wl_r hi hR.1
  have r2 := wl_r hj hR.1
  intro N
  induction N with
  | zero => intro v h0 h1; omega
  | succ N ih =>
    intro u h0 h1 h2 hb
    have hw : wHi i R = 24 ∨ wHi i R = i + R := by unfold wHi; split <;> omega
    have hw2 : wHi i R ≤ i + R := by unfold wHi; split <;> omega
    have no : wHi i R < u → ¬ NE (S l) i j R := by
      rintro hlt ⟨u', v', hu', hv', hg⟩
      have h1 := (wl_i (u := u') hi hR.1).mpr hu'
      rw [hb u' v' hu' (by omega) hv'] at hg
      exact absurd hg (by decide)
    refine zb_lt (i + R) u (fun h => g (no (by omega))) (fun h => zb_le 25 u (fun h3 => g (no (by omega))) (fun h3 => ?_)) (zi_add i R)
    have hu := (wl_i (u := u) hi hR.1).mp (by omega)
    have go : ∀ v0 : Int, v0 = wLo j R → ∃ n50, wY_near_50 post (wY_near_17 post (zI l) (zI i) (zI j) (zI R) c ly fi ma se px py la N) (zI l) (zI i) (zI j) (zI R) (zI u) c ly fi ma se px py la n50 (zI v0) := by
      intro v0 ev
      refine ⟨27, yn_50 Q hl hi hj hR hu f (fun hn => ih (u + 1) (by omega) (by omega) (by omega) (fun u' v' hu' hlt hv' => ?_)) 27 v0 (by omega) (by omega) (by omega) (fun v' hv' hlt => ?_)⟩
      · by_cases e : u' = u
        · rw [e]; exact hn v' hv'
        · exact hb u' v' hu' (by omega) hv'
      · have := (wl_i (u := v') hj hR.1).mpr hv'
        omega
    refine zb_le 0 (j - R) (fun h4 => nm_r (zi_sub j R) (go _ ?_)) (fun h4 => go 0 ?_) rfl (zi_sub j R)
    · unfold wLo; split <;> omega
    · unfold wLo; rw [if_pos (by omega)]
theorem yp_near {post : Int32 → Prop} (Q : YP ly S) {l i j R : Int} (hl : 0 ≤ l ∧ l ≤ 5) (hi : 0 ≤ i ∧ i ≤ 24) (hj : 0 ≤ j ∧ j ≤ 24) (hR : 0 ≤ R ∧ R ≤ 24)
    (f : NE (S l) i j R → post 1) (g : ¬ NE (S l) i j R → post 0) : wpY_near post (c, ly, fi, ma, se, px, py, la) (zI l) (zI i) (zI j) (zI R) := by
  have r1 := wl_r hi hR.1
  have go : ∀ u0 : Int, u0 = wLo i R → ∃ n17, wY_near_17 post (zI l) (zI i) (zI j) (zI R) c ly fi ma se px py la n17 (zI u0) := by
    intro u0 eu
    refine ⟨27, yn_17 Q hl hi hj hR f g 27 u0 (by omega) (by omega) (by omega) (fun u' v' hu' hlt hv' => ?_)⟩
    have := (wl_i (u := u') hi hR.1).mpr hu'
    omega
  unfold wpY_near
  refine zb_le 0 (i - R) (fun h4 => nm_r (zi_sub i R) (go _ ?_)) (fun h4 => go 0 ?_) rfl (zi_sub i R)
  · unfold wLo; split <;> omega
  · unfold wLo; rw [if_pos (by omega)]
theorem ys_53 {post : Int32 → Prop} {J : Int32 → Prop} (Q : YP ly S) {l i j R u : Int} (hl : 0 ≤ l ∧ l ≤ 5) (hR : 0 ≤ R ∧ R ≤ 24) (hi : R ≤ i ∧ i ≤ 24 - R) (hj : R ≤ j ∧ j ≤ 24 - R) (hu : i - R ≤ u ∧ u ≤ i + R)
    (g : ¬ AL (S l) i j R → post 0) (hJ : (∀ v, j - R ≤ v → v ≤ j + R → S l u v = true) → J (zI (u + 1))) :
    ∀ (N : Nat) (v : Int), j - R ≤ v → v ≤ j + R + 1 → (j + R + 1 - v).toNat < N → (∀ v', j - R ≤ v' → v' < v → S l u v' = true) → wY_surrounded_53 post J (zI l) (zI i) (zI j) (zI R) (zI u) c ly fi ma se px py la N (zI v) := by
  intro N
  induction N with
  | zero => intro v h0 h1; omega
  | succ N ih =>
    intro v h0 h1 h2 hb
    refine zb_lt (j + R) v (fun h => nm_r (zi_1 u) (hJ (fun v' hv' h' => hb v' hv' (by omega)))) (fun h => ?_) (zi_add j R)
    have e := zi_iy l u v
    refine ⟨zv_in (625 * l + 25 * u + v) (by omega) e, ?_⟩
    rw [zv_cl _ e, Q l u v hl.1 hl.2 (by omega)]
    refine bb_0 (fun q => g (fun hA => ?_)) (fun q => nm_r (zi_1 v) (ih (v + 1) (by omega) (by omega) (by omega) (fun v' hv' hlt => ?_)))
    · have := hA.2.2 u v hu.1 hu.2 h0 h
      rw [q] at this; exact absurd this (by decide)
    · by_cases e : v' = v
      · rw [e]; exact q
      · exact hb v' hv' (by omega)
theorem ys_38 {post : Int32 → Prop} (Q : YP ly S) {l i j R : Int} (hl : 0 ≤ l ∧ l ≤ 5) (hR : 0 ≤ R ∧ R ≤ 24) (hi : R ≤ i ∧ i ≤ 24 - R) (hj : R ≤ j ∧ j ≤ 24 - R)
    (f : AL (S l) i j R → post 1) (g : ¬ AL (S l) i j R → post 0) :
    ∀ (N : Nat) (u : Int), i - R ≤ u → u ≤ i + R + 1 → (i + R + 1 - u).toNat < N → (∀ u' v', i - R ≤ u' → u' < u → j - R ≤ v' → v' ≤ j + R → S l u' v' = true) → wY_surrounded_38 post (zI l) (zI i) (zI j) (zI R) c ly fi ma se px py la N (zI u) := by
  intro N
  induction N with
  | zero => intro v h0 h1; omega
  | succ N ih =>
    intro u h0 h1 h2 hb
    refine zb_lt (i + R) u (fun h => f ⟨hi, hj, fun u' v' a1 a2 a3 a4 => hb u' v' a1 (by omega) a3 a4⟩) (fun h => nm_r (zi_sub j R) ⟨27, ?_⟩) (zi_add i R)
    refine ys_53 Q hl hR hi hj ⟨h0, h⟩ g (fun hn => ih (u + 1) (by omega) (by omega) (by omega) (fun u' v' a1 a2 a3 a4 => ?_)) 27 (j - R) (by omega) (by omega) (by omega) (fun v' hv' hlt => absurd hlt (by omega))
    by_cases e : u' = u
    · rw [e]; exact hn v' a3 a4
    · exact hb u' v' a1 (by omega) a3 a4
theorem yp_surr {post : Int32 → Prop} (Q : YP ly S) {l i j R : Int} (hl : 0 ≤ l ∧ l ≤ 5) (hi : 0 ≤ i ∧ i ≤ 24) (hj : 0 ≤ j ∧ j ≤ 24) (hR : 0 ≤ R ∧ R ≤ 24)
    (f : AL (S l) i j R → post 1) (g : ¬ AL (S l) i j R → post 0) : wpY_surrounded post (c, ly, fi, ma, se, px, py, la) (zI l) (zI i) (zI j) (zI R) := by
  have e24 : 24 - zI R = zI (24 - R) := zi_sub 24 R
  unfold wpY_surrounded
  dsimp only
  rw [e24]
  refine zb_lt i R (fun h => g (fun hA => absurd hA.1 (by omega))) (fun h1 => zb_lt (24 - R) i (fun h => g (fun hA => absurd hA.1 (by omega))) (fun h2 => zb_lt j R (fun h => g (fun hA => absurd hA.2.1 (by omega))) (fun h3 => zb_le j (24 - R) (fun h4 => nm_r (zi_sub i R) ⟨27, ?_⟩) (fun h => g (fun hA => absurd hA.2.1 (by omega))))))
  exact ys_38 Q hl hR (by omega) (by omega) f g 27 (i - R) (by omega) (by omega) (by omega) (fun u' v' a1 a2 a3 a4 => absurd a2 (by omega))
theorem yg_l {post : Int32 → SY → Prop} {l r : Int} (hl : 0 ≤ l ∧ l ≤ 5) (hr : 0 ≤ r ∧ r ≤ 12) (Q : YP ly S)
    (f : ∀ ly' ma', YP ly' (setl S l (KC (S l) (2 * r) 1)) → post 1 (c, ly', fi, ma', se, px, py, la)) :
    ∀ (N : Nat) (q : Int) (ma : Nat → Int32), 0 ≤ q → q ≤ 625 → (625 - q).toNat < N → (∀ i j, Gd i j → 25 * i + j < q → ma (25 * i + j).toNat = bI (KC (S l) (2 * r) 1 i j)) → wY_grow_22 post (zI l) (zI r) c N (zI q) ly fi ma se px py la := by
  intro N
  induction N with
  | zero => intro q ma h0 h1; omega
  | succ N ih =>
    intro q ma h0 h1 h2 hM
    refine zb_le 625 q (fun h => ?_) (fun h => ⟨by decide, by decide, ?_⟩)
    · exact yp_keep (g := KC (S l) (2 * r) 1) Q l hl (fun i j gd => hM i j gd (by omega)) (fun ly' Q' => f ly' ma Q')
    · have gq : Gd (q / 25) (q % 25) := by omega
      have st : ∀ b : Bool, b = KC (S l) (2 * r) 1 (q / 25) (q % 25) → wY_grow_22 post (zI l) (zI r) c N (zI (q + 1)) ly fi (upd ma (zI q).toNatClampNeg (vp_nar .boolean (bI b))) se px py la := by
        intro b eb
        refine ih (q + 1) _ (by omega) (by omega) (by omega) (fun i j gd hlt => ?_)
        rw [zi_cl (by omega), bi_v]
        unfold upd
        by_cases e : 25 * i + j = q
        · have ei : i = q / 25 := by omega
          have ej : j = q % 25 := by omega
          rw [if_pos (by omega), ei, ej, eb]
        · rw [if_neg (by omega)]; exact hM i j gd (by omega)
      rw [zi_d25 (by omega), zi_dbl]
      have er : zI q - zI (q / 25) * 25 = zI (q % 25) := by
        rw [← zi_d25 (by omega)]; exact zi_r25 (by omega)
      rw [er]
      refine yp_near Q hl (by omega) (by omega) (by omega) (fun hN => ⟨zv_in q (by omega), nm_e (nm_r (zi_1 q) (st true ?_))⟩) (fun hN => ⟨zv_in q (by omega), nm_e (nm_r (zi_1 q) (st false ?_))⟩)
      · exact ((kc_1 (by omega) gq).mpr hN).symm
      · cases e : KC (S l) (2 * r) 1 (q / 25) (q % 25)
        · rfl
        · exact absurd ((kc_1 (by omega) gq).mp e) hN
theorem ys_l {post : Int32 → SY → Prop} {l r : Int} (hl : 0 ≤ l ∧ l ≤ 5) (hr : 0 ≤ r ∧ r ≤ 6) (Q : YP ly S)
    (f : ∀ ly' ma', YP ly' (setl S l (KC (S l) (2 * r) ((2 * (2 * r) + 1) * (2 * (2 * r) + 1)))) → post 1 (c, ly', fi, ma', se, px, py, la)) :
    ∀ (N : Nat) (q : Int) (ma : Nat → Int32), 0 ≤ q → q ≤ 625 → (625 - q).toNat < N → (∀ i j, Gd i j → 25 * i + j < q → ma (25 * i + j).toNat = bI (KC (S l) (2 * r) ((2 * (2 * r) + 1) * (2 * (2 * r) + 1)) i j)) → wY_shrink_22 post (zI l) (zI r) c N (zI q) ly fi ma se px py la := by
  intro N
  induction N with
  | zero => intro q ma h0 h1; omega
  | succ N ih =>
    intro q ma h0 h1 h2 hM
    refine zb_le 625 q (fun h => ?_) (fun h => ⟨by decide, by decide, ?_⟩)
    · exact yp_keep (g := KC (S l) (2 * r) ((2 * (2 * r) + 1) * (2 * (2 * r) + 1))) Q l hl (fun i j gd => hM i j gd (by omega)) (fun ly' Q' => f ly' ma Q')
    · have gq : Gd (q / 25) (q % 25) := by omega
      have st : ∀ b : Bool, b = KC (S l) (2 * r) ((2 * (2 * r) + 1) * (2 * (2 * r) + 1)) (q / 25) (q % 25) → wY_shrink_22 post (zI l) (zI r) c N (zI (q + 1)) ly fi (upd ma (zI q).toNatClampNeg (vp_nar .boolean (bI b))) se px py la := by
        intro b eb
        refine ih (q + 1) _ (by omega) (by omega) (by omega) (fun i j gd hlt => ?_)
        rw [zi_cl (by omega), bi_v]
        unfold upd
        by_cases e : 25 * i + j = q
        · have ei : i = q / 25 := by omega
          have ej : j = q % 25 := by omega
          rw [if_pos (by omega), ei, ej, eb]
        · rw [if_neg (by omega)]; exact hM i j gd (by omega)
      rw [zi_d25 (by omega), zi_dbl]
      have er : zI q - zI (q / 25) * 25 = zI (q % 25) := by
        rw [← zi_d25 (by omega)]; exact zi_r25 (by omega)
      rw [er]
      refine yp_surr Q hl (by omega) (by omega) (by omega) (fun hN => ⟨zv_in q (by omega), nm_e (nm_r (zi_1 q) (st true ?_))⟩) (fun hN => ⟨zv_in q (by omega), nm_e (nm_r (zi_1 q) (st false ?_))⟩)
      · exact ((kc_2 (by omega) gq).mpr hN).symm
      · cases e : KC (S l) (2 * r) ((2 * (2 * r) + 1) * (2 * (2 * r) + 1)) (q / 25) (q % 25)
        · rfl
        · exact absurd ((kc_2 (by omega) gq).mp e) hN
end
theorem kc_c1 {g : Int → Int → Bool} {r : Int} (hr : 0 ≤ r) (H : Sup g) (C : clo g) : clo (KC g (2 * r) 1) := by
  intro i j h
  have gd := kc_s i j h
  obtain ⟨u, v, hu, hv, hg⟩ := (kc_1 (by omega) gd).mp h
  have Cg := C u v hg
  refine ⟨fun o => ⟨(kc_1 (by omega) (by omega)).mpr ?_, (kc_1 (by omega) (by omega)).mpr ?_⟩, fun o => ⟨(kc_1 (by omega) (by omega)).mpr ?_, (kc_1 (by omega) (by omega)).mpr ?_⟩⟩
  · by_cases e : u = i + 2 * r
    · have := H _ _ (Cg.1 (by omega)).1
      exact ⟨u - 1, v, by omega, hv, (Cg.1 (by omega)).1⟩
    · exact ⟨u, v, by omega, hv, hg⟩
  · by_cases e : u = i - 2 * r
    · have := H _ _ (Cg.1 (by omega)).2
      exact ⟨u + 1, v, by omega, hv, (Cg.1 (by omega)).2⟩
    · exact ⟨u, v, by omega, hv, hg⟩
  · by_cases e : v = j + 2 * r
    · have := H _ _ (Cg.2 (by omega)).1
      exact ⟨u, v - 1, hu, by omega, (Cg.2 (by omega)).1⟩
    · exact ⟨u, v, hu, by omega, hg⟩
  · by_cases e : v = j - 2 * r
    · have := H _ _ (Cg.2 (by omega)).2
      exact ⟨u, v + 1, hu, by omega, (Cg.2 (by omega)).2⟩
    · exact ⟨u, v, hu, by omega, hg⟩
theorem kc_c2 {g : Int → Int → Bool} {r : Int} (hr : 0 ≤ r) (C : clo g) : clo (KC g (2 * r) ((2 * (2 * r) + 1) * (2 * (2 * r) + 1))) := by
  intro i j h
  have gd := kc_s i j h
  obtain ⟨h1, h2, h3⟩ := (kc_2 (by omega) gd).mp h
  refine ⟨fun o => ⟨(kc_2 (by omega) (by omega)).mpr ⟨by omega, h2, fun u v a1 a2 a3 a4 => ?_⟩, (kc_2 (by omega) (by omega)).mpr ⟨by omega, h2, fun u v a1 a2 a3 a4 => ?_⟩⟩, fun o => ⟨(kc_2 (by omega) (by omega)).mpr ⟨h1, by omega, fun u v a1 a2 a3 a4 => ?_⟩, (kc_2 (by omega) (by omega)).mpr ⟨h1, by omega, fun u v a1 a2 a3 a4 => ?_⟩⟩⟩
  · by_cases e : u = i - 2 * r - 1
    · have := (C _ _ (h3 (u + 1) v (by omega) (by omega) a3 a4)).1 (by omega)
      have z : u + 1 - 1 = u := by omega
      rw [z] at this; exact this.1
    · exact h3 u v (by omega) (by omega) a3 a4
  · by_cases e : u = i + 2 * r + 1
    · have := (C _ _ (h3 (u - 1) v (by omega) (by omega) a3 a4)).1 (by omega)
      have z : u - 1 + 1 = u := by omega
      rw [z] at this; exact this.2
    · exact h3 u v (by omega) (by omega) a3 a4
  · by_cases e : v = j - 2 * r - 1
    · have := (C _ _ (h3 u (v + 1) a1 a2 (by omega) (by omega))).2 (by omega)
      have z : v + 1 - 1 = v := by omega
      rw [z] at this; exact this.1
    · exact h3 u v a1 a2 (by omega) (by omega)
  · by_cases e : v = j + 2 * r + 1
    · have := (C _ _ (h3 u (v - 1) a1 a2 (by omega) (by omega))).2 (by omega)
      have z : v - 1 + 1 = v := by omega
      rw [z] at this; exact this.2
    · exact h3 u v a1 a2 (by omega) (by omega)
theorem yp_c {ly : Nat → Int32} {S S' : Int → Int → Int → Bool} (Q : YP ly S) (h : ∀ s, s ≤ 5 → S' s = S s) : YP ly S' := by
  intro l i j l0 l5 gd
  rw [h l l5]; exact Q l i j l0 l5 gd
theorem cl_c {S S' : Int → Int → Int → Bool} (C : CL S) (h : ∀ s, s ≤ 5 → S' s = S s) : CL S' := by
  intro l l0 l5
  rw [h l l5]; exact C l l0 l5
theorem i_vc_grow {k : Nat} {u : SX} {v : SY} (I : i_Rel k u v) (hk : k + 5 ≤ 2560) (v1 : Int32) (v2 : Int32) : wpX_grow (fun r u' => wpY_grow (fun r' v' => r' = r ∧ i_Rel (k + 5) u' v') v v1 v2) u v1 v2 := by
  obtain ⟨c, rc, gc, lr, rk, a, cx, cy, re, st, dg⟩ := u
  obtain ⟨c', ly, fi, ma, se, px, py, la⟩ := v
  obtain ⟨S, n, X, Y, P, Q, C, T, rfl, rfl⟩ := I
  obtain ⟨l, hl, rfl⟩ := zi_ex v1
  obtain ⟨w, hw, rfl⟩ := zi_ex v2
  have R0 : i_Rel (k + 5) (zI n, rc, gc, lr, rk, a, cx, cy, re, st, dg) (zI n, ly, fi, ma, se, px, py, la) := i_mk P Q C T
  have Yc : ∀ post : Int32 → SY → Prop, ((0 ≤ l ∧ l ≤ 5) ∧ (0 ≤ w ∧ w ≤ 12) → ∃ N, wY_grow_22 post (zI l) (zI w) (zI n) N 0 ly fi ma se px py la) → (¬ ((0 ≤ l ∧ l ≤ 5) ∧ (0 ≤ w ∧ w ≤ 12)) → post 0 (zI n, ly, fi, ma, se, px, py, la)) → wpY_grow post (zI n, ly, fi, ma, se, px, py, la) (zI l) (zI w) := by
    intro post f g
    unfold wpY_grow
    refine yg_layer l hl (fun h1 => b1_f ?_) (fun h1 => b0_t (g (by omega)))
    exact zb_lt w 0 (fun h => g (by omega)) (fun h0 => zb_le w 12 (fun h => f (by omega)) (fun h => g (by omega)))
  unfold wpX_grow
  refine xg_layer l hl (fun h1 => b1_f ?_) (fun h1 => b0_t (Yc _ (fun h => absurd h.1 h1) (fun _ => ⟨rfl, R0⟩)))
  refine zb_lt w 0 (fun h2 => Yc _ (fun h => absurd h2 (by omega)) (fun _ => ⟨rfl, R0⟩)) (fun h2 => zb_le w 12 (fun h3 => ?_) (fun h3 => Yc _ (fun h => absurd h3 (by omega)) (fun _ => ⟨rfl, R0⟩)))
  rw [zi_dbl]
  refine xp_kc (m := 1) P h1 (by omega) (by omega) (fun a2 S2 P2 e2 => ?_)
  refine Yc _ (fun _ => ⟨626, ?_⟩) (fun h => absurd ⟨h1, h2, h3⟩ h)
  refine yg_l h1 ⟨h2, h3⟩ Q (fun ly' ma' Q' => ⟨rfl, ?_⟩) 626 0 ma (by omega) (by omega) (by omega) (fun i j gd hlt => absurd hlt (by omega))
  exact i_mk P2 (yp_c Q' e2) (cl_c (cl_set C (kc_c1 h2 (fun i j => P.2 l i j) (C l h1.1 h1.2))) e2) T
theorem i_vc_shrink {k : Nat} {u : SX} {v : SY} (I : i_Rel k u v) (hk : k + 5 ≤ 2560) (v1 : Int32) (v2 : Int32) : wpX_shrink (fun r u' => wpY_shrink (fun r' v' => r' = r ∧ i_Rel (k + 5) u' v') v v1 v2) u v1 v2 := by
  obtain ⟨c, rc, gc, lr, rk, a, cx, cy, re, st, dg⟩ := u
  obtain ⟨c', ly, fi, ma, se, px, py, la⟩ := v
  obtain ⟨S, n, X, Y, P, Q, C, T, rfl, rfl⟩ := I
  obtain ⟨l, hl, rfl⟩ := zi_ex v1
  obtain ⟨w, hw, rfl⟩ := zi_ex v2
  have R0 : i_Rel (k + 5) (zI n, rc, gc, lr, rk, a, cx, cy, re, st, dg) (zI n, ly, fi, ma, se, px, py, la) := i_mk P Q C T
  have Yc : ∀ post : Int32 → SY → Prop, ((0 ≤ l ∧ l ≤ 5) ∧ (0 ≤ w ∧ w ≤ 6) → ∃ N, wY_shrink_22 post (zI l) (zI w) (zI n) N 0 ly fi ma se px py la) → (¬ ((0 ≤ l ∧ l ≤ 5) ∧ (0 ≤ w ∧ w ≤ 6)) → post 0 (zI n, ly, fi, ma, se, px, py, la)) → wpY_shrink post (zI n, ly, fi, ma, se, px, py, la) (zI l) (zI w) := by
    intro post f g
    unfold wpY_shrink
    refine yg_layer l hl (fun h1 => b1_f ?_) (fun h1 => b0_t (g (by omega)))
    exact zb_lt w 0 (fun h => g (by omega)) (fun h0 => zb_le w 6 (fun h => f (by omega)) (fun h => g (by omega)))
  unfold wpX_shrink
  refine xg_layer l hl (fun h1 => b1_f ?_) (fun h1 => b0_t (Yc _ (fun h => absurd h.1 h1) (fun _ => ⟨rfl, R0⟩)))
  refine zb_lt w 0 (fun h2 => Yc _ (fun h => absurd h2 (by omega)) (fun _ => ⟨rfl, R0⟩)) (fun h2 => zb_le w 6 (fun h3 => ?_) (fun h3 => Yc _ (fun h => absurd h3 (by omega)) (fun _ => ⟨rfl, R0⟩)))
  have e4 : (4 * zI w) + 1 = zI (2 * (2 * w) + 1) := by
    have e : 4 * zI w = zI (4 * w) := zi_mul 4 w
    rw [e, zi_1]; apply congrArg zI; omega
  refine nm_r e4 ?_
  rw [zi_dbl, zi_mul]
  have hb : 0 ≤ (2 * (2 * w) + 1) * (2 * (2 * w) + 1) ∧ (2 * (2 * w) + 1) * (2 * (2 * w) + 1) ≤ 10000 := by
    have e : w = 0 ∨ w = 1 ∨ w = 2 ∨ w = 3 ∨ w = 4 ∨ w = 5 ∨ w = 6 := by omega
    rcases e with rfl | rfl | rfl | rfl | rfl | rfl | rfl <;> decide
  refine xp_kc P h1 (by omega) hb (fun a2 S2 P2 e2 => ?_)
  refine Yc _ (fun _ => ⟨626, ?_⟩) (fun h => absurd ⟨h1, h2, h3⟩ h)
  refine ys_l h1 ⟨h2, h3⟩ Q (fun ly' ma' Q' => ⟨rfl, ?_⟩) 626 0 ma (by omega) (by omega) (by omega) (fun i j gd hlt => absurd hlt (by omega))
  exact i_mk P2 (yp_c Q' e2) (cl_c (cl_set C (kc_c2 h2 (C l h1.1 h1.2))) e2) T
end
section
/-! spreading: a queue as ghost -/
def InQ (m : Nat) (qi qj : Nat → Int) (i j : Int) : Prop := ∃ k, k < m ∧ qi k = i ∧ qj k = j
def qp (m : Nat) (q : Nat → Int) (x : Int) : Nat → Int := fun k => if k = m then x else q k
def NbC (G : Int → Int → Bool) (m : Nat) (qi qj qd : Nat → Int) (k : Nat) (d : Int) : Prop :=
  G (qi k + eaD d) (qj k + noD d) = true → ∃ k', k' < m ∧ qi k' = qi k + eaD d ∧ qj k' = qj k + noD d ∧ qd k' ≤ qd k + 1
def BF0 (G : Int → Int → Bool) (i0 j0 : Int) (m : Nat) (qi qj qd : Nat → Int) : Prop :=
  (G i0 j0 = true → 1 ≤ m) ∧ (G i0 j0 = false → m = 0) ∧ (1 ≤ m → qi 0 = i0 ∧ qj 0 = j0 ∧ qd 0 = 0) ∧ (∀ k, k < m → G (qi k) (qj k) = true) ∧
  (∀ k k', k < m → k' < m → qi k = qi k' → qj k = qj k' → k = k') ∧
  (∀ k, k < m → 0 < k → ∃ k' d, k' < k ∧ (0 ≤ d ∧ d ≤ 3) ∧ qi k = qi k' + eaD d ∧ qj k = qj k' + noD d ∧ qd k = qd k' + 1) ∧
  (∀ k k', k ≤ k' → k' < m → qd k ≤ qd k')
def BF (G : Int → Int → Bool) (i0 j0 : Int) (n : Nat) (dd : Int) (m : Nat) (qi qj qd : Nat → Int) : Prop :=
  BF0 G i0 j0 m qi qj qd ∧ (n < m → ∀ k, k < m → qd k ≤ qd n + 1) ∧ (∀ k, k < m → k < n → ∀ d, 0 ≤ d → d ≤ 3 → NbC G m qi qj qd k d) ∧ (n < m → ∀ d, 0 ≤ d → d < dd → NbC G m qi qj qd n d)
/-- what a spreading leaves -/
def FIN (G : Int → Int → Bool) (i0 j0 : Int) (m : Nat) (qi qj qd : Nat → Int) : Prop :=
  BF0 G i0 j0 m qi qj qd ∧ (∀ k, k < m → ∀ d, 0 ≤ d → d ≤ 3 → NbC G m qi qj qd k d)
theorem bf_next {G : Int → Int → Bool} {i0 j0 : Int} {n m : Nat} {qi qj qd : Nat → Int} (h : BF G i0 j0 n 4 m qi qj qd) (hn : n < m) : BF G i0 j0 (n + 1) 0 m qi qj qd := by
  obtain ⟨h0, h1, h2, h3⟩ := h
  refine ⟨h0, fun hm k hk => ?_, fun k hk hk2 d d0 d3 => ?_, fun _ d d0 d1 => absurd d1 (by omega)⟩
  · have := h1 hn k hk
    have := h0.2.2.2.2.2.2 n (n + 1) (by omega) hm
    omega
  · by_cases e : k = n
    · subst e; exact h3 hn d d0 (by omega)
    · exact h2 k hk (by omega) d d0 d3
theorem bf_fin {G : Int → Int → Bool} {i0 j0 : Int} {n m : Nat} {dd : Int} {qi qj qd : Nat → Int} (h : BF G i0 j0 n dd m qi qj qd) (hn : m ≤ n) : FIN G i0 j0 m qi qj qd :=
  ⟨h.1, fun k hk d d0 d3 => h.2.2.1 k hk (by omega) d d0 d3⟩
theorem bf_skip {G : Int → Int → Bool} {i0 j0 : Int} {n m : Nat} {dd : Int} {qi qj qd : Nat → Int} (h : BF G i0 j0 n dd m qi qj qd) (hs : ¬ (G (qi n + eaD dd) (qj n + noD dd) = true ∧ ¬ InQ m qi qj (qi n + eaD dd) (qj n + noD dd))) : BF G i0 j0 n (dd + 1) m qi qj qd := by
  obtain ⟨h0, h1, h2, h3⟩ := h
  refine ⟨h0, h1, h2, fun hn d d0 d1 => ?_⟩
  by_cases e : d = dd
  · subst e
    intro hg
    rcases Classical.em (InQ m qi qj (qi n + eaD d) (qj n + noD d)) with hq | hq
    · obtain ⟨k', hk', e1, e2⟩ := hq
      exact ⟨k', hk', e1, e2, h1 hn k' hk'⟩
    · exact absurd ⟨hg, hq⟩ hs
  · exact h3 hn d d0 (by omega)
theorem nb_push {G : Int → Int → Bool} {m : Nat} {qi qj qd : Nat → Int} {x y z : Int} {k : Nat} {d : Int} (hk : k < m) (h : NbC G m qi qj qd k d) : NbC G (m + 1) (qp m qi x) (qp m qj y) (qp m qd z) k d := by
  intro hg
  have e1 : qp m qi x k = qi k := if_neg (by omega)
  have e2 : qp m qj y k = qj k := if_neg (by omega)
  have e3 : qp m qd z k = qd k := if_neg (by omega)
  rw [e1, e2] at hg ⊢
  rw [e3]
  obtain ⟨k', hk', a1, a2, a3⟩ := h hg
  refine ⟨k', by omega, ?_, ?_, ?_⟩
  · unfold qp; rw [if_neg (by omega)]; exact a1
  · unfold qp; rw [if_neg (by omega)]; exact a2
  · unfold qp; rw [if_neg (by omega)]; exact a3
theorem bf_push {G : Int → Int → Bool} {i0 j0 : Int} {n m : Nat} {dd : Int} {qi qj qd : Nat → Int} (h : BF G i0 j0 n dd m qi qj qd) (hn : n < m) (hd : 0 ≤ dd ∧ dd ≤ 3) (hg : G (qi n + eaD dd) (qj n + noD dd) = true) (hq : ¬ InQ m qi qj (qi n + eaD dd) (qj n + noD dd)) :
    BF G i0 j0 n (dd + 1) (m + 1) (qp m qi (qi n + eaD dd)) (qp m qj (qj n + noD dd)) (qp m qd (qd n + 1)) := by
  obtain ⟨⟨a1, a2, a3, a4, a5, a6, a7⟩, h1, h2, h3⟩ := h
  have o : ∀ (q : Nat → Int) (x : Int) (k : Nat), k < m → qp m q x k = q k := fun q x k hk => if_neg (by omega)
  have nw : ∀ (q : Nat → Int) (x : Int), qp m q x m = x := fun q x => if_pos rfl
  refine ⟨⟨fun _ => by omega, fun hf => ?_, fun _ => ?_, fun k hk => ?_, fun k k' hk hk' e1 e2 => ?_, fun k hk k0 => ?_, fun k k' hkk hk' => ?_⟩, fun _ k hk => ?_, fun k hk hkn d d0 d3 => ?_, fun _ d d0 d1 => ?_⟩
  · have := a2 hf; omega
  · rw [o _ _ 0 (by omega), o _ _ 0 (by omega), o _ _ 0 (by omega)]; exact a3 (by omega)
  · by_cases e : k = m
    · subst e; rw [nw, nw]; exact hg
    · rw [o _ _ k (by omega), o _ _ k (by omega)]; exact a4 k (by omega)
  · by_cases e : k = m
    · by_cases e' : k' = m
      · omega
      · subst e
        rw [nw, o _ _ k' (by omega)] at e1 e2
        exact absurd ⟨k', by omega, e1.symm, e2.symm⟩ hq
    · by_cases e' : k' = m
      · subst e'
        rw [nw, o _ _ k (by omega)] at e1 e2
        exact absurd ⟨k, by omega, e1, e2⟩ hq
      · rw [o _ _ k (by omega), o _ _ k' (by omega)] at e1 e2
        exact a5 k k' (by omega) (by omega) e1 e2
  · by_cases e : k = m
    · subst e
      refine ⟨n, dd, hn, hd, ?_, ?_, ?_⟩
      · rw [nw, o _ _ n hn]
      · rw [nw, o _ _ n hn]
      · rw [nw, o _ _ n hn]
    · obtain ⟨k', d, b1, b2, b3, b4, b5⟩ := a6 k (by omega) k0
      refine ⟨k', d, b1, b2, ?_, ?_, ?_⟩
      · rw [o _ _ k (by omega), o _ _ k' (by omega)]; exact b3
      · rw [o _ _ k (by omega), o _ _ k' (by omega)]; exact b4
      · rw [o _ _ k (by omega), o _ _ k' (by omega)]; exact b5
  · by_cases e : k' = m
    · subst e
      rw [nw]
      by_cases e2 : k = k'
      · subst e2; rw [nw]; omega
      · rw [o _ _ k (by omega)]; exact h1 hn k (by omega)
    · rw [o _ _ k (by omega), o _ _ k' (by omega)]; exact a7 k k' hkk (by omega)
  · rw [o _ _ n hn]
    by_cases e : k = m
    · subst e; rw [nw]; omega
    · rw [o _ _ k (by omega)]; exact h1 hn k (by omega)
  · exact nb_push (by omega) (h2 k (by omega) hkn d d0 d3)
  · by_cases e : d = dd
    · subst e
      intro _
      refine ⟨m, by omega, ?_, ?_, ?_⟩
      · rw [nw, o _ _ n hn]
      · rw [nw, o _ _ n hn]
      · rw [nw, o _ _ n hn]; omega
    · exact nb_push hn (h3 hn d d0 (by omega))
/-- pigeons -/
theorem ph {N m : Nat} (f : Nat → Nat) (h1 : ∀ k, k < m → f k < N) (h2 : ∀ k k', k < m → k' < m → f k = f k' → k = k') : m ≤ N := by
  have e := cn_bij (P := fun _ => true) (N := N) (fun _ => true) f m (fun n => (List.range m).any (fun k => f k == n)) (fun k hk _ => ⟨h1 k hk, by
    rw [List.any_eq_true]; exact ⟨k, List.mem_range.mpr hk, by simp⟩⟩) (fun k k' hk hk' _ _ => h2 k k' hk hk') (fun n hn hp => by
    rw [List.any_eq_true] at hp
    obtain ⟨k, hk, e⟩ := hp
    exact ⟨k, List.mem_range.mp hk, rfl, by simpa using e⟩)
  have l := cn_le (fun n => (List.range m).any (fun k => f k == n)) N
  have l2 : m ≤ cnt (fun _ => true) m := cn_full.mpr (fun _ _ => rfl)
  omega
def QA (m : Nat) (qi qj qd : Nat → Int) (re st : Nat → Int32) : Prop := ∀ k, k < m → re k = zI (25 * qj k + qi k) ∧ st k = zI (qd k)
theorem qa_p {m : Nat} {qi qj qd : Nat → Int} {re st : Nat → Int32} (h : QA m qi qj qd re st) {x y z : Int} : QA (m + 1) (qp m qi x) (qp m qj y) (qp m qd z) (upd re m (zI (25 * y + x))) (upd st m (zI z)) := by
  intro k hk
  unfold upd qp
  by_cases e : k = m
  · simp only [if_pos e]; exact ⟨trivial, trivial⟩
  · simp only [if_neg e]; exact h k (by omega)
theorem bf_m {G : Int → Int → Bool} (H : Sup G) {i0 j0 : Int} {m : Nat} {qi qj qd : Nat → Int} (h : BF0 G i0 j0 m qi qj qd) : m ≤ 625 := by
  refine ph (fun k => (25 * qj k + qi k).toNat) (fun k hk => ?_) (fun k k' hk hk' e => ?_)
  · have := H _ _ (h.2.2.2.1 k hk); show (25 * qj k + qi k).toNat < 625; omega
  · have a1 := H _ _ (h.2.2.2.1 k hk)
    have a2 := H _ _ (h.2.2.2.1 k' hk')
    have e' : (25 * qj k + qi k).toNat = (25 * qj k' + qi k').toNat := e
    exact h.2.2.2.2.1 k k' hk hk' (by omega) (by omega)
theorem bf_m1 {G : Int → Int → Bool} (H : Sup G) {i0 j0 : Int} {m : Nat} {qi qj qd : Nat → Int} (h : BF0 G i0 j0 m qi qj qd) {i j : Int} (hg : G i j = true) (hq : ¬ InQ m qi qj i j) : m < 625 := by
  have gd := H _ _ hg
  have key : m + 1 ≤ 625 := by
    refine ph (fun k => if k = m then (25 * j + i).toNat else (25 * qj k + qi k).toNat) (fun k hk => ?_) (fun k k' hk hk' e => ?_)
    · show (if k = m then (25 * j + i).toNat else (25 * qj k + qi k).toNat) < 625
      split
      · omega
      · have := H _ _ (h.2.2.2.1 k (by omega)); omega
    · have e' : (if k = m then (25 * j + i).toNat else (25 * qj k + qi k).toNat) = (if k' = m then (25 * j + i).toNat else (25 * qj k' + qi k').toNat) := e
      by_cases c1 : k = m
      · by_cases c2 : k' = m
        · omega
        · rw [if_pos c1, if_neg c2] at e'
          have a2 := H _ _ (h.2.2.2.1 k' (by omega))
          exact absurd ⟨k', by omega, by omega, by omega⟩ hq
      · by_cases c2 : k' = m
        · rw [if_neg c1, if_pos c2] at e'
          have a2 := H _ _ (h.2.2.2.1 k (by omega))
          exact absurd ⟨k, by omega, by omega, by omega⟩ hq
        · rw [if_neg c1, if_neg c2] at e'
          have a1 := H _ _ (h.2.2.2.1 k (by omega))
          have a2 := H _ _ (h.2.2.2.1 k' (by omega))
          exact h.2.2.2.2.1 k k' (by omega) (by omega) (by omega) (by omega)
  omega
/-- the state while it spreads -/
def STQ (S0 : Int → Int → Int → Bool) (m : Nat) (qi qj qd : Nat → Int) (a re st : Nat → Int32) (S : Int → Int → Int → Bool) : Prop :=
  XP a S ∧ (∀ s, s ≠ 6 → S s = S0 s) ∧ (∀ i j, S 6 i j = true ↔ S0 6 i j = true ∧ ¬ InQ m qi qj i j) ∧ QA m qi qj qd re st
theorem stq_p {S0 S : Int → Int → Int → Bool} {m : Nat} {qi qj qd : Nat → Int} {a a' re st : Nat → Int32} (h : STQ S0 m qi qj qd a re st S) {i j z : Int} (P : XP a' (sto S 6 i j false)) : STQ S0 (m + 1) (qp m qi i) (qp m qj j) (qp m qd z) a' (upd re m (zI (25 * j + i))) (upd st m (zI z)) (sto S 6 i j false) := by
  obtain ⟨h1, h2, h3, h4⟩ := h
  refine ⟨P, fun s hs => ?_, fun i' j' => ?_, qa_p h4⟩
  · rw [← h2 s hs]; funext i' j'; unfold sto; rw [if_neg (fun q => hs q.1)]
  · unfold sto
    by_cases q : (6 : Int) = 6 ∧ i' = i ∧ j' = j
    · rw [if_pos q]
      refine ⟨fun z => (nomatch z), fun z => absurd ⟨m, by omega, ?_, ?_⟩ z.2⟩
      · unfold qp; rw [if_pos rfl, q.2.1]
      · unfold qp; rw [if_pos rfl, q.2.2]
    · rw [if_neg q, h3 i' j']
      refine ⟨fun z => ⟨z.1, ?_⟩, fun z => ⟨z.1, ?_⟩⟩
      · rintro ⟨k, hk, e1, e2⟩
        unfold qp at e1 e2
        by_cases e : k = m
        · rw [if_pos e] at e1 e2; exact q ⟨rfl, e1.symm, e2.symm⟩
        · rw [if_neg e] at e1 e2; exact z.2 ⟨k, by omega, e1, e2⟩
      · rintro ⟨k, hk, e1, e2⟩
        refine z.2 ⟨k, by omega, ?_, ?_⟩
        · unfold qp; rw [if_neg (by omega)]; exact e1
        · unfold qp; rw [if_neg (by omega)]; exact e2
section
variable {c gc lr rk : Int32} {cx cy dg : Nat → Int32} {S0 : Int → Int → Int → Bool}
theorem xp_reach {post : SX → Prop} {a re st : Nat → Int32} {S : Int → Int → Int → Bool} (P : XP a S) {m : Nat} (hm : m ≤ 625) (i j z : Int) (hi : -10 ≤ i ∧ i ≤ 40) (hj : -10 ≤ j ∧ j ≤ 40) (hlt : S 6 i j = true → m < 625)
    (f : S 6 i j = false → post (c, zI m, gc, lr, rk, a, cx, cy, re, st, dg))
    (g : S 6 i j = true → ∀ a', XP a' (sto S 6 i j false) → post (c, zI (m + 1 : Nat), gc, lr, rk, a', cx, cy, upd re m (zI (25 * j + i)), upd st m (zI z), dg)) : wpX_reach post (c, zI m, gc, lr, rk, a, cx, cy, re, st, dg) (zI i) (zI j) (zI z) := by
  unfold wpX_reach
  refine xp_has P 6 i j (by omega) (by omega) (by omega) (bb_0 (fun e => f e) (fun e => ?_))
  have hl := hlt e
  refine zb_le 625 (m : Int) (fun h => absurd h (by omega)) (fun _ => ?_)
  refine xp_write P 6 i j false (by omega) (P.2 6 i j e) (fun a' P' => ?_)
  unfold wpX_spot
  refine ⟨zv_in (m : Int) (by omega), nm_e ⟨zv_in (m : Int) (by omega), nm_e (nm_r (zi_1 _) ?_)⟩⟩
  have e1 : (zI j * 25) + zI i = zI (25 * j + i) := by
    have e : zI j * 25 = zI (j * 25) := zi_mul j 25
    rw [e, zi_add]; apply congrArg zI; omega
  rw [e1, zi_cl (by omega), Int.toNat_natCast]
  exact g e a' P'
theorem sp_64 {post : SX → Prop} {J : Int32 → Int32 → Int32 → Int32 → Int32 → Int32 → (Nat → Int32) → (Nat → Int32) → (Nat → Int32) → (Nat → Int32) → (Nat → Int32) → (Nat → Int32) → Prop} (H : Sup (S0 6)) {i0 j0 : Int} {n : Nat} {x y z : Int} (hx : 0 ≤ x ∧ x ≤ 24) (hy : 0 ≤ y ∧ y ≤ 24)
    (hJ : ∀ m qi qj qd a re st S, n < m → BF (S0 6) i0 j0 n 4 m qi qj qd → STQ S0 m qi qj qd a re st S → J (zI (n + 1 : Nat)) c (zI m) gc lr rk a cx cy re st dg) :
    ∀ (N : Nat) (dd : Int) (m : Nat) (qi qj qd : Nat → Int) (a re st : Nat → Int32) (S : Int → Int → Int → Bool), 0 ≤ dd → dd ≤ 4 → (4 - dd).toNat < N → n < m → qi n = x → qj n = y → qd n = z → BF (S0 6) i0 j0 n dd m qi qj qd → STQ S0 m qi qj qd a re st S → wX_spread_64 post J (zI n) (zI x) (zI y) (zI (z + 1)) N (zI dd) c (zI m) gc lr rk a cx cy re st dg := by
  intro N
  induction N with
  | zero => intro dd m qi qj qd a re st S h0 h1 h2; omega
  | succ N ih =>
    intro dd m qi qj qd a re st S h0 h1 h2 hn ex ey ez hB hS
    refine zb_lt 3 dd (fun h => nm_r (zi_1 _) ?_) (fun h => ?_)
    · have e : dd = 4 := by omega
      subst e; exact hJ m qi qj qd a re st S hn hB hS
    · have r1 := ea_r dd
      have r2 := no_r dd
      refine xp_east dd (by omega) (nm_r (zi_add _ _) (xp_north dd (by omega) (nm_r (zi_add _ _) ?_)))
      have hm := bf_m H hB.1
      refine xp_reach hS.1 hm _ _ (z + 1) (by omega) (by omega) (fun e => ?_) (fun e => nm_r (zi_1 dd) ?_) (fun e a' P' => nm_r (zi_1 dd) ?_)
      · have := (hS.2.2.1 _ _).mp e
        exact bf_m1 H hB.1 this.1 this.2
      · refine ih (dd + 1) m qi qj qd a re st S (by omega) (by omega) (by omega) hn ex ey ez (bf_skip hB ?_) hS
        rw [ex, ey]
        intro hh
        have := (hS.2.2.1 _ _).mpr hh
        rw [e] at this; exact absurd this (by decide)
      · have := (hS.2.2.1 _ _).mp e
        rw [← ex, ← ey] at this
        have hB' := bf_push hB hn (by omega) this.1 this.2
        rw [ex, ey, ez] at hB'
        refine ih (dd + 1) (m + 1) _ _ _ a' _ _ _ (by omega) (by omega) (by omega) (by omega) ?_ ?_ ?_ hB' (stq_p hS P')
        · unfold qp; rw [if_neg (by omega)]; exact ex
        · unfold qp; rw [if_neg (by omega)]; exact ey
        · unfold qp; rw [if_neg (by omega)]; exact ez
theorem sp_14 {post : SX → Prop} (H : Sup (S0 6)) {i0 j0 : Int}
    (f : ∀ m qi qj qd a re st S, FIN (S0 6) i0 j0 m qi qj qd → STQ S0 m qi qj qd a re st S → post (c, zI m, gc, lr, rk, a, cx, cy, re, st, dg)) :
    ∀ (N n : Nat) (m : Nat) (qi qj qd : Nat → Int) (a re st : Nat → Int32) (S : Int → Int → Int → Bool), n ≤ m → 625 - n < N → BF (S0 6) i0 j0 n 0 m qi qj qd → STQ S0 m qi qj qd a re st S → wX_spread_14 post N (zI n) c (zI m) gc lr rk a cx cy re st dg := by
  intro N
  induction N with
  | zero => intro n m qi qj qd a re st S h0 h1; omega
  | succ N ih =>
    intro n m qi qj qd a re st S h0 h1 hB hS
    have hm := bf_m H hB.1
    refine zb_le 625 (n : Int) (fun h => f m qi qj qd a re st S (bf_fin hB (by omega)) hS) (fun h => zb_le (m : Int) (n : Int) (fun h2 => f m qi qj qd a re st S (bf_fin hB (by omega)) hS) (fun h2 => ?_))
    have q := hS.2.2.2 n (by omega)
    have gd := H _ _ (hB.1.2.2.2.1 n (by omega))
    have v1 : vp_in (zI n) 625 := zv_in (n : Int) (by omega)
    have c1 : (zI n).toNatClampNeg = n := by rw [zi_cl (by omega), Int.toNat_natCast]
    rw [c1, q.1, q.2]
    have e4 : zI (25 * qj n + qi n) - zI (25 * qj n + qi n) / 25 * 25 = zI (qi n) := by
      rw [zi_r25 (by omega)]; apply congrArg zI; omega
    have e5 : zI (25 * qj n + qi n) / 25 = zI (qj n) := by
      rw [zi_d25 (by omega)]; apply congrArg zI; omega
    refine ⟨v1, by decide, nm_r e4 ⟨v1, by decide, nm_r e5 ⟨v1, nm_r (zi_1 _) ⟨5, ?_⟩⟩⟩⟩
    exact sp_64 H (by omega) (by omega) (fun m' qi' qj' qd' a' re' st' S' hn' hB' hS' => ih (n + 1) m' qi' qj' qd' a' re' st' S' (by omega) (by omega) (bf_next hB' hn') hS') 5 0 m qi qj qd a re st S (by omega) (by omega) (by omega) (by omega) rfl rfl rfl hB hS
theorem xp_spread {post : SX → Prop} {rc : Int32} {a re st : Nat → Int32} (P : XP a S0) (i j : Int) (hg : Gd i j)
    (f : ∀ m qi qj qd a re st S, FIN (S0 6) i j m qi qj qd → STQ S0 m qi qj qd a re st S → post (c, zI m, gc, lr, rk, a, cx, cy, re, st, dg)) : wpX_spread post (c, rc, gc, lr, rk, a, cx, cy, re, st, dg) (zI i) (zI j) := by
  have H : Sup (S0 6) := fun i j => P.2 6 i j
  unfold wpX_spread
  have S00 : STQ S0 0 (fun _ => 0) (fun _ => 0) (fun _ => 0) a re st S0 := ⟨P, fun _ _ => rfl, fun i j => ⟨fun h => ⟨h, fun ⟨k, hk, _⟩ => by omega⟩, fun h => h.1⟩, fun k hk => absurd hk (by omega)⟩
  refine xp_reach (m := 0) P (by omega) i j 0 (by omega) (by omega) (fun _ => by omega) (fun e => ⟨626, ?_⟩) (fun e a' P' => ⟨626, ?_⟩)
  · refine sp_14 H f 626 0 0 (fun _ => 0) (fun _ => 0) (fun _ => 0) a re st S0 (by omega) (by omega) ⟨⟨fun h => ?_, fun _ => rfl, fun h => absurd h (by omega), fun k hk => absurd hk (by omega), fun k k' hk => absurd hk (by omega), fun k hk => absurd hk (by omega), fun k k' _ hk => absurd hk (by omega)⟩, fun h => absurd h (by omega), fun k hk => absurd hk (by omega), fun h => absurd h (by omega)⟩ S00
    rw [e] at h; exact absurd h (by decide)
  · have hS := stq_p (z := 0) S00 P'
    refine sp_14 H f 626 0 (0 + 1) (qp 0 (fun _ => 0) i) (qp 0 (fun _ => 0) j) (qp 0 (fun _ => 0) 0) a' _ _ (sto S0 6 i j false) (by omega) (by omega) ⟨⟨fun h => by omega, fun h => ?_, fun _ => ⟨rfl, rfl, rfl⟩, fun k hk => ?_, fun k k' hk hk' _ _ => by omega, fun k hk k0 => absurd k0 (by omega), fun k k' hkk hk => ?_⟩, fun _ k hk => ?_, fun k hk hk0 => absurd hk0 (by omega), fun _ d d0 d1 => absurd d1 (by omega)⟩ hS
    · rw [e] at h; exact absurd h (by decide)
    · have : k = 0 := by omega
      subst this; exact e
    · have e1 : k = 0 := by omega
      have e2 : k' = 0 := by omega
      subst e1; subst e2; exact Int.le_refl _
    · have e1 : k = 0 := by omega
      subst e1; show (0 : Int) ≤ 0 + 1; omega
end
end
section
/-! route -/
/-- the neighbour of a point index, and the atom between -/
def nbP (n d : Int) : Int := n + eaD d + 13 * noD d
abbrev EdP (g : Int → Int → Bool) (n d : Int) : Prop := g (2 * (n % 13) + eaD d) (2 * (n / 13) + noD d) = true
def FXn (g : Int → Int → Bool) (L : Int → Int) (n : Int) : Prop := ∀ d, 0 ≤ d → d ≤ 3 → EdP g n d → L n ≤ L (nbP n d) + 1
theorem d4 {d : Int} (h : 0 ≤ d ∧ d ≤ 3) : d = 0 ∨ d = 1 ∨ d = 2 ∨ d = 3 := by omega
theorem ed_r {g : Int → Int → Bool} (H : Sup g) {n d : Int} (hn : 0 ≤ n ∧ n ≤ 168) (hd : 0 ≤ d ∧ d ≤ 3) (h : EdP g n d) : (0 ≤ nbP n d ∧ nbP n d ≤ 168) ∧ nbP n d % 13 = n % 13 + eaD d ∧ nbP n d / 13 = n / 13 + noD d := by
  have := H _ _ h
  rcases d4 hd with rfl | rfl | rfl | rfl <;> simp [nbP, eaD, noD] at this ⊢ <;> omega
def opD (d : Int) : Int := if d < 2 then d + 2 else d - 2
theorem op_d {d : Int} (hd : 0 ≤ d ∧ d ≤ 3) : (0 ≤ opD d ∧ opD d ≤ 3) ∧ eaD (opD d) = - eaD d ∧ noD (opD d) = - noD d := by
  rcases d4 hd with rfl | rfl | rfl | rfl <;> decide
def stL (g : Int → Int → Bool) (L : Int → Int) (n d v : Int) : Int := if EdP g n d ∧ L (nbP n d) + 1 < v then L (nbP n d) + 1 else v
theorem stl_le (g : Int → Int → Bool) (L : Int → Int) (n d v : Int) : stL g L n d v ≤ v := by unfold stL; split <;> omega
theorem stl_nb {g : Int → Int → Bool} {L : Int → Int} {n d v : Int} (h : EdP g n d) : stL g L n d v ≤ L (nbP n d) + 1 := by
  unfold stL
  by_cases e : L (nbP n d) + 1 < v
  · rw [if_pos ⟨h, e⟩]; omega
  · rw [if_neg (fun q => e q.2)]; omega
theorem stl_ex (g : Int → Int → Bool) (L : Int → Int) (n d v : Int) : stL g L n d v = v ∨ (EdP g n d ∧ stL g L n d v = L (nbP n d) + 1 ∧ L (nbP n d) + 1 < v) := by
  unfold stL
  by_cases e : EdP g n d ∧ L (nbP n d) + 1 < v
  · rw [if_pos e]; exact Or.inr ⟨e.1, rfl, e.2⟩
  · rw [if_neg e]; exact Or.inl rfl
def nvL (g : Int → Int → Bool) (L : Int → Int) (n : Int) : Int := stL g L n 1 (stL g L n 3 (stL g L n 0 (stL g L n 2 (L n))))
theorem nv_le (g : Int → Int → Bool) (L : Int → Int) (n : Int) : nvL g L n ≤ L n := by
  have h1 := stl_le g L n 2 (L n)
  have h2 := stl_le g L n 0 (stL g L n 2 (L n))
  have h3 := stl_le g L n 3 (stL g L n 0 (stL g L n 2 (L n)))
  have h4 := stl_le g L n 1 (stL g L n 3 (stL g L n 0 (stL g L n 2 (L n))))
  unfold nvL; omega
theorem nv_fx {g : Int → Int → Bool} {L : Int → Int} {n : Int} (h : ¬ nvL g L n < L n) : FXn g L n := by
  have h1 := stl_le g L n 2 (L n)
  have h2 := stl_le g L n 0 (stL g L n 2 (L n))
  have h3 := stl_le g L n 3 (stL g L n 0 (stL g L n 2 (L n)))
  have h4 := stl_le g L n 1 (stL g L n 3 (stL g L n 0 (stL g L n 2 (L n))))
  unfold nvL at h
  intro d d0 d3 he
  rcases d4 ⟨d0, d3⟩ with rfl | rfl | rfl | rfl
  · have := stl_nb (v := stL g L n 2 (L n)) he (L := L); omega
  · have := stl_nb (v := stL g L n 3 (stL g L n 0 (stL g L n 2 (L n)))) he (L := L); omega
  · have := stl_nb (v := L n) he (L := L); omega
  · have := stl_nb (v := stL g L n 0 (stL g L n 2 (L n))) he (L := L); omega
theorem nv_ex (g : Int → Int → Bool) (L : Int → Int) (n : Int) : nvL g L n = L n ∨ ∃ d, (0 ≤ d ∧ d ≤ 3) ∧ EdP g n d ∧ nvL g L n = L (nbP n d) + 1 := by
  unfold nvL
  rcases stl_ex g L n 1 (stL g L n 3 (stL g L n 0 (stL g L n 2 (L n)))) with h | h
  · rw [h]
    rcases stl_ex g L n 3 (stL g L n 0 (stL g L n 2 (L n))) with h | h
    · rw [h]
      rcases stl_ex g L n 0 (stL g L n 2 (L n)) with h | h
      · rw [h]
        rcases stl_ex g L n 2 (L n) with h | h
        · exact Or.inl h
        · exact Or.inr ⟨2, by omega, h.1, h.2.1⟩
      · exact Or.inr ⟨0, by omega, h.1, h.2.1⟩
    · exact Or.inr ⟨3, by omega, h.1, h.2.1⟩
  · exact Or.inr ⟨1, by omega, h.1, h.2.1⟩
def LA (la : Nat → Int32) (L : Int → Int) : Prop := ∀ n, 0 ≤ n → n ≤ 168 → la n.toNat = zI (L n) ∧ 0 ≤ L n ∧ L n ≤ 1000
def lset (L : Int → Int) (n v : Int) : Int → Int := fun m => if m = n then v else L m
theorem la_u {la : Nat → Int32} {L : Int → Int} (h : LA la L) {n v : Int} (hn : 0 ≤ n ∧ n ≤ 168) (hv : 0 ≤ v ∧ v ≤ 1000) : LA (upd la n.toNat (zI v)) (lset L n v) := by
  intro q q0 q1
  unfold upd lset
  by_cases e : q = n
  · subst e; simp only [if_pos]; exact ⟨trivial, hv⟩
  · have e2 : q.toNat ≠ n.toNat := by omega
    simp only [if_neg e, if_neg e2]; exact h q q0 q1
theorem la_nv {la : Nat → Int32} {L : Int → Int} (h : LA la L) {g : Int → Int → Bool} (H : Sup g) {n d v : Int} (hn : 0 ≤ n ∧ n ≤ 168) (hd : 0 ≤ d ∧ d ≤ 3) (hv : 0 ≤ v ∧ v ≤ 1000) : 0 ≤ stL g L n d v ∧ stL g L n d v ≤ 1000 := by
  have := stl_le g L n d v
  rcases stl_ex g L n d v with e | ⟨e1, e2, e3⟩
  · omega
  · obtain ⟨r, -⟩ := ed_r H hn hd e1
    have := h _ r.1 r.2
    omega
section
variable {c : Int32} {fi ly ma se px py : Nat → Int32} {S : Int → Int → Int → Bool}
theorem ne_199 {post : Int32 → SY → Prop} {la : Nat → Int32} {L : Int → Int} (A : LA la L) {n v : Int} (hn : 0 ≤ n ∧ n ≤ 168) (hv : 0 ≤ v ∧ v ≤ 1000) (f : ∀ b : Bool, (b = true ↔ v < L n) → post (bI b) (c, ly, fi, ma, se, px, py, upd la n.toNat (zI v))) : wY_nearer_199 post (zI n) (zI v) c ly fi ma se px py la := by
  have an := A n hn.1 hn.2
  have c1 : (zI n).toNatClampNeg = n.toNat := zi_cl (by omega)
  have v1 : vp_in (zI n) 625 := zv_in n (by omega)
  have k : ∀ b : Bool, (b = true ↔ v < L n) → wY_nearer_215 post (zI n) (zI v) (bI b) c ly fi ma se px py la := by
    intro b hb
    refine ⟨v1, nm_e ⟨bi_n b, ?_⟩⟩
    rw [c1]; exact f b hb
  unfold wY_nearer_199
  rw [c1, an.1]
  refine ⟨v1, zb_le (L n) v (fun h => k false ?_) (fun h => k true ?_)⟩
  · exact ⟨fun z => (nomatch z), fun z => by omega⟩
  · exact ⟨fun _ => h, fun _ => rfl⟩
theorem ne_153 {post : Int32 → SY → Prop} {la : Nat → Int32} {L : Int → Int} (Q : YP ly S) (H : HS S) (A : LA la L) {l n v : Int} (hl : 0 ≤ l ∧ l ≤ 5) (hn : 0 ≤ n ∧ n ≤ 168) (hv : 0 ≤ v ∧ v ≤ 1000) (f : wY_nearer_199 post (zI n) (zI (stL (S l) L n 1 v)) c ly fi ma se px py la) : wY_nearer_153 post (zI l) (zI n) (zI (n % 13)) (zI (n / 13)) (zI v) c ly fi ma se px py la := by
  unfold wY_nearer_153
  unfold stL at f
  have e1 : 2 * zI (n % 13) = zI (2 * (n % 13) + eaD 1) := by rw [zi_dbl]; apply congrArg zI; show 2 * (n % 13) = 2 * (n % 13) + 0; omega
  have e2 : (2 * zI (n / 13)) + 1 = zI (2 * (n / 13) + noD 1) := by rw [zi_dbl, zi_1]; rfl
  rw [e1, e2]
  have b1 := ea_r 1
  have b2 := no_r 1
  refine yp_in Q H l _ _ hl (by omega) (by omega) (bb_0 (fun e => ?_) (fun e => ?_))
  · rw [if_neg (fun q => by rw [q.1] at e; exact absurd e (by decide))] at f; exact f
  · have hE : EdP (S l) n 1 := e
    obtain ⟨r, -⟩ := ed_r (fun i j => H l i j) hn (by omega) hE
    have en : zI n + 13 = zI (nbP n 1) := by
      have z : zI n + 13 = zI (n + 13) := zi_add n 13
      rw [z]; apply congrArg zI; show n + 13 = n + 0 + 13 * 1; omega
    have an := A _ r.1 r.2
    have v1 : vp_in (zI n + 13) 625 := zv_in (nbP n 1) (by omega) en
    refine ⟨v1, ?_⟩
    rw [zv_cl (nbP n 1) en, an.1, zi_1]
    refine zb_le v (L (nbP n 1) + 1) (fun h => ?_) (fun h => ⟨v1, nm_e ?_⟩)
    · rw [if_neg (fun q => by omega)] at f; exact f
    · rw [if_pos ⟨hE, h⟩] at f; exact f
theorem ne_107 {post : Int32 → SY → Prop} {la : Nat → Int32} {L : Int → Int} (Q : YP ly S) (H : HS S) (A : LA la L) {l n v : Int} (hl : 0 ≤ l ∧ l ≤ 5) (hn : 0 ≤ n ∧ n ≤ 168) (hv : 0 ≤ v ∧ v ≤ 1000) (f : wY_nearer_153 post (zI l) (zI n) (zI (n % 13)) (zI (n / 13)) (zI (stL (S l) L n 3 v)) c ly fi ma se px py la) : wY_nearer_107 post (zI l) (zI n) (zI (n % 13)) (zI (n / 13)) (zI v) c ly fi ma se px py la := by
  unfold wY_nearer_107
  unfold stL at f
  have e1 : 2 * zI (n % 13) = zI (2 * (n % 13) + eaD 3) := by rw [zi_dbl]; apply congrArg zI; show 2 * (n % 13) = 2 * (n % 13) + 0; omega
  have e2 : (2 * zI (n / 13)) - 1 = zI (2 * (n / 13) + noD 3) := by rw [zi_dbl, zi_s1]; rfl
  rw [e1, e2]
  have b1 := ea_r 3
  have b2 := no_r 3
  refine yp_in Q H l _ _ hl (by omega) (by omega) (bb_0 (fun e => ?_) (fun e => ?_))
  · rw [if_neg (fun q => by rw [q.1] at e; exact absurd e (by decide))] at f; exact f
  · have hE : EdP (S l) n 3 := e
    obtain ⟨r, -⟩ := ed_r (fun i j => H l i j) hn (by omega) hE
    have en : zI n - 13 = zI (nbP n 3) := by
      have z : zI n - 13 = zI (n - 13) := zi_sub n 13
      rw [z]; apply congrArg zI; show n - 13 = n + 0 + 13 * -1; omega
    have an := A _ r.1 r.2
    have v1 : vp_in (zI n - 13) 625 := zv_in (nbP n 3) (by omega) en
    refine ⟨v1, ?_⟩
    rw [zv_cl (nbP n 3) en, an.1, zi_1]
    refine zb_le v (L (nbP n 3) + 1) (fun h => ?_) (fun h => ⟨v1, nm_e ?_⟩)
    · rw [if_neg (fun q => by omega)] at f; exact f
    · rw [if_pos ⟨hE, h⟩] at f; exact f
theorem ne_63 {post : Int32 → SY → Prop} {la : Nat → Int32} {L : Int → Int} (Q : YP ly S) (H : HS S) (A : LA la L) {l n v : Int} (hl : 0 ≤ l ∧ l ≤ 5) (hn : 0 ≤ n ∧ n ≤ 168) (hv : 0 ≤ v ∧ v ≤ 1000) (f : wY_nearer_107 post (zI l) (zI n) (zI (n % 13)) (zI (n / 13)) (zI (stL (S l) L n 0 v)) c ly fi ma se px py la) : wY_nearer_63 post (zI l) (zI n) (zI (n % 13)) (zI (n / 13)) (zI v) c ly fi ma se px py la := by
  unfold wY_nearer_63
  unfold stL at f
  have e1 : (2 * zI (n % 13)) + 1 = zI (2 * (n % 13) + eaD 0) := by rw [zi_dbl, zi_1]; rfl
  have e2 : 2 * zI (n / 13) = zI (2 * (n / 13) + noD 0) := by rw [zi_dbl]; apply congrArg zI; show 2 * (n / 13) = 2 * (n / 13) + 0; omega
  rw [e1, e2]
  have b1 := ea_r 0
  have b2 := no_r 0
  refine yp_in Q H l _ _ hl (by omega) (by omega) (bb_0 (fun e => ?_) (fun e => ?_))
  · rw [if_neg (fun q => by rw [q.1] at e; exact absurd e (by decide))] at f; exact f
  · have hE : EdP (S l) n 0 := e
    obtain ⟨r, -⟩ := ed_r (fun i j => H l i j) hn (by omega) hE
    have en : zI n + 1 = zI (nbP n 0) := by rw [zi_1]; apply congrArg zI; show n + 1 = n + 1 + 13 * 0; omega
    have an := A _ r.1 r.2
    have v1 : vp_in (zI n + 1) 625 := zv_in (nbP n 0) (by omega) en
    refine ⟨v1, ?_⟩
    rw [zv_cl (nbP n 0) en, an.1, zi_1]
    refine zb_le v (L (nbP n 0) + 1) (fun h => ?_) (fun h => ⟨v1, nm_e ?_⟩)
    · rw [if_neg (fun q => by omega)] at f; exact f
    · rw [if_pos ⟨hE, h⟩] at f; exact f
theorem yp_nearer {post : Int32 → SY → Prop} {la : Nat → Int32} {L : Int → Int} (Q : YP ly S) (H : HS S) (A : LA la L) {l n : Int} (hl : 0 ≤ l ∧ l ≤ 5) (hn : 0 ≤ n ∧ n ≤ 168)
    (f : ∀ b : Bool, (b = true ↔ nvL (S l) L n < L n) → post (bI b) (c, ly, fi, ma, se, px, py, upd la n.toNat (zI (nvL (S l) L n)))) : wpY_nearer post (c, ly, fi, ma, se, px, py, la) (zI l) (zI n) := by
  have Hl : Sup (S l) := fun i j => H l i j
  have an := A n hn.1 hn.2
  have r2 := la_nv A Hl (d := 2) hn (by omega) an.2
  have r0 := la_nv A Hl (d := 0) hn (by omega) r2
  have r3 := la_nv A Hl (d := 3) hn (by omega) r0
  have r1 := la_nv A Hl (d := 1) hn (by omega) r3
  have w63 := ne_63 (c := c) (fi := fi) (ma := ma) (se := se) (px := px) (py := py) Q H A hl hn r2 (ne_107 Q H A hl hn r0 (ne_153 Q H A hl hn r3 (ne_199 A hn r1 f)))
  unfold stL at w63
  have c1 : (zI n).toNatClampNeg = n.toNat := zi_cl (by omega)
  unfold wpY_nearer
  dsimp only
  rw [c1, an.1]
  refine ⟨by decide, nm_r (zi_r13 (by omega)) ⟨by decide, nm_r (zi_d13 (by omega)) ⟨zv_in n (by omega), nm_e ?_⟩⟩⟩
  have e1 : (2 * zI (n % 13)) - 1 = zI (2 * (n % 13) + eaD 2) := by rw [zi_dbl, zi_s1]; rfl
  have e2 : 2 * zI (n / 13) = zI (2 * (n / 13) + noD 2) := by rw [zi_dbl]; apply congrArg zI; show 2 * (n / 13) = 2 * (n / 13) + 0; omega
  rw [e1, e2]
  have b1 := ea_r 2
  have b2 := no_r 2
  refine yp_in Q H l _ _ hl (by omega) (by omega) (bb_0 (fun e => ?_) (fun e => ?_))
  · rw [if_neg (fun q => by rw [q.1] at e; exact absurd e (by decide))] at w63; exact w63
  · have hE : EdP (S l) n 2 := e
    obtain ⟨r, -⟩ := ed_r (fun i j => H l i j) hn (by omega) hE
    have en : zI n - 1 = zI (nbP n 2) := by rw [zi_s1]; apply congrArg zI; show n - 1 = n + -1 + 13 * 0; omega
    have an := A _ r.1 r.2
    have v1 : vp_in (zI n - 1) 625 := zv_in (nbP n 2) (by omega) en
    refine ⟨v1, ?_⟩
    rw [zv_cl (nbP n 2) en, an.1, zi_1]
    refine zb_le (L n) (L (nbP n 2) + 1) (fun h => ?_) (fun h => ⟨v1, nm_e ?_⟩)
    · rw [if_neg (fun q => by omega)] at w63; exact w63
    · rw [if_pos ⟨hE, h⟩] at w63; exact w63
end
end
section
/-! route: the labels against the queue -/
def LI (m : Nat) (qi qj qd : Nat → Int) (fr : Int) (L : Int → Int) : Prop := L fr = 0 ∧ ∀ n, 0 ≤ n → n ≤ 168 → L n < 1000 → ∃ k, k < m ∧ qi k = 2 * (n % 13) ∧ qj k = 2 * (n / 13) ∧ qd k ≤ 2 * L n
def sumL (L : Int → Int) : Nat := sm (fun k => (L k).toNat) 169
theorem su_lt {L : Int → Int} {n v : Int} (hn : 0 ≤ n ∧ n ≤ 168) (hv : 0 ≤ v) (h : v < L n) : sumL (lset L n v) < sumL L := by
  unfold sumL
  refine sm_lt (a := n.toNat) ?_ (fun k hk hne => ?_) (by omega)
  · have e : ((n.toNat : Nat) : Int) = n := by omega
    show (lset L n v (n.toNat : Int)).toNat < (L (n.toNat : Int)).toNat
    rw [e]; unfold lset; rw [if_pos rfl]; omega
  · show (lset L n v (k : Int)).toNat = (L (k : Int)).toNat
    unfold lset; rw [if_neg (by omega)]
theorem ls_id {L : Int → Int} {n v : Int} (h : v = L n) : lset L n v = L := by
  funext m; unfold lset
  by_cases e : m = n
  · rw [if_pos e, h, e]
  · rw [if_neg e]
theorem af_e {g : Int → Int → Bool} {i j : Int} (H : Sup g) (h : g i j = true) (hd : i % 2 + j % 2 ≤ 1) : AsF g true 1 i j = true := by
  unfold AsF; rw [decide_eq_true_eq]; exact ⟨H i j h, h, hd⟩
theorem af_d {g : Int → Int → Bool} {i j : Int} (h : AsF g true 1 i j = true) : g i j = true ∧ i % 2 + j % 2 ≤ 1 := by
  unfold AsF at h; rw [decide_eq_true_eq] at h; exact h.2
theorem li_s {g : Int → Int → Bool} (H : Sup g) (C : clo g) {i0 j0 : Int} {m : Nat} {qi qj qd : Nat → Int} (F : FIN (AsF g true 1) i0 j0 m qi qj qd) {fr : Int} {L : Int → Int} (R : ∀ n, 0 ≤ n → n ≤ 168 → 0 ≤ L n ∧ L n ≤ 1000) (I : LI m qi qj qd fr L) {n : Int} (hn : 0 ≤ n ∧ n ≤ 168) (h0 : 0 ≤ nvL g L n) : LI m qi qj qd fr (lset L n (nvL g L n)) := by
  have hle := nv_le g L n
  refine ⟨?_, fun q q0 q1 hq => ?_⟩
  · unfold lset
    by_cases e : fr = n
    · rw [if_pos e]; rw [← e] at hle ⊢; rw [← e] at h0; have := I.1; omega
    · rw [if_neg e]; exact I.1
  · unfold lset at hq ⊢
    by_cases e : q = n
    · rw [if_pos e] at hq ⊢
      subst e
      rcases nv_ex g L q with e1 | ⟨d, hd, he, e1⟩
      · rw [e1] at hq ⊢; exact I.2 q q0 q1 hq
      · rw [e1] at hq ⊢
        obtain ⟨r, r1, r2⟩ := ed_r H ⟨q0, q1⟩ hd he
        obtain ⟨k, hk, k1, k2, k3⟩ := I.2 _ r.1 r.2 (by omega)
        obtain ⟨o1, o2, o3⟩ := op_d hd
        have ge : g (2 * (q % 13) + eaD d) (2 * (q / 13) + noD d) = true := he
        have par : (2 * (q % 13) + eaD d) % 2 + (2 * (q / 13) + noD d) % 2 = 1 ∧ ((2 * (q % 13) + eaD d) % 2 = 1 ∨ (2 * (q / 13) + noD d) % 2 = 1) := by
          rcases d4 hd with rfl | rfl | rfl | rfl <;> simp [eaD, noD] <;> omega
        have gp : g (2 * (q % 13)) (2 * (q / 13)) = true := by
          have cc := C _ _ ge
          rcases d4 hd with rfl | rfl | rfl | rfl
          · have := (cc.1 (by simp [eaD])).1
            simp [eaD, noD] at this; exact this
          · have := (cc.2 (by simp [noD])).1
            simp [eaD, noD] at this; exact this
          · have := (cc.1 (by simp [eaD])).2
            simp [eaD, noD] at this
            have z : 2 * (q % 13) + -1 + 1 = 2 * (q % 13) := by omega
            rw [z] at this; exact this
          · have := (cc.2 (by simp [noD])).2
            simp [eaD, noD] at this
            have z : 2 * (q / 13) + -1 + 1 = 2 * (q / 13) := by omega
            rw [z] at this; exact this
        have x1 : qi k + eaD (opD d) = 2 * (q % 13) + eaD d := by rw [k1, r1, o2]; omega
        have x2 : qj k + noD (opD d) = 2 * (q / 13) + noD d := by rw [k2, r2, o3]; omega
        obtain ⟨k', hk', y1, y2, y3⟩ := F.2 k hk (opD d) o1.1 o1.2 (by rw [x1, x2]; exact af_e H ge (by omega))
        have x3 : qi k' + eaD (opD d) = 2 * (q % 13) := by rw [y1, x1, o2]; omega
        have x4 : qj k' + noD (opD d) = 2 * (q / 13) := by rw [y2, x2, o3]; omega
        obtain ⟨k'', hk'', w1, w2, w3⟩ := F.2 k' hk' (opD d) o1.1 o1.2 (by rw [x3, x4]; exact af_e H gp (by omega))
        exact ⟨k'', hk'', by rw [w1, x3], by rw [w2, x4], by omega⟩
    · rw [if_neg e] at hq ⊢; exact I.2 q q0 q1 hq
theorem qd_r {G : Int → Int → Bool} {i0 j0 : Int} {m : Nat} {qi qj qd : Nat → Int} (B : BF0 G i0 j0 m qi qj qd) : ∀ N k, k < N → k < m → 0 ≤ qd k ∧ qd k ≤ k := by
  intro N
  induction N with
  | zero => intro k hk; omega
  | succ N ih =>
    intro k hk hm
    by_cases e : k = 0
    · subst e; have := (B.2.2.1 (by omega)).2.2; omega
    · obtain ⟨k', d, b1, b2, b3, b4, b5⟩ := B.2.2.2.2.2.1 k hm (by omega)
      have := ih k' (by omega) (by omega)
      omega
/-- at the end of the labelling no label is above the way -/
theorem li_a {g : Int → Int → Bool} (H : Sup g) {fr : Int} (hf : 0 ≤ fr ∧ fr ≤ 168) {m : Nat} {qi qj qd : Nat → Int} (F : FIN (AsF g true 1) (2 * (fr % 13)) (2 * (fr / 13)) m qi qj qd) {L : Int → Int} (hL : L fr = 0) (X : ∀ n, 0 ≤ n → n ≤ 168 → FXn g L n) :
    ∀ N k, k < N → k < m → (∃ n, (0 ≤ n ∧ n ≤ 168) ∧ qi k = 2 * (n % 13) ∧ qj k = 2 * (n / 13) ∧ 2 * L n ≤ qd k) ∨ (∃ n d, (0 ≤ n ∧ n ≤ 168) ∧ (0 ≤ d ∧ d ≤ 3) ∧ qi k = 2 * (n % 13) + eaD d ∧ qj k = 2 * (n / 13) + noD d ∧ 2 * L n + 1 ≤ qd k) := by
  intro N
  induction N with
  | zero => intro k hk; omega
  | succ N ih =>
    intro k hk hm
    by_cases e : k = 0
    · subst e
      obtain ⟨b1, b2, b3⟩ := F.1.2.2.1 (by omega)
      exact Or.inl ⟨fr, hf, b1, b2, by omega⟩
    · obtain ⟨k', d, b1, b2, b3, b4, b5⟩ := F.1.2.2.2.2.2.1 k hm (by omega)
      rcases ih k' (by omega) (by omega) with ⟨n, hn, c1, c2, c3⟩ | ⟨n, d', hn, hd', c1, c2, c3⟩
      · exact Or.inr ⟨n, d, hn, b2, by rw [b3, c1], by rw [b4, c2], by omega⟩
      · have gk := af_d (F.1.2.2.2.1 k hm)
        have gk' := af_d (F.1.2.2.2.1 k' (by omega))
        rw [c1, c2] at gk'
        have he : EdP g n d' := gk'.1
        obtain ⟨r, r1, r2⟩ := ed_r H hn hd' he
        obtain ⟨o1, o2, o3⟩ := op_d hd'
        rw [b3, b4, c1, c2] at gk
        have par := gk.2
        left
        by_cases eb : d = d'
        · refine ⟨nbP n d', r, ?_, ?_, ?_⟩
          · rw [b3, c1, r1, eb]; omega
          · rw [b4, c2, r2, eb]; omega
          · have e2 : nbP (nbP n d') (opD d') = n := by unfold nbP; rw [o2, o3]; omega
            have := X (nbP n d') r.1 r.2 (opD d') o1.1 o1.2 (by
              show g (2 * (nbP n d' % 13) + eaD (opD d')) (2 * (nbP n d' / 13) + noD (opD d')) = true
              have z1 : 2 * (nbP n d' % 13) + eaD (opD d') = 2 * (n % 13) + eaD d' := by rw [r1, o2]; omega
              have z2 : 2 * (nbP n d' / 13) + noD (opD d') = 2 * (n / 13) + noD d' := by rw [r2, o3]; omega
              rw [z1, z2]; exact he)
            rw [e2] at this; omega
        · have e3 : eaD d = - eaD d' ∧ noD d = - noD d' := by
            rcases d4 b2 with rfl | rfl | rfl | rfl <;> rcases d4 hd' with rfl | rfl | rfl | rfl <;> simp [eaD, noD] at par ⊢ <;> omega
          refine ⟨n, hn, ?_, ?_, by omega⟩
          · rw [b3, c1, e3.1]; omega
          · rw [b4, c2, e3.2]; omega
section
variable {c : Int32} {fi ly ma se px py : Nat → Int32} {S : Int → Int → Int → Bool}
theorem ry_157 {post : Int32 → SY → Prop} {J : Int32 → Int32 → (Nat → Int32) → (Nat → Int32) → (Nat → Int32) → (Nat → Int32) → (Nat → Int32) → (Nat → Int32) → (Nat → Int32) → Prop} (Q : YP ly S) (H : HS S) (C : CL S) {l fr to i0 j0 : Int} (hl : 0 ≤ l ∧ l ≤ 5) {m M : Nat} {qi qj qd : Nat → Int} (F : FIN (AsF (S l) true 1) i0 j0 m qi qj qd)
    (hJ : ∀ b la L, LA la L → LI m qi qj qd fr L → (b = true → sumL L < M) → (b = false → ∀ n, 0 ≤ n → n ≤ 168 → FXn (S l) L n) → J (bI b) c ly fi ma se px py la) :
    ∀ (N : Nat) (n : Int) (b : Bool) (la : Nat → Int32) (L : Int → Int), -1 ≤ n → n ≤ 168 → (n + 1).toNat < N → LA la L → LI m qi qj qd fr L → sumL L ≤ M → (b = true → sumL L < M) → (b = false → ∀ n, 0 ≤ n → n ≤ 168 → FXn (S l) L n) → wY_route_157 post J (zI l) (zI to) N (bI b) (zI n) c ly fi ma se px py la := by
  have Hl : Sup (S l) := fun i j => H l i j
  intro N
  induction N with
  | zero => intro n b la L h0 h1; omega
  | succ N ih =>
    intro n b la L h0 h1 h2 A I hM hb hx
    refine zb_lt n 0 (fun h => hJ b la L A I hb hx) (fun h => ?_)
    have hn : 0 ≤ n ∧ n ≤ 168 := ⟨h, h1⟩
    have an := A n hn.1 hn.2
    have nl := nv_le (S l) L n
    have n0 : 0 ≤ nvL (S l) L n ∧ nvL (S l) L n ≤ 1000 := by
      have r2 := la_nv A Hl (d := 2) hn (by omega) an.2
      have r0 := la_nv A Hl (d := 0) hn (by omega) r2
      have r3 := la_nv A Hl (d := 3) hn (by omega) r0
      exact la_nv A Hl (d := 1) hn (by omega) r3
    have I' := li_s Hl (C l hl.1 hl.2) F (fun q q0 q1 => (A q q0 q1).2) I hn n0.1
    have A' := la_u A hn n0
    refine yp_nearer Q H A hl hn (fun b' hb' => ?_)
    refine bb_0 (fun e => nm_r (zi_m1 n) ?_) (fun e => nm_r (zi_m1 n) ?_)
    · have en : nvL (S l) L n = L n := by
        rcases Classical.em (nvL (S l) L n < L n) with z | z
        · have := hb'.mpr z; rw [e] at this; exact absurd this (by decide)
        · omega
      rw [ls_id en] at A' I'
      exact ih (n - 1) b _ L (by omega) (by omega) (by omega) A' I' hM hb hx
    · have lt := hb'.mp e
      have := su_lt hn n0.1 lt
      exact ih (n - 1) true _ _ (by omega) (by omega) (by omega) A' I' (by omega) (fun _ => by omega) (fun z => (nomatch z))
theorem ry_125 {post : Int32 → SY → Prop} {J : Int32 → Int32 → (Nat → Int32) → (Nat → Int32) → (Nat → Int32) → (Nat → Int32) → (Nat → Int32) → (Nat → Int32) → (Nat → Int32) → Prop} (Q : YP ly S) (H : HS S) (C : CL S) {l fr to i0 j0 : Int} (hl : 0 ≤ l ∧ l ≤ 5) {m M : Nat} {qi qj qd : Nat → Int} (F : FIN (AsF (S l) true 1) i0 j0 m qi qj qd)
    (hJ : ∀ b la L, LA la L → LI m qi qj qd fr L → (b = true → sumL L < M) → (b = false → ∀ n, 0 ≤ n → n ≤ 168 → FXn (S l) L n) → J (bI b) c ly fi ma se px py la) :
    ∀ (N : Nat) (n : Int) (b : Bool) (la : Nat → Int32) (L : Int → Int), 0 ≤ n → n ≤ 169 → (169 - n).toNat < N → LA la L → LI m qi qj qd fr L → sumL L ≤ M → (b = true → sumL L < M) → (b = false → ∀ n', 0 ≤ n' → n' < n → FXn (S l) L n') → wY_route_125 post J (zI l) (zI to) N (bI b) (zI n) c ly fi ma se px py la := by
  have Hl : Sup (S l) := fun i j => H l i j
  intro N
  induction N with
  | zero => intro n b la L h0 h1; omega
  | succ N ih =>
    intro n b la L h0 h1 h2 A I hM hb hx
    refine zb_le 169 n (fun h => ⟨170, ?_⟩) (fun h => ?_)
    · exact ry_157 Q H C hl F hJ 170 168 b la L (by omega) (by omega) (by omega) A I hM hb (fun e n' q0 q1 => hx e n' q0 (by omega))
    · have hn : 0 ≤ n ∧ n ≤ 168 := ⟨h0, by omega⟩
      have an := A n hn.1 hn.2
      have nl := nv_le (S l) L n
      have n0 : 0 ≤ nvL (S l) L n ∧ nvL (S l) L n ≤ 1000 := by
        have r2 := la_nv A Hl (d := 2) hn (by omega) an.2
        have r0 := la_nv A Hl (d := 0) hn (by omega) r2
        have r3 := la_nv A Hl (d := 3) hn (by omega) r0
        exact la_nv A Hl (d := 1) hn (by omega) r3
      have I' := li_s Hl (C l hl.1 hl.2) F (fun q q0 q1 => (A q q0 q1).2) I hn n0.1
      have A' := la_u A hn n0
      refine yp_nearer Q H A hl hn (fun b' hb' => ?_)
      refine bb_0 (fun e => nm_r (zi_1 n) ?_) (fun e => nm_r (zi_1 n) ?_)
      · have nlt : ¬ nvL (S l) L n < L n := fun z => by
          have := hb'.mpr z; rw [e] at this; exact absurd this (by decide)
        have en : nvL (S l) L n = L n := by omega
        rw [ls_id en] at A' I'
        refine ih (n + 1) b _ L (by omega) (by omega) (by omega) A' I' hM hb (fun eb n' q0 q1 => ?_)
        by_cases e2 : n' = n
        · rw [e2]; exact nv_fx nlt
        · exact hx eb n' q0 (by omega)
      · have lt := hb'.mp e
        have := su_lt hn n0.1 lt
        exact ih (n + 1) true _ _ (by omega) (by omega) (by omega) A' I' (by omega) (fun _ => by omega) (fun z => (nomatch z))
theorem ry_114 {post : Int32 → SY → Prop} (Q : YP ly S) (H : HS S) (C : CL S) {l fr to i0 j0 : Int} (hl : 0 ≤ l ∧ l ≤ 5) (ht : 0 ≤ to ∧ to ≤ 168) {m : Nat} {qi qj qd : Nat → Int} (F : FIN (AsF (S l) true 1) i0 j0 m qi qj qd)
    (f : ∀ la L, LI m qi qj qd fr L → (0 ≤ L to ∧ L to ≤ 1000) → (∀ n, 0 ≤ n → n ≤ 168 → FXn (S l) L n) → post (zI (if L to < 1000 then L to else -1)) (c, ly, fi, ma, se, px, py, la)) :
    ∀ (N : Nat) (b : Bool) (la : Nat → Int32) (L : Int → Int), LA la L → LI m qi qj qd fr L → (b = true → sumL L + 1 < N) → (b = false → 1 ≤ N ∧ ∀ n, 0 ≤ n → n ≤ 168 → FXn (S l) L n) → wY_route_114 post (zI l) (zI to) N (bI b) c ly fi ma se px py la := by
  intro N
  induction N with
  | zero =>
    intro b la L A I h1 h2
    cases b
    · have := (h2 rfl).1; omega
    · have := h1 rfl; omega
  | succ N ih =>
    intro b la L A I h1 h2
    refine bb_0 (fun e => ?_) (fun e => ⟨170, ?_⟩)
    · have at_ := A to ht.1 ht.2
      have ff := f la L I at_.2 (h2 e).2
      have v1 : vp_in (zI to) 625 := zv_in to (by omega)
      have c1 : (zI to).toNatClampNeg = to.toNat := zi_cl (by omega)
      rw [c1, at_.1]
      refine ⟨v1, zb_le 1000 (L to) (fun h => ?_) (fun h => ⟨v1, ?_⟩)⟩
      · rw [if_neg (by omega)] at ff; exact ff
      · rw [if_pos h] at ff; exact ff
    · have hs := h1 e
      exact ry_125 (M := sumL L) Q H C hl F (fun b' la' L' A' I' k1 k2 => ih b' la' L' A' I' (fun eb => by have := k1 eb; omega) (fun eb => ⟨by omega, k2 eb⟩)) 170 0 false la L (by omega) (by omega) (by omega) A I (Nat.le_refl _) (fun z => (nomatch z)) (fun _ n' q0 q1 => absurd q1 (by omega))
theorem ry_77 {post : Int32 → SY → Prop} {l fr to : Int} (hf : 0 ≤ fr ∧ fr ≤ 168)
    (f : ∀ la, LA la (fun n => if n = fr then 0 else 1000) → ∃ N, wY_route_114 post (zI l) (zI to) N 1 c ly fi ma se px py la) :
    ∀ (N : Nat) (n : Int) (la : Nat → Int32), 0 ≤ n → n ≤ 169 → (169 - n).toNat < N → (∀ q, 0 ≤ q → q < n → la q.toNat = zI (if q = fr then 0 else 1000)) → wY_route_77 post (zI l) (zI fr) (zI to) c N (zI n) ly fi ma se px py la := by
  intro N
  induction N with
  | zero => intro n la h0 h1; omega
  | succ N ih =>
    intro n la h0 h1 h2 A
    refine zb_le 169 n (fun h => f la (fun q q0 q1 => ⟨A q q0 (by omega), by show 0 ≤ (if q = fr then (0 : Int) else 1000) ∧ (if q = fr then (0 : Int) else 1000) ≤ 1000; split <;> omega⟩)) (fun h => ?_)
    have v1 : vp_in (zI n) 625 := zv_in n (by omega)
    have c1 : (zI n).toNatClampNeg = n.toNat := zi_cl (by omega)
    have st : ∀ x : Int, x = (if n = fr then 0 else 1000) → wY_route_77 post (zI l) (zI fr) (zI to) c N (zI (n + 1)) ly fi ma se px py (upd la n.toNat (zI x)) := by
      intro x ex
      refine ih (n + 1) _ (by omega) (by omega) (by omega) (fun q q0 q1 => ?_)
      unfold upd
      by_cases e : q = n
      · rw [if_pos (by omega), ex, e]
      · rw [if_neg (by omega)]; exact A q q0 (by omega)
    rw [c1]
    refine zb_eq n fr (fun e => ⟨v1, nm_e (nm_r (zi_1 n) (st 0 ?_))⟩) (fun e => ⟨v1, nm_e (nm_r (zi_1 n) (st 1000 ?_))⟩)
    · rw [if_pos e]
    · rw [if_neg e]
end
section
variable {c gc lr rk : Int32} {cx cy dg : Nat → Int32}
theorem rx_74 {post : Int32 → SX → Prop} {a re st : Nat → Int32} {m : Nat} {qi qj qd : Nat → Int} {G : Int → Int → Bool} {i0 j0 gi gj : Int} (H : Sup G) (B : BF0 G i0 j0 m qi qj qd) (A : QA m qi qj qd re st) (hg : Gd gi gj)
    (f : ∀ k, k < m → qi k = gi → qj k = gj → post (zI (qd k / 2)) (c, zI m, gc, lr, rk, a, cx, cy, re, st, dg)) (g : ¬ InQ m qi qj gi gj → post (-1) (c, zI m, gc, lr, rk, a, cx, cy, re, st, dg)) :
    ∀ (N n : Nat), n ≤ m → 625 - n < N → (∀ k, k < n → ¬ (qi k = gi ∧ qj k = gj)) → wX_route_74 post (zI (25 * gj + gi)) c (zI m) gc lr rk a cx cy re st dg N (zI n) := by
  have hm := bf_m H B
  intro N
  induction N with
  | zero => intro n h0 h1; omega
  | succ N ih =>
    intro n h0 h1 hb
    have no : m ≤ n → ¬ InQ m qi qj gi gj := fun hh ⟨k, hk, e⟩ => hb k (by omega) e
    refine zb_le 625 (n : Int) (fun h => g (no (by omega))) (fun h => zb_le (m : Int) (n : Int) (fun h2 => g (no (by omega))) (fun h2 => ?_))
    have v1 : vp_in (zI n) 625 := zv_in (n : Int) (by omega)
    have c1 : (zI n).toNatClampNeg = n := by rw [zi_cl (by omega), Int.toNat_natCast]
    have q := A n (by omega)
    have gd := H _ _ (B.2.2.2.1 n (by omega))
    have dr := qd_r B (n + 1) n (by omega) (by omega)
    rw [c1, q.1, q.2]
    refine ⟨v1, zb_eq (25 * qj n + qi n) (25 * gj + gi) (fun e => ⟨v1, by decide, ?_⟩) (fun e => nm_r (zi_1 _) ?_)⟩
    · have e2 : zI (qd n) / 2 = zI (qd n / 2) := zi_div (d := 2) (by omega) (by omega)
      rw [e2]
      exact f n (by omega) (by omega) (by omega)
    · refine ih (n + 1) (by omega) (by omega) (fun k hk => ?_)
      by_cases e3 : k = n
      · subst e3; rintro ⟨z1, z2⟩; exact e (by rw [z1, z2])
      · exact hb k (by omega)
end
theorem rt_y {ly fi ma se px py la : Nat → Int32} {S : Int → Int → Int → Bool} {n l fr to : Int} (Q : YP ly S) (H : HS S) (hl : Rg l) (hf : Rg fr) (ht : Rg to) : ∀ post : Int32 → SY → Prop, ((0 ≤ l ∧ l ≤ 5) → (0 ≤ fr ∧ fr ≤ 168) → (0 ≤ to ∧ to ≤ 168) → (S l (2 * (fr % 13)) (2 * (fr / 13)) = true ∧ S l (2 * (to % 13)) (2 * (to / 13)) = true → ∃ N, wY_route_77 post (zI l) (zI fr) (zI to) (zI n) N 0 ly fi ma se px py la) ∧ (¬ (S l (2 * (fr % 13)) (2 * (fr / 13)) = true ∧ S l (2 * (to % 13)) (2 * (to / 13)) = true) → post (-1) (zI n, ly, fi, ma, se, px, py, la))) → (¬ ((0 ≤ l ∧ l ≤ 5) ∧ (0 ≤ fr ∧ fr ≤ 168) ∧ (0 ≤ to ∧ to ≤ 168)) → post (-1) (zI n, ly, fi, ma, se, px, py, la)) → wpY_route post (zI n, ly, fi, ma, se, px, py, la) (zI l) (zI fr) (zI to) := by
  intro post f g
  unfold wpY_route
  refine yg_layer l hl (fun h1 => b1_f ?_) (fun h1 => b0_t (g (by omega)))
  refine zb_lt fr 0 (fun h => g (by omega)) (fun h2 => zb_lt 168 fr (fun h => g (by omega)) (fun h3 => zb_lt to 0 (fun h => g (by omega)) (fun h4 => zb_le to 168 (fun h5 => ?_) (fun h => g (by omega)))))
  obtain ⟨f1, f2⟩ := f h1 ⟨h2, h3⟩ ⟨h4, h5⟩
  have m2 : ∀ z : Int, zI z * 2 = zI (2 * z) := fun z => by
    have e : zI z * 2 = zI (z * 2) := zi_mul z 2
    rw [e]; apply congrArg zI; omega
  rw [zi_r13 (by omega), zi_d13 (by omega), zi_r13 (by omega), zi_d13 (by omega), m2, m2, m2, m2]
  refine ⟨by decide, by decide, yp_in Q H l _ _ h1 (by omega) (by omega) (bb_0 (fun e => f2 (fun z => by rw [z.1] at e; exact absurd e (by decide))) (fun e => ⟨by decide, by decide, yp_in Q H l _ _ h1 (by omega) (by omega) (bb_0 (fun e2 => f2 (fun z => by rw [z.2] at e2; exact absurd e2 (by decide))) (fun e2 => f1 ⟨e, e2⟩))⟩))⟩
end
section
/-! route: both sides -/
theorem su_0 (fr : Int) : sumL (fun n => if n = fr then 0 else 1000) ≤ 169 * 1000 := by
  unfold sumL
  refine sm_le (fun q hq => ?_)
  show (if (q : Int) = fr then (0 : Int) else 1000).toNat ≤ 1000
  split <;> omega
theorem rt_y2 {ly fi ma se px py la : Nat → Int32} {S : Int → Int → Int → Bool} {c : Int32} {l fr to : Int} (Q : YP ly S) (H : HS S) (C : CL S) (h1 : 0 ≤ l ∧ l ≤ 5) (h2 : 0 ≤ fr ∧ fr ≤ 168) (h3 : 0 ≤ to ∧ to ≤ 168) {m : Nat} {qi qj qd : Nat → Int} (F : FIN (AsF (S l) true 1) (2 * (fr % 13)) (2 * (fr / 13)) m qi qj qd) (hb : S l (2 * (fr % 13)) (2 * (fr / 13)) = true) {post : Int32 → SY → Prop}
    (f : ∀ la L, LI m qi qj qd fr L → (0 ≤ L to ∧ L to ≤ 1000) → (∀ n, 0 ≤ n → n ≤ 168 → FXn (S l) L n) → post (zI (if L to < 1000 then L to else -1)) (c, ly, fi, ma, se, px, py, la)) : ∃ N, wY_route_77 post (zI l) (zI fr) (zI to) c N 0 ly fi ma se px py la := by
  have Hl : Sup (S l) := fun i j => H l i j
  have hs := su_0 fr
  obtain ⟨NN, hNN⟩ : ∃ NN : Nat, NN = 169 * 1000 + 5 := ⟨_, rfl⟩
  refine ⟨170, ry_77 h2 (fun la' A' => ⟨NN, ?_⟩) 170 0 la (by omega) (by omega) (by omega) (fun q q0 q1 => absurd q1 (by omega))⟩
  refine ry_114 Q H C h1 h3 F f NN true la' (fun n => if n = fr then 0 else 1000) A' ?_ (fun _ => ?_) (fun z => (nomatch z))
  · refine ⟨if_pos rfl, fun q q0 q1 hq => ?_⟩
    have hq' : (if q = fr then (0 : Int) else 1000) < 1000 := hq
    by_cases e : q = fr
    · have := F.1.1 (af_e Hl hb (by omega))
      obtain ⟨b1, b2, b3⟩ := F.1.2.2.1 this
      refine ⟨0, this, by rw [e]; exact b1, by rw [e]; exact b2, ?_⟩
      show qd 0 ≤ 2 * (if q = fr then (0 : Int) else 1000)
      rw [if_pos e]; omega
    · rw [if_neg e] at hq'; omega
  · generalize sumL (fun n => if n = fr then 0 else 1000) = z at hs ⊢
    omega
theorem rt_fin {ly fi ma se px py la : Nat → Int32} {S : Int → Int → Int → Bool} {n l fr to : Int} (Q : YP ly S) (H : HS S) (C : CL S) (h1 : 0 ≤ l ∧ l ≤ 5) (h2 : 0 ≤ fr ∧ fr ≤ 168) (h3 : 0 ≤ to ∧ to ≤ 168) {m : Nat} {qi qj qd : Nat → Int} (F : FIN (AsF (S l) true 1) (2 * (fr % 13)) (2 * (fr / 13)) m qi qj qd) {R : SY → Prop} (R2 : ∀ la', R (zI n, ly, fi, ma, se, px, py, la')) (r : Int)
    (hr : ∀ L, LI m qi qj qd fr L → (0 ≤ L to ∧ L to ≤ 1000) → (∀ n, 0 ≤ n → n ≤ 168 → FXn (S l) L n) → (if L to < 1000 then L to else -1) = r) (hr2 : ¬ (S l (2 * (fr % 13)) (2 * (fr / 13)) = true ∧ S l (2 * (to % 13)) (2 * (to / 13)) = true) → r = -1) : wpY_route (fun r' v' => r' = zI r ∧ R v') (zI n, ly, fi, ma, se, px, py, la) (zI l) (zI fr) (zI to) := by
  refine rt_y Q H (by omega) (by omega) (by omega) _ (fun _ _ _ => ⟨fun hb => ?_, fun hb => ⟨by rw [hr2 hb]; rfl, R2 la⟩⟩) (fun h => absurd ⟨h1, h2, h3⟩ h)
  exact rt_y2 Q H C h1 h2 h3 F hb.1 (fun la2 L I2 hL X2 => ⟨by rw [hr L I2 hL X2], R2 la2⟩)
theorem rt_a {g : Int → Int → Bool} (H : Sup g) {fr to : Int} (h2 : 0 ≤ fr ∧ fr ≤ 168) (h3 : 0 ≤ to ∧ to ≤ 168) {m : Nat} {qi qj qd : Nat → Int} (F : FIN (AsF g true 1) (2 * (fr % 13)) (2 * (fr / 13)) m qi qj qd) {q : Nat} (hq : q < m) (e1 : qi q = 2 * (to % 13)) (e2 : qj q = 2 * (to / 13)) {L : Int → Int} (I2 : LI m qi qj qd fr L) (hL : 0 ≤ L to ∧ L to ≤ 1000) (X2 : ∀ n, 0 ≤ n → n ≤ 168 → FXn g L n) : (if L to < 1000 then L to else -1) = qd q / 2 := by
  have dr := qd_r F.1 (q + 1) q (by omega) hq
  have hm := bf_m as_s F.1
  have ha := li_a H h2 F I2.1 X2 (q + 1) q (by omega) hq
  have hle : 2 * L to ≤ qd q := by
    rcases ha with ⟨n', hn', z1, z2, z3⟩ | ⟨n', d, hn', hd, z1, z2, z3⟩
    · have : n' = to := by omega
      rw [this] at z3; exact z3
    · rcases d4 hd with rfl | rfl | rfl | rfl <;> simp [eaD, noD] at z1 z2 <;> omega
  have hlt : L to < 1000 := by omega
  obtain ⟨k', hk', y1, y2, y3⟩ := I2.2 to h3.1 h3.2 hlt
  have : k' = q := F.1.2.2.2.2.1 k' q hk' hq (by rw [y1, e1]) (by rw [y2, e2])
  rw [this] at y3
  rw [if_pos hlt]; omega
theorem rt_b {m : Nat} {qi qj qd : Nat → Int} {fr to : Int} (h3 : 0 ≤ to ∧ to ≤ 168) (hq : ¬ InQ m qi qj (2 * (to % 13)) (2 * (to / 13))) {L : Int → Int} (I2 : LI m qi qj qd fr L) : (if L to < 1000 then L to else -1) = -1 := by
  rcases Classical.em (L to < 1000) with z | z
  · obtain ⟨k', hk', y1, y2, y3⟩ := I2.2 to h3.1 h3.2 z
    exact absurd ⟨k', hk', y1, y2⟩ hq
  · rw [if_neg z]
theorem i_vc_route {k : Nat} {u : SX} {v : SY} (I : i_Rel k u v) (hk : k + 5 ≤ 2560) (v1 : Int32) (v2 : Int32) (v3 : Int32) : wpX_route (fun r u' => wpY_route (fun r' v' => r' = r ∧ i_Rel (k + 5) u' v') v v1 v2 v3) u v1 v2 v3 := by
  obtain ⟨c, rc, gc, lr, rk, a, cx, cy, re, st, dg⟩ := u
  obtain ⟨c', ly, fi, ma, se, px, py, la⟩ := v
  obtain ⟨S, n, X, Y, P, Q, C, T, rfl, rfl⟩ := I
  obtain ⟨l, hl, rfl⟩ := zi_ex v1
  obtain ⟨fr, hf, rfl⟩ := zi_ex v2
  obtain ⟨to, ht, rfl⟩ := zi_ex v3
  have R0 : i_Rel (k + 5) (zI n, rc, gc, lr, rk, a, cx, cy, re, st, dg) (zI n, ly, fi, ma, se, px, py, la) := i_mk P Q C T
  have bad : ¬ ((0 ≤ l ∧ l ≤ 5) ∧ (0 ≤ fr ∧ fr ≤ 168) ∧ (0 ≤ to ∧ to ≤ 168)) → wpY_route (fun r' v' => r' = -1 ∧ i_Rel (k + 5) (zI n, rc, gc, lr, rk, a, cx, cy, re, st, dg) v') (zI n, ly, fi, ma, se, px, py, la) (zI l) (zI fr) (zI to) :=
    fun h => rt_y Q P.2 hl hf ht _ (fun h1 h2 h3 => absurd ⟨h1, h2, h3⟩ h) (fun _ => ⟨rfl, R0⟩)
  unfold wpX_route
  refine xg_layer l hl (fun h1 => b1_f ?_) (fun h1 => b0_t (bad (by omega)))
  refine zb_lt fr 0 (fun h => bad (by omega)) (fun h2 => zb_lt 168 fr (fun h => bad (by omega)) (fun h3 => zb_lt to 0 (fun h => bad (by omega)) (fun h4 => zb_le to 168 (fun h5 => ?_) (fun h => bad (by omega)))))
  clear bad R0
  have Hl : Sup (S l) := fun i j => P.2 l i j
  refine xp_as P l 1 true h1 (by omega) (fun a1 P1 => ⟨by decide, by decide, ?_⟩)
  have e6 : setl S 6 (AsF (S l) true 1) 6 = AsF (S l) true 1 := by unfold setl; rw [if_pos rfl]
  have el : ∀ s : Int, s ≤ 5 → setl S 6 (AsF (S l) true 1) s = S s := by intro s hs; unfold setl; rw [if_neg (by omega)]
  rw [zi_r13 (a := fr) (by omega), zi_d13 (a := fr) (by omega), zi_dbl, zi_dbl]
  refine xp_spread P1 (2 * (fr % 13)) (2 * (fr / 13)) (by omega) (fun m qi qj qd a2 re2 st2 S2 F hS => ⟨by decide, by decide, ?_⟩)
  rw [e6] at F
  rw [zi_r13 (a := to) (by omega), zi_d13 (a := to) (by omega), zi_dbl, zi_dbl]
  unfold wpX_spot
  have es : (zI (2 * (to / 13)) * 25) + zI (2 * (to % 13)) = zI (25 * (2 * (to / 13)) + 2 * (to % 13)) := by
    have e : zI (2 * (to / 13)) * 25 = zI (2 * (to / 13) * 25) := zi_mul _ 25
    rw [e, zi_add]; apply congrArg zI; omega
  rw [es]
  have e5 : ∀ s, s ≤ 5 → S2 s = S s := fun s hs => by rw [hS.2.1 s (by omega), el s hs]
  have R2 : ∀ la', i_Rel (k + 5) (zI n, zI m, gc, lr, rk, a2, cx, cy, re2, st2, dg) (zI n, ly, fi, ma, se, px, py, la') := fun la' => i_mk hS.1 (yp_c Q e5) (cl_c C e5) T
  refine ⟨626, rx_74 as_s F.1 hS.2.2.2 (gi := 2 * (to % 13)) (gj := 2 * (to / 13)) (by omega) (fun q hq e1 e2 => ?_) (fun hq => ?_) 626 0 (by omega) (by omega) (fun q hq => absurd hq (by omega))⟩
  · refine rt_fin Q P.2 C h1 ⟨h2, h3⟩ ⟨h4, h5⟩ F R2 (qd q / 2) (fun L I2 hL X2 => rt_a Hl ⟨h2, h3⟩ ⟨h4, h5⟩ F hq e1 e2 I2 hL X2) (fun hh => ?_)
    have gq := af_d (F.1.2.2.2.1 q hq)
    rw [e1, e2] at gq
    have hfr : S l (2 * (fr % 13)) (2 * (fr / 13)) = true := by
      cases e : AsF (S l) true 1 (2 * (fr % 13)) (2 * (fr / 13))
      · have := F.1.2.1 e; omega
      · exact (af_d e).1
    exact absurd ⟨hfr, gq.1⟩ hh
  · exact rt_fin Q P.2 C h1 ⟨h2, h3⟩ ⟨h4, h5⟩ F R2 (-1) (fun L I2 hL X2 => rt_b ⟨h4, h5⟩ hq I2) (fun _ => rfl)
end
section
/-! Y's labels of pieces -/
def nbY (n d : Int) : Int := n + 25 * (d / 3 - 1) + (d % 3 - 1)
def JN (n d : Int) : Prop := (d / 3 - 1 = 0 ∨ d % 3 - 1 = 0 ∨ (n / 25 + n % 25) % 2 = 0) ∧ Gd (n / 25 + (d / 3 - 1)) (n % 25 + (d % 3 - 1))
theorem jn_r {n d : Int} (hn : 0 ≤ n ∧ n ≤ 624) (hd : 0 ≤ d ∧ d ≤ 8) (h : JN n d) : (0 ≤ nbY n d ∧ nbY n d ≤ 624) ∧ nbY n d / 25 = n / 25 + (d / 3 - 1) ∧ nbY n d % 25 = n % 25 + (d % 3 - 1) := by
  have := h.2
  unfold nbY
  omega
def LB (la : Nat → Int32) (L : Int → Int) : Prop := ∀ n, 0 ≤ n → n ≤ 624 → la n.toNat = zI (L n) ∧ -1 ≤ L n ∧ L n ≤ 624
def LWp (L : Int → Int) (n d v : Int) : Prop := (0 ≤ v ∧ v ≤ L n) ∧ (∀ d', 0 ≤ d' → d' < d → JN n d' → 0 ≤ L (nbY n d') → v ≤ L (nbY n d')) ∧ (v = L n ∨ ∃ d', 0 ≤ d' ∧ d' < d ∧ JN n d' ∧ 0 ≤ L (nbY n d') ∧ v = L (nbY n d'))
theorem lw_k {L : Int → Int} {n d v : Int} (h : LWp L n d v) (hk : JN n d → 0 ≤ L (nbY n d) → v ≤ L (nbY n d)) : LWp L n (d + 1) v := by
  refine ⟨h.1, fun d' h0 h1 hj hp => ?_, ?_⟩
  · by_cases e : d' = d
    · subst e; exact hk hj hp
    · exact h.2.1 d' h0 (by omega) hj hp
  · rcases h.2.2 with e | ⟨d', h0, h1, h2⟩
    · exact Or.inl e
    · exact Or.inr ⟨d', h0, by omega, h2⟩
theorem lw_c {L : Int → Int} {n d v : Int} (h : LWp L n d v) (h0 : 0 ≤ d) (hj : JN n d) (hp : 0 ≤ L (nbY n d)) (hlt : L (nbY n d) < v) : LWp L n (d + 1) (L (nbY n d)) := by
  refine ⟨by have := h.1; omega, fun d' h0 h1 hj' hp' => ?_, Or.inr ⟨d, h0, by omega, hj, hp, rfl⟩⟩
  by_cases e : d' = d
  · subst e; omega
  · have := h.2.1 d' h0 (by omega) hj' hp'; omega
section
variable {c : Int32} {fi ly ma se px py : Nat → Int32}
theorem lo_21 {post : Int32 → SY → Prop} {la : Nat → Int32} {L : Int → Int} (A : LB la L) {n : Int} (hn : 0 ≤ n ∧ n ≤ 624)
    (f : ∀ v b, LWp L n 9 v → (b = true ↔ v < L n) → post (bI b) (c, ly, fi, ma, se, px, py, upd la n.toNat (zI v))) :
    ∀ (N : Nat) (d v : Int), 0 ≤ d → d ≤ 9 → (9 - d).toNat < N → LWp L n d v → wY_lowered_21 post (zI n) (zI (n / 25)) (zI (n % 25)) c ly fi ma se px py la N (zI v) (zI d) := by
  have an := A n hn.1 hn.2
  have c1 : (zI n).toNatClampNeg = n.toNat := zi_cl (by omega)
  have v1 : vp_in (zI n) 625 := zv_in n (by omega)
  intro N
  induction N with
  | zero => intro d v h0 h1; omega
  | succ N ih =>
    intro d v h0 h1 h2 hw
    have hv := hw.1
    refine zb_le 9 d (fun h => ⟨v1, ?_⟩) (fun h => ?_)
    · have e : d = 9 := by omega
      subst e
      rw [c1, an.1]
      have k : ∀ b : Bool, (b = true ↔ v < L n) → wY_lowered_144 post (zI n) (zI v) (bI b) c ly fi ma se px py la := by
        intro b hb
        refine ⟨v1, nm_e ⟨bi_n b, ?_⟩⟩
        rw [c1]; exact f v b hw hb
      refine zb_le (L n) v (fun h => k false ?_) (fun h => k true ?_)
      · exact ⟨fun z => (nomatch z), fun z => by omega⟩
      · exact ⟨fun _ => h, fun _ => rfl⟩
    · have e5 : zI d / 3 - 1 = zI (d / 3 - 1) := by rw [zi_d3 (by omega), zi_s1]
      have e6 : (zI d - zI d / 3 * 3) - 1 = zI (d % 3 - 1) := by rw [zi_r3 (by omega), zi_s1]
      have sk : (JN n d → 0 ≤ L (nbY n d) → v ≤ L (nbY n d)) → wY_lowered_21 post (zI n) (zI (n / 25)) (zI (n % 25)) c ly fi ma se px py la N (zI v) (zI (d + 1)) :=
        fun hh => ih (d + 1) v (by omega) (by omega) (by omega) (lw_k hw hh)
      have go : (d / 3 - 1 = 0 ∨ d % 3 - 1 = 0 ∨ (n / 25 + n % 25) % 2 = 0) → wY_lowered_62 post (wY_lowered_21 post (zI n) (zI (n / 25)) (zI (n % 25)) c ly fi ma se px py la N) (zI n) (zI (n / 25)) (zI (n % 25)) (zI v) (zI d) (zI (d / 3 - 1)) (zI (d % 3 - 1)) c ly fi ma se px py la := by
        intro hj
        unfold wY_lowered_62 wY_lowered_67
        refine b1_f ?_
        rw [zi_add, zi_add]
        refine yg_atom _ _ (by omega) (by omega) (fun ga => b1_f ?_) (fun ga => b0_t (nm_r (zi_1 d) (sk (fun hj' => absurd hj'.2 ga))))
        have hJ : JN n d := ⟨hj, ga⟩
        obtain ⟨r, -⟩ := jn_r hn ⟨h0, by omega⟩ hJ
        have ab := A _ r.1 r.2
        have ei : (zI n + (25 * zI (d / 3 - 1))) + zI (d % 3 - 1) = zI (nbY n d) := by
          have e : 25 * zI (d / 3 - 1) = zI (25 * (d / 3 - 1)) := zi_mul 25 _
          rw [e, zi_add, zi_add]; rfl
        refine ⟨zv_in (nbY n d) (by omega) ei, nm_e ?_⟩
        rw [zv_cl (nbY n d) ei, ab.1]
        refine zb_lt (L (nbY n d)) 0 (fun q => nm_r (zi_1 d) (sk (fun _ h' => by omega))) (fun q => zb_le v (L (nbY n d)) (fun q2 => nm_r (zi_1 d) (sk (fun _ _ => q2))) (fun q2 => nm_r (zi_1 d) ?_))
        exact ih (d + 1) _ (by omega) (by omega) (by omega) (lw_c hw h0 hJ q q2)
      refine ⟨by decide, nm_r e5 ⟨by decide, nm_r e6 ?_⟩⟩
      rw [zi_add, zi_r2 (by omega)]
      refine zb_eq (d / 3 - 1) 0 (fun q => go (Or.inl q)) (fun q => zb_eq (d % 3 - 1) 0 (fun q2 => go (Or.inr (Or.inl q2))) (fun q2 => ⟨by decide, zb_eq ((n / 25 + n % 25) % 2) 0 (fun q3 => go (Or.inr (Or.inr q3))) (fun q3 => ?_)⟩))
      unfold wY_lowered_67
      exact b0_t (nm_r (zi_1 d) (sk (fun hj => absurd hj.1 (by omega))))
theorem yp_low {post : Int32 → SY → Prop} {la : Nat → Int32} {L : Int → Int} (A : LB la L) {n : Int} (hn : 0 ≤ n ∧ n ≤ 624) (hp : 0 ≤ L n)
    (f : ∀ v b, LWp L n 9 v → (b = true ↔ v < L n) → post (bI b) (c, ly, fi, ma, se, px, py, upd la n.toNat (zI v))) : wpY_lowered post (c, ly, fi, ma, se, px, py, la) (zI n) := by
  have an := A n hn.1 hn.2
  have c1 : (zI n).toNatClampNeg = n.toNat := zi_cl (by omega)
  unfold wpY_lowered
  dsimp only
  rw [c1, an.1]
  refine ⟨by decide, nm_r (zi_d25 (by omega)) ⟨by decide, nm_r (zi_r25 (by omega)) ⟨zv_in n (by omega), nm_e ⟨10, ?_⟩⟩⟩⟩
  exact lo_21 A hn f 10 0 (L n) (by omega) (by omega) (by omega) ⟨⟨hp, Int.le_refl _⟩, fun d' h0 h1 => absurd h1 (by omega), Or.inl rfl⟩
end
/-- functions that 4-neighbours in the set share -/
def Inv4 (G : Int → Int → Bool) (f : Int → Int → Int) : Prop := ∀ i j d, 0 ≤ d → d ≤ 3 → G i j = true → G (i + eaD d) (j + noD d) = true → f i j = f (i + eaD d) (j + noD d)
theorem in_e {G : Int → Int → Bool} {f : Int → Int → Int} (I : Inv4 G f) {i j i' j' : Int} (h : (i' = i ∧ (j' = j + 1 ∨ j' = j - 1)) ∨ (j' = j ∧ (i' = i + 1 ∨ i' = i - 1))) (hg : G i j = true) (hg' : G i' j' = true) : f i j = f i' j' := by
  have k : ∀ d, 0 ≤ d → d ≤ 3 → i' = i + eaD d → j' = j + noD d → f i j = f i' j' := by
    intro d d0 d3 e1 e2
    subst e1; subst e2
    exact I i j d d0 d3 hg hg'
  rcases h with ⟨h1, h2 | h2⟩ | ⟨h1, h2 | h2⟩
  · exact k 1 (by omega) (by omega) (by simp [eaD]; omega) (by simp [noD]; omega)
  · exact k 3 (by omega) (by omega) (by simp [eaD]; omega) (by simp [noD]; omega)
  · exact k 0 (by omega) (by omega) (by simp [eaD]; omega) (by simp [noD]; omega)
  · exact k 2 (by omega) (by omega) (by simp [eaD]; omega) (by simp [noD]; omega)
theorem as_i {g : Int → Int → Bool} {mb : Bool} {i j : Int} : AsF g mb 2 i j = true ↔ Gd i j ∧ g i j = mb := by
  unfold AsF; rw [decide_eq_true_eq]
  exact ⟨fun h => ⟨h.1, h.2.1⟩, fun h => ⟨h.1, h.2, by omega⟩⟩
theorem as_mid {g : Int → Int → Bool} (C : clo g) {mb : Bool} {i j p q : Int} (hp : p = 1 ∨ p = -1) (hq : q = 1 ∨ q = -1) (he : (i + j) % 2 = 0) (h1 : AsF g mb 2 i j = true) (h2 : AsF g mb 2 (i + p) (j + q) = true) : AsF g mb 2 (i + p) j = true := by
  rw [as_i] at h1 h2 ⊢
  refine ⟨by omega, ?_⟩
  have back : i + p - p = i := by omega
  by_cases o : i % 2 = 1
  · -- (i, j) is a cell
    cases mb
    · cases z : g (i + p) j
      · rfl
      · have := (C _ _ z).2 (by omega)
        rcases hq with rfl | rfl
        · rw [this.2] at h2; exact absurd h2.2 (by decide)
        · have t := this.1
          have e : j - 1 = j + -1 := rfl
          rw [e] at t
          rw [t] at h2; exact absurd h2.2 (by decide)
    · have := (C _ _ h1.2).1 o
      rcases hp with rfl | rfl
      · exact this.2
      · exact this.1
  · cases mb
    · cases z : g (i + p) j
      · rfl
      · have := (C _ _ z).1 (by omega)
        rcases hp with rfl | rfl
        · have e : i + 1 - 1 = i := by omega
          rw [e] at this
          rw [this.1] at h1; exact absurd h1.2 (by decide)
        · have e : i + -1 + 1 = i := by omega
          rw [e] at this
          rw [this.2] at h1; exact absurd h1.2 (by decide)
    · have := (C _ _ h2.2).2 (by omega)
      rcases hq with rfl | rfl
      · have e : j + 1 - 1 = j := by omega
        rw [e] at this; exact this.1
      · have e : j + -1 + 1 = j := by omega
        rw [e] at this; exact this.2
theorem in_j {g : Int → Int → Bool} (C : clo g) {mb : Bool} {f : Int → Int → Int} (I : Inv4 (AsF g mb 2) f) {i j p q : Int} (hp : -1 ≤ p ∧ p ≤ 1) (hq : -1 ≤ q ∧ q ≤ 1) (hj : p = 0 ∨ q = 0 ∨ (i + j) % 2 = 0) (h1 : AsF g mb 2 i j = true) (h2 : AsF g mb 2 (i + p) (j + q) = true) : f i j = f (i + p) (j + q) := by
  have z1 : i + 0 = i := by omega
  have z2 : j + 0 = j := by omega
  by_cases ep : p = 0
  · subst ep
    by_cases eq : q = 0
    · subst eq; rw [z1, z2]
    · rw [z1] at h2 ⊢
      exact in_e I (by omega) h1 h2
  · by_cases eq : q = 0
    · subst eq
      rw [z2] at h2 ⊢
      exact in_e I (by omega) h1 h2
    · have mid := as_mid C (by omega) (by omega) (by omega) h1 h2
      exact (in_e I (by omega) h1 mid).trans (in_e I (by omega) mid h2)
def GI (G : Int → Int → Bool) (L : Int → Int) : Prop := ∀ n, 0 ≤ n → n ≤ 624 → (0 ≤ L n ↔ G (n / 25) (n % 25) = true)
def CI (cm : Int → Int → Int) (L : Int → Int) : Prop := ∀ n, 0 ≤ n → n ≤ 624 → 0 ≤ L n → 0 ≤ L (L n) ∧ cm (L n / 25) (L n % 25) = cm (n / 25) (n % 25)
def FXP (L : Int → Int) (n : Int) : Prop := 0 ≤ L n → ∀ d, 0 ≤ d → d ≤ 8 → JN n d → 0 ≤ L (nbY n d) → L n ≤ L (nbY n d)
def sumB (L : Int → Int) : Nat := sm (fun k => (L k + 1).toNat) 625
theorem sb_lt {L : Int → Int} {n v : Int} (hn : 0 ≤ n ∧ n ≤ 624) (hv : 0 ≤ v) (h : v < L n) : sumB (lset L n v) < sumB L := by
  unfold sumB
  refine sm_lt (a := n.toNat) ?_ (fun k hk hne => ?_) (by omega)
  · have e : ((n.toNat : Nat) : Int) = n := by omega
    show (lset L n v (n.toNat : Int) + 1).toNat < (L (n.toNat : Int) + 1).toNat
    rw [e]; unfold lset; rw [if_pos rfl]; omega
  · show (lset L n v (k : Int) + 1).toNat = (L (k : Int) + 1).toNat
    unfold lset; rw [if_neg (by omega)]
theorem lb_u {la : Nat → Int32} {L : Int → Int} (h : LB la L) {n v : Int} (hn : 0 ≤ n ∧ n ≤ 624) (hv : 0 ≤ v ∧ v ≤ 624) : LB (upd la n.toNat (zI v)) (lset L n v) := by
  intro q q0 q1
  unfold upd lset
  by_cases e : q = n
  · subst e; simp only [if_pos]; exact ⟨trivial, by omega⟩
  · have e2 : q.toNat ≠ n.toNat := by omega
    simp only [if_neg e, if_neg e2]; exact h q q0 q1
theorem gi_u {G : Int → Int → Bool} {L : Int → Int} (h : GI G L) {n v : Int} (hp : 0 ≤ L n) (hv : 0 ≤ v) : GI G (lset L n v) := by
  intro q q0 q1
  unfold lset
  by_cases e : q = n
  · rw [if_pos e, ← h q q0 q1, e]; exact ⟨fun _ => hp, fun _ => hv⟩
  · rw [if_neg e]; exact h q q0 q1
theorem ci_u {g : Int → Int → Bool} (C : clo g) {mb : Bool} {cm : Int → Int → Int} (I : Inv4 (AsF g mb 2) cm) {la : Nat → Int32} {L : Int → Int} (A : LB la L) (h : CI cm L) (hG : GI (AsF g mb 2) L) {n v : Int} (hn : 0 ≤ n ∧ n ≤ 624) (hp : 0 ≤ L n) (hw : LWp L n 9 v) : CI cm (lset L n v) := by
  have key : 0 ≤ L v ∧ cm (v / 25) (v % 25) = cm (n / 25) (n % 25) := by
    rcases hw.2.2 with e | ⟨d, d0, d9, hJ, hL, e⟩
    · rw [e]; exact h n hn.1 hn.2 hp
    · obtain ⟨r, r1, r2⟩ := jn_r hn ⟨d0, by omega⟩ hJ
      have hb := h _ r.1 r.2 hL
      rw [e]
      refine ⟨hb.1, hb.2.trans ?_⟩
      rw [r1, r2]
      refine (in_j C I (by omega) (by omega) hJ.1 ((hG n hn.1 hn.2).mp hp) ?_).symm
      have := (hG _ r.1 r.2).mp hL
      rw [r1, r2] at this; exact this
  have hv := hw.1
  have z : ∀ q : Int, 0 ≤ L q → 0 ≤ lset L n v q := by
    intro q hq; unfold lset; split <;> omega
  intro q q0 q1 hq
  have e0 : lset L n v q = if q = n then v else L q := rfl
  by_cases e : q = n
  · rw [e0, if_pos e]
    exact ⟨z v key.1, by rw [e]; exact key.2⟩
  · rw [e0, if_neg e] at hq ⊢
    have := h q q0 q1 hq
    exact ⟨z _ this.1, this.2⟩
end
section
/-! Y's pieces -/
section
variable {c : Int32} {fi ly ma se px py : Nat → Int32} {g : Int → Int → Bool} {mb : Bool} {cm : Int → Int → Int}
theorem py_93 {post : SY → Prop} {J : Int32 → Int32 → (Nat → Int32) → (Nat → Int32) → (Nat → Int32) → (Nat → Int32) → (Nat → Int32) → (Nat → Int32) → (Nat → Int32) → Prop} (C : clo g) (I : Inv4 (AsF g mb 2) cm) {M : Nat}
    (hJ : ∀ b la L, LB la L → GI (AsF g mb 2) L → CI cm L → (b = true → sumB L < M) → (b = false → ∀ n, 0 ≤ n → n ≤ 624 → FXP L n) → J (bI b) c ly fi ma se px py la) :
    ∀ (N : Nat) (n : Int) (b : Bool) (la : Nat → Int32) (L : Int → Int), -1 ≤ n → n ≤ 624 → (n + 1).toNat < N → LB la L → GI (AsF g mb 2) L → CI cm L → sumB L ≤ M → (b = true → sumB L < M) → (b = false → ∀ n, 0 ≤ n → n ≤ 624 → FXP L n) → wY_pieces_93 post J N (bI b) (zI n) c ly fi ma se px py la := by
  intro N
  induction N with
  | zero => intro n b la L h0 h1; omega
  | succ N ih =>
    intro n b la L h0 h1 h2 A G K hM hb hx
    refine zb_lt n 0 (fun h => hJ b la L A G K hb hx) (fun h => ⟨zv_in n (by omega), ?_⟩)
    have hn : 0 ≤ n ∧ n ≤ 624 := ⟨h, h1⟩
    have an := A n hn.1 hn.2
    rw [zi_cl (by omega), an.1]
    refine zb_lt (L n) 0 (fun q => nm_r (zi_m1 n) (ih (n - 1) b la L (by omega) (by omega) (by omega) A G K hM hb hx)) (fun q => ?_)
    refine yp_low A hn q (fun v b' hw hb' => ?_)
    have hv := hw.1
    have A' := lb_u A hn (v := v) (by omega)
    have G' := gi_u G q (v := v) (by omega)
    have K' := ci_u C I A K G hn q hw
    refine bb_0 (fun e => nm_r (zi_m1 n) ?_) (fun e => nm_r (zi_m1 n) ?_)
    · have en : v = L n := by
        rcases Classical.em (v < L n) with z | z
        · have := hb'.mpr z; rw [e] at this; exact absurd this (by decide)
        · omega
      rw [ls_id en] at A' G' K'
      exact ih (n - 1) b _ L (by omega) (by omega) (by omega) A' G' K' hM hb hx
    · have lt := hb'.mp e
      have := sb_lt hn hv.1 lt
      exact ih (n - 1) true _ _ (by omega) (by omega) (by omega) A' G' K' (by omega) (fun _ => by omega) (fun z => (nomatch z))
theorem py_53 {post : SY → Prop} {J : Int32 → Int32 → (Nat → Int32) → (Nat → Int32) → (Nat → Int32) → (Nat → Int32) → (Nat → Int32) → (Nat → Int32) → (Nat → Int32) → Prop} (C : clo g) (I : Inv4 (AsF g mb 2) cm) {M : Nat}
    (hJ : ∀ b la L, LB la L → GI (AsF g mb 2) L → CI cm L → (b = true → sumB L < M) → (b = false → ∀ n, 0 ≤ n → n ≤ 624 → FXP L n) → J (bI b) c ly fi ma se px py la) :
    ∀ (N : Nat) (n : Int) (b : Bool) (la : Nat → Int32) (L : Int → Int), 0 ≤ n → n ≤ 625 → (625 - n).toNat < N → LB la L → GI (AsF g mb 2) L → CI cm L → sumB L ≤ M → (b = true → sumB L < M) → (b = false → ∀ n', 0 ≤ n' → n' < n → FXP L n') → wY_pieces_53 post J N (bI b) (zI n) c ly fi ma se px py la := by
  intro N
  induction N with
  | zero => intro n b la L h0 h1; omega
  | succ N ih =>
    intro n b la L h0 h1 h2 A G K hM hb hx
    refine zb_le 625 n (fun h => ⟨626, ?_⟩) (fun h => ⟨zv_in n (by omega), ?_⟩)
    · exact py_93 C I hJ 626 624 b la L (by omega) (by omega) (by omega) A G K hM hb (fun e n' q0 q1 => hx e n' q0 (by omega))
    · have hn : 0 ≤ n ∧ n ≤ 624 := ⟨h0, by omega⟩
      have an := A n hn.1 hn.2
      rw [zi_cl (by omega), an.1]
      refine zb_lt (L n) 0 (fun q => nm_r (zi_1 n) (ih (n + 1) b la L (by omega) (by omega) (by omega) A G K hM hb (fun eb n' q0 q1 => ?_))) (fun q => ?_)
      · by_cases e2 : n' = n
        · rw [e2]; intro hp; omega
        · exact hx eb n' q0 (by omega)
      · refine yp_low A hn q (fun v b' hw hb' => ?_)
        have hv := hw.1
        have A' := lb_u A hn (v := v) (by omega)
        have G' := gi_u G q (v := v) (by omega)
        have K' := ci_u C I A K G hn q hw
        refine bb_0 (fun e => nm_r (zi_1 n) ?_) (fun e => nm_r (zi_1 n) ?_)
        · have en : v = L n := by
            rcases Classical.em (v < L n) with z | z
            · have := hb'.mpr z; rw [e] at this; exact absurd this (by decide)
            · omega
          rw [ls_id en] at A' G' K'
          refine ih (n + 1) b _ L (by omega) (by omega) (by omega) A' G' K' hM hb (fun eb n' q0 q1 => ?_)
          by_cases e2 : n' = n
          · rw [e2]
            intro _ d d0 d8 hJ hL
            have := hw.2.1 d d0 (by omega) hJ hL
            omega
          · exact hx eb n' q0 (by omega)
        · have lt := hb'.mp e
          have := sb_lt hn hv.1 lt
          exact ih (n + 1) true _ _ (by omega) (by omega) (by omega) A' G' K' (by omega) (fun _ => by omega) (fun z => (nomatch z))
theorem py_44 {post : SY → Prop} (C : clo g) (I : Inv4 (AsF g mb 2) cm)
    (f : ∀ la L, LB la L → GI (AsF g mb 2) L → CI cm L → (∀ n, 0 ≤ n → n ≤ 624 → FXP L n) → post (c, ly, fi, ma, se, px, py, la)) :
    ∀ (N : Nat) (b : Bool) (la : Nat → Int32) (L : Int → Int), LB la L → GI (AsF g mb 2) L → CI cm L → (b = true → sumB L + 1 < N) → (b = false → 1 ≤ N ∧ ∀ n, 0 ≤ n → n ≤ 624 → FXP L n) → wY_pieces_44 post N (bI b) c ly fi ma se px py la := by
  intro N
  induction N with
  | zero =>
    intro b la L A G K h1 h2
    cases b
    · have := (h2 rfl).1; omega
    · have := h1 rfl; omega
  | succ N ih =>
    intro b la L A G K h1 h2
    refine bb_0 (fun e => f la L A G K (h2 e).2) (fun e => ⟨626, ?_⟩)
    have hs := h1 e
    exact py_53 (M := sumB L) C I (fun b' la' L' A' G' K' k1 k2 => ih b' la' L' A' G' K' (fun eb => by have := k1 eb; omega) (fun eb => ⟨by omega, k2 eb⟩)) 626 0 false la L (by omega) (by omega) (by omega) A G K (Nat.le_refl _) (fun z => (nomatch z)) (fun _ n' q0 q1 => absurd q1 (by omega))
theorem sb_0 (g : Int → Int → Bool) (mb : Bool) : sumB (fun n => if g (n / 25) (n % 25) = mb then n else -1) ≤ 625 * 625 := by
  unfold sumB
  refine sm_le (fun q hq => ?_)
  show ((if g ((q : Int) / 25) ((q : Int) % 25) = mb then (q : Int) else -1) + 1).toNat ≤ 625
  split <;> omega
theorem py_2 {S : Int → Int → Int → Bool} {post : SY → Prop} (Q : YP ly S) {l : Int} (hl : 0 ≤ l ∧ l ≤ 5) (C : clo (S l)) (I : Inv4 (AsF (S l) mb 2) cm)
    (f : ∀ la L, LB la L → GI (AsF (S l) mb 2) L → CI cm L → (∀ n, 0 ≤ n → n ≤ 624 → FXP L n) → post (c, ly, fi, ma, se, px, py, la)) :
    ∀ (N : Nat) (n : Int) (la : Nat → Int32), 0 ≤ n → n ≤ 625 → (625 - n).toNat < N → (∀ q, 0 ≤ q → q < n → la q.toNat = zI (if S l (q / 25) (q % 25) = mb then q else -1)) → wY_pieces_2 post (zI l) (bI (!mb)) c N (zI n) ly fi ma se px py la := by
  intro N
  induction N with
  | zero => intro n la h0 h1; omega
  | succ N ih =>
    intro n la h0 h1 h2 A
    have e1 := zi_in2 l n
    refine zb_le 625 n (fun h => ?_) (fun h => ⟨zv_in (625 * l + n) (by omega) e1, ?_⟩)
    · obtain ⟨NN, hNN⟩ : ∃ NN : Nat, NN = 625 * 625 + 5 := ⟨_, rfl⟩
      have hs := sb_0 (S l) mb
      have nn : ∀ q : Int, 0 ≤ q → ((0 : Int) ≤ (if S l (q / 25) (q % 25) = mb then q else -1) ↔ S l (q / 25) (q % 25) = mb) := by
        intro q q0
        by_cases e : S l (q / 25) (q % 25) = mb
        · rw [if_pos e]; exact ⟨fun _ => e, fun _ => q0⟩
        · rw [if_neg e]; exact ⟨fun z => by omega, fun z => absurd z e⟩
      refine ⟨NN, py_44 C I f NN true la (fun n => if S l (n / 25) (n % 25) = mb then n else -1) (fun q q0 q1 => ⟨A q q0 (by omega), ?_⟩) (fun q q0 q1 => ?_) (fun q q0 q1 hq => ?_) (fun _ => ?_) (fun z => (nomatch z))⟩
      · show -1 ≤ (if S l (q / 25) (q % 25) = mb then q else -1) ∧ (if S l (q / 25) (q % 25) = mb then q else -1) ≤ 624
        split <;> omega
      · show (0 : Int) ≤ (if S l (q / 25) (q % 25) = mb then q else -1) ↔ _
        rw [nn q q0, as_i]
        exact ⟨fun h => ⟨by omega, h⟩, fun h => h.2⟩
      · have e : S l (q / 25) (q % 25) = mb := (nn q q0).mp hq
        have e2 : (fun n : Int => if S l (n / 25) (n % 25) = mb then n else -1) q = q := if_pos e
        rw [e2, e2]; exact ⟨q0, rfl⟩
      · generalize sumB (fun n => if S l (n / 25) (n % 25) = mb then n else -1) = z at hs ⊢
        omega
    · have gq : Gd (n / 25) (n % 25) := by omega
      have ix : 625 * l + n = 625 * l + 25 * (n / 25) + n % 25 := by omega
      have r1 : ly (625 * l + n).toNat = bI (S l (n / 25) (n % 25)) := by rw [ix]; exact Q l _ _ hl.1 hl.2 gq
      have st : ∀ x : Int, x = (if S l (n / 25) (n % 25) = mb then n else -1) → wY_pieces_2 post (zI l) (bI (!mb)) c N (zI (n + 1)) ly fi ma se px py (upd la n.toNat (zI x)) := by
        intro x ex
        refine ih (n + 1) _ (by omega) (by omega) (by omega) (fun q q0 q1 => ?_)
        unfold upd
        by_cases e : q = n
        · rw [if_pos (by omega), ex, e]
        · rw [if_neg (by omega)]; exact A q q0 (by omega)
      rw [zv_cl _ e1, r1, zi_cl (by omega)]
      have st1 := st (-1)
      have z1 : zI (-1) = -1 := by decide
      rw [z1] at st1
      refine bb_e (fun e => ⟨zv_in n (by omega), nm_e (nm_r (zi_1 n) (st1 ?_))⟩) (fun e => ⟨zv_in n (by omega), nm_e (nm_r (zi_1 n) (st n ?_))⟩)
      · rw [e, if_neg (by cases mb <;> decide)]
      · rw [if_pos]
        revert e
        cases S l (n / 25) (n % 25) <;> cases mb <;> decide
theorem yp_pieces {S : Int → Int → Int → Bool} {post : SY → Prop} {la : Nat → Int32} (Q : YP ly S) {l : Int} (mb : Bool) (hl : 0 ≤ l ∧ l ≤ 5) (C : clo (S l)) (I : Inv4 (AsF (S l) mb 2) cm)
    (f : ∀ la L, LB la L → GI (AsF (S l) mb 2) L → CI cm L → (∀ n, 0 ≤ n → n ≤ 624 → FXP L n) → post (c, ly, fi, ma, se, px, py, la)) : wpY_pieces post (c, ly, fi, ma, se, px, py, la) (zI l) (bI (!mb)) := by
  unfold wpY_pieces
  exact ⟨626, py_2 Q hl C I f 626 0 la (by omega) (by omega) (by omega) (fun q q0 q1 => absurd q1 (by omega))⟩
end
/-- at the end the labels are shared by neighbours -/
theorem fx_inv {g : Int → Int → Bool} {mb : Bool} {la : Nat → Int32} {L : Int → Int} (A : LB la L) (G : GI (AsF g mb 2) L) (X : ∀ n, 0 ≤ n → n ≤ 624 → FXP L n) : Inv4 (AsF g mb 2) (fun i j => L (25 * i + j)) := by
  have half : ∀ i j d, 0 ≤ d → d ≤ 3 → AsF g mb 2 i j = true → AsF g mb 2 (i + eaD d) (j + noD d) = true → L (25 * i + j) ≤ L (25 * (i + eaD d) + (j + noD d)) := by
    intro i j d d0 d3 h1 h2
    have g1 := as_s _ _ h1
    have g2 := as_s _ _ h2
    have e1 : (25 * i + j) / 25 = i := by omega
    have e2 : (25 * i + j) % 25 = j := by omega
    have p1 : 0 ≤ L (25 * i + j) := (G _ (by omega) (by omega)).mpr (by rw [e1, e2]; exact h1)
    have k : ∀ t, 0 ≤ t → t ≤ 8 → (t / 3 - 1 = eaD d) → (t % 3 - 1 = noD d) → (eaD d = 0 ∨ noD d = 0) → L (25 * i + j) ≤ L (25 * (i + eaD d) + (j + noD d)) := by
      intro t t0 t8 x1 x2 x3
      have en : nbY (25 * i + j) t = 25 * (i + eaD d) + (j + noD d) := by unfold nbY; rw [x1, x2]; omega
      have hJ : JN (25 * i + j) t := by
        unfold JN; rw [x1, x2, e1, e2]; exact ⟨by omega, g2⟩
      have := X (25 * i + j) (by omega) (by omega) p1 t t0 t8 hJ
      rw [en] at this
      refine this ((G _ (by omega) (by omega)).mpr ?_)
      have y1 : (25 * (i + eaD d) + (j + noD d)) / 25 = i + eaD d := by omega
      have y2 : (25 * (i + eaD d) + (j + noD d)) % 25 = j + noD d := by omega
      rw [y1, y2]; exact h2
    rcases d4 ⟨d0, d3⟩ with rfl | rfl | rfl | rfl
    · exact k 7 (by omega) (by omega) (by decide) (by decide) (by decide)
    · exact k 5 (by omega) (by omega) (by decide) (by decide) (by decide)
    · exact k 1 (by omega) (by omega) (by decide) (by decide) (by decide)
    · exact k 3 (by omega) (by omega) (by decide) (by decide) (by decide)
  intro i j d d0 d3 h1 h2
  show L (25 * i + j) = L (25 * (i + eaD d) + (j + noD d))
  have a := half i j d d0 d3 h1 h2
  obtain ⟨o1, o2, o3⟩ := op_d ⟨d0, d3⟩
  have b1 : i + eaD d + eaD (opD d) = i := by rw [o2]; omega
  have b2 : j + noD d + noD (opD d) = j := by rw [o3]; omega
  have b := half (i + eaD d) (j + noD d) (opD d) o1.1 o1.2 h2 (by rw [b1, b2]; exact h1)
  rw [b1, b2] at b
  omega
/-- a queue of a spreading carries one value of what neighbours share -/
theorem fin_inv {G : Int → Int → Bool} {i0 j0 : Int} {m : Nat} {qi qj qd : Nat → Int} (B : BF0 G i0 j0 m qi qj qd) {f : Int → Int → Int} (I : Inv4 G f) : ∀ N k, k < N → k < m → f (qi k) (qj k) = f i0 j0 := by
  intro N
  induction N with
  | zero => intro k hk; omega
  | succ N ih =>
    intro k hk hm
    by_cases e : k = 0
    · subst e
      obtain ⟨b1, b2, -⟩ := B.2.2.1 (by omega)
      rw [b1, b2]
    · obtain ⟨k', d, b1, b2, b3, b4, b5⟩ := B.2.2.2.2.2.1 k hm (by omega)
      have h := ih k' (by omega) (by omega)
      have := I (qi k') (qj k') d b2.1 b2.2 (B.2.2.2.1 k' (by omega)) (by rw [← b3, ← b4]; exact B.2.2.2.1 k hm)
      rw [b3, b4, ← this]; exact h
end
section
/-! piece -/
noncomputable def cmQ (m : Nat) (qi qj : Nat → Int) : Int → Int → Int := fun i j => @ite Int (InQ m qi qj i j) (Classical.propDecidable _) 1 0
theorem cq_1 {m : Nat} {qi qj : Nat → Int} {i j : Int} (h : InQ m qi qj i j) : cmQ m qi qj i j = 1 := by unfold cmQ; rw [if_pos h]
theorem cq_0 {m : Nat} {qi qj : Nat → Int} {i j : Int} (h : ¬ InQ m qi qj i j) : cmQ m qi qj i j = 0 := by unfold cmQ; rw [if_neg h]
theorem fq_s {G : Int → Int → Bool} {i0 j0 : Int} {m : Nat} {qi qj qd : Nat → Int} (F : FIN G i0 j0 m qi qj qd) {i j d : Int} (hd : 0 ≤ d ∧ d ≤ 3) (hq : InQ m qi qj i j) (hg : G (i + eaD d) (j + noD d) = true) : InQ m qi qj (i + eaD d) (j + noD d) := by
  obtain ⟨k, hk, e1, e2⟩ := hq
  subst e1; subst e2
  obtain ⟨k', hk', a1, a2, -⟩ := F.2 k hk d hd.1 hd.2 hg
  exact ⟨k', hk', a1, a2⟩
theorem fq_b {G : Int → Int → Bool} {i0 j0 : Int} {m : Nat} {qi qj qd : Nat → Int} (F : FIN G i0 j0 m qi qj qd) {i j d : Int} (hd : 0 ≤ d ∧ d ≤ 3) (hg : G i j = true) (hq : InQ m qi qj (i + eaD d) (j + noD d)) : InQ m qi qj i j := by
  obtain ⟨o1, o2, o3⟩ := op_d hd
  have b1 : i + eaD d + eaD (opD d) = i := by rw [o2]; omega
  have b2 : j + noD d + noD (opD d) = j := by rw [o3]; omega
  have := fq_s F o1 hq (by rw [b1, b2]; exact hg)
  rw [b1, b2] at this; exact this
theorem cq_inv {G : Int → Int → Bool} {i0 j0 : Int} {m : Nat} {qi qj qd : Nat → Int} (F : FIN G i0 j0 m qi qj qd) : Inv4 G (cmQ m qi qj) := by
  intro i j d d0 d3 h1 h2
  rcases Classical.em (InQ m qi qj i j) with h | h
  · rw [cq_1 h, cq_1 (fq_s F ⟨d0, d3⟩ h h2)]
  · rw [cq_0 h, cq_0 (fun hh => h (fq_b F ⟨d0, d3⟩ h1 hh))]
def cel (i j : Int) : Bool := decide (i % 2 = 1 ∧ j % 2 = 1)
theorem px_62 {c gc lr rk : Int32} {cx cy dg a re st : Nat → Int32} {post : Int32 → SX → Prop} {m : Nat} {qi qj qd : Nat → Int} {G : Int → Int → Bool} {i0 j0 : Int} (H : Sup G) (B : BF0 G i0 j0 m qi qj qd) (A : QA m qi qj qd re st)
    (f : post (zI (cnt (fun k => cel (qi k) (qj k)) m)) (c, zI m, gc, lr, rk, a, cx, cy, re, st, dg)) :
    ∀ (N n : Nat), n ≤ m → 625 - n < N → wX_piece_62 post c (zI m) gc lr rk a cx cy re st dg N (zI (cnt (fun k => cel (qi k) (qj k)) n)) (zI n) := by
  have hm := bf_m H B
  intro N
  induction N with
  | zero => intro n h0 h1; omega
  | succ N ih =>
    intro n h0 h1
    have fin : m ≤ n → post (zI (cnt (fun k => cel (qi k) (qj k)) n)) (c, zI m, gc, lr, rk, a, cx, cy, re, st, dg) := by
      intro hh
      have : n = m := by omega
      rw [this]; exact f
    refine zb_le 625 (n : Int) (fun h => fin (by omega)) (fun h => zb_le (m : Int) (n : Int) (fun h2 => fin (by omega)) (fun h2 => ?_))
    have v1 : vp_in (zI n) 625 := zv_in (n : Int) (by omega)
    have c1 : (zI n).toNatClampNeg = n := by rw [zi_cl (by omega), Int.toNat_natCast]
    have q := A n (by omega)
    have gd := H _ _ (B.2.2.2.1 n (by omega))
    rw [c1, q.1]
    have e4 : zI (25 * qj n + qi n) - zI (25 * qj n + qi n) / 25 * 25 = zI (qi n) := by
      rw [zi_r25 (by omega)]; apply congrArg zI; omega
    have e5 : zI (25 * qj n + qi n) / 25 = zI (qj n) := by
      rw [zi_d25 (by omega)]; apply congrArg zI; omega
    rw [e4, e5]
    have w := ih (n + 1) (by omega) (by omega)
    rw [cn_s] at w
    refine ⟨v1, by decide, v1, by decide, xp_dim _ _ (by omega) (by omega) (zb_eq (qi n % 2 + qj n % 2) 2 (fun e => nm_r (zi_1 _) (nm_r (zi_1 _) ?_)) (fun e => nm_r (zi_1 _) ?_))⟩
    · have : cel (qi n) (qj n) = true := by unfold cel; rw [decide_eq_true_eq]; omega
      rw [this] at w; exact w
    · have : cel (qi n) (qj n) = false := by unfold cel; rw [decide_eq_false_iff_not]; omega
      rw [this] at w; exact w
theorem py_45 {c : Int32} {fi ly ma se px py la : Nat → Int32} {post : Int32 → SY → Prop} {L : Int → Int} (A : LB la L) {x y : Int} (hx : 0 ≤ x ∧ x ≤ 12) (hy : 0 ≤ y ∧ y ≤ 12)
    (f : post (zI (cnt (fun n => decide (L n = L (50 * x + 2 * y)) && cel ((n : Int) / 25) ((n : Int) % 25)) 625)) (c, ly, fi, ma, se, px, py, la)) :
    ∀ (N n : Nat), n ≤ 625 → 625 - n < N → wY_piece_45 post (zI x) (zI y) c ly fi ma se px py la N (zI (cnt (fun n => decide (L n = L (50 * x + 2 * y)) && cel ((n : Int) / 25) ((n : Int) % 25)) n)) (zI n) := by
  intro N
  induction N with
  | zero => intro n h0 h1; omega
  | succ N ih =>
    intro n h0 h1
    refine zb_le 625 (n : Int) (fun h => ?_) (fun h => ?_)
    · have : n = 625 := by omega
      rw [this]; exact f
    · have v1 : vp_in (zI n) 625 := zv_in (n : Int) (by omega)
      have an := A n (by omega) (by omega)
      have ap := A (50 * x + 2 * y) (by omega) (by omega)
      have e1 : (50 * zI x) + (2 * zI y) = zI (50 * x + 2 * y) := by
        have e : 50 * zI x = zI (50 * x) := zi_mul 50 x
        rw [e, zi_dbl, zi_add]
      have w := ih (n + 1) (by omega) (by omega)
      rw [cn_s] at w
      have no : (decide (L n = L (50 * x + 2 * y)) && cel ((n : Int) / 25) ((n : Int) % 25)) = false → wY_piece_45 post (zI x) (zI y) c ly fi ma se px py la N (zI (cnt (fun n => decide (L n = L (50 * x + 2 * y)) && cel ((n : Int) / 25) ((n : Int) % 25)) n)) (zI (n + 1 : Nat)) := by
        intro hh; rw [hh] at w; exact w
      rw [zv_cl _ e1, zi_cl (by omega), an.1, ap.1, zi_d25 (by omega)]
      have e6 : zI (n : Int) - zI ((n : Int) / 25) * 25 = zI ((n : Int) % 25) := by
        rw [← zi_d25 (by omega)]; exact zi_r25 (by omega)
      rw [e6, zi_r2 (by omega), zi_r2 (by omega)]
      refine ⟨v1, zv_in (50 * x + 2 * y) (by omega) e1, zb_eq (L n) (L (50 * x + 2 * y)) (fun q1 => ⟨by decide, by decide, zb_eq ((n : Int) / 25 % 2) 1 (fun q2 => ⟨by decide, by decide, zb_eq ((n : Int) % 25 % 2) 1 (fun q3 => nm_r (zi_1 _) (nm_r (zi_1 _) ?_)) (fun q3 => nm_r (zi_1 _) (no ?_))⟩) (fun q2 => nm_r (zi_1 _) (no ?_))⟩) (fun q1 => nm_r (zi_1 _) (no ?_))⟩
      · have t1 : decide (L n = L (50 * x + 2 * y)) = true := by rw [decide_eq_true_eq]; exact q1
        have t2 : cel ((n : Int) / 25) ((n : Int) % 25) = true := by unfold cel; rw [decide_eq_true_eq]; exact ⟨q2, q3⟩
        rw [t1, t2] at w; exact w
      · have t2 : cel ((n : Int) / 25) ((n : Int) % 25) = false := by unfold cel; rw [decide_eq_false_iff_not]; exact fun z => q3 z.2
        rw [t2, Bool.and_false]
      · have t2 : cel ((n : Int) / 25) ((n : Int) % 25) = false := by unfold cel; rw [decide_eq_false_iff_not]; exact fun z => q2 z.1
        rw [t2, Bool.and_false]
      · have t1 : decide (L n = L (50 * x + 2 * y)) = false := by rw [decide_eq_false_iff_not]; exact q1
        rw [t1, Bool.false_and]
theorem pi_eq {g : Int → Int → Bool} {x y : Int} (hx : 0 ≤ x ∧ x ≤ 12) (hy : 0 ≤ y ∧ y ≤ 12) {m : Nat} {qi qj qd : Nat → Int} (h0 : AsF g true 2 (2 * x) (2 * y) = true) (F : FIN (AsF g true 2) (2 * x) (2 * y) m qi qj qd) {la : Nat → Int32} {L : Int → Int} (A : LB la L) (G : GI (AsF g true 2) L) (K : CI (cmQ m qi qj) L) (X : ∀ n, 0 ≤ n → n ≤ 624 → FXP L n) :
    cnt (fun n => decide (L n = L (50 * x + 2 * y)) && cel ((n : Int) / 25) ((n : Int) % 25)) 625 = cnt (fun k => cel (qi k) (qj k)) m := by
  have I := fx_inv A G X
  have e1 : (50 * x + 2 * y) / 25 = 2 * x := by omega
  have e2 : (50 * x + 2 * y) % 25 = 2 * y := by omega
  have p0 : 0 ≤ L (50 * x + 2 * y) := (G _ (by omega) (by omega)).mpr (by rw [e1, e2]; exact h0)
  have q0 : InQ m qi qj (2 * x) (2 * y) := by
    have := F.1.1 h0
    obtain ⟨b1, b2, -⟩ := F.1.2.2.1 this
    exact ⟨0, this, b1, b2⟩
  have gq : ∀ k, k < m → Gd (qi k) (qj k) := fun k hk => as_s _ _ (F.1.2.2.2.1 k hk)
  refine cn_bij (P := fun _ => true) (N := 625) (fun k => cel (qi k) (qj k)) (fun k => (25 * qi k + qj k).toNat) m _ (fun k hk hc => ?_) (fun k k' hk hk' _ _ e => ?_) (fun n hn hp => ?_)
  · have gd := gq k hk
    have ec : (((25 * qi k + qj k).toNat : Nat) : Int) = 25 * qi k + qj k := by omega
    refine ⟨by show (25 * qi k + qj k).toNat < 625; omega, ?_⟩
    show (decide (L ((25 * qi k + qj k).toNat : Int) = L (50 * x + 2 * y)) && cel (((25 * qi k + qj k).toNat : Int) / 25) (((25 * qi k + qj k).toNat : Int) % 25)) = true
    have z1 : (25 * qi k + qj k) / 25 = qi k := by omega
    have z2 : (25 * qi k + qj k) % 25 = qj k := by omega
    rw [ec, z1, z2, Bool.and_eq_true, decide_eq_true_eq]
    refine ⟨?_, hc⟩
    have := fin_inv F.1 I (k + 1) k (by omega) hk
    have e : L (25 * qi k + qj k) = L (25 * (2 * x) + 2 * y) := this
    rw [e]; congr 1; omega
  · have a1 := gq k hk
    have a2 := gq k' hk'
    have e' : (25 * qi k + qj k).toNat = (25 * qi k' + qj k').toNat := e
    exact F.1.2.2.2.2.1 k k' hk hk' (by omega) (by omega)
  · have hp' : (decide (L (n : Int) = L (50 * x + 2 * y)) && cel ((n : Int) / 25) ((n : Int) % 25)) = true := hp
    rw [Bool.and_eq_true, decide_eq_true_eq] at hp'
    have k1 := (K n (by omega) (by omega) (by rw [hp'.1]; exact p0)).2
    have k2 := (K (50 * x + 2 * y) (by omega) (by omega) p0).2
    rw [hp'.1, k2, e1, e2, cq_1 q0] at k1
    rcases Classical.em (InQ m qi qj ((n : Int) / 25) ((n : Int) % 25)) with hq | hq
    · obtain ⟨k, hk, y1, y2⟩ := hq
      refine ⟨k, hk, ?_, ?_⟩
      · show cel (qi k) (qj k) = true
        rw [y1, y2]; exact hp'.2
      · show (25 * qi k + qj k).toNat = n
        rw [y1, y2]; omega
    · rw [cq_0 hq] at k1; omega
theorem i_vc_piece {k : Nat} {u : SX} {v : SY} (I : i_Rel k u v) (hk : k + 5 ≤ 2560) (v1 : Int32) (v2 : Int32) (v3 : Int32) : wpX_piece (fun r u' => wpY_piece (fun r' v' => r' = r ∧ i_Rel (k + 5) u' v') v v1 v2 v3) u v1 v2 v3 := by
  obtain ⟨c, rc, gc, lr, rk, a, cx, cy, re, st, dg⟩ := u
  obtain ⟨c', ly, fi, ma, se, px, py, la⟩ := v
  obtain ⟨S, n, X, Y, P, Q, C, T, rfl, rfl⟩ := I
  obtain ⟨l, hl, rfl⟩ := zi_ex v1
  obtain ⟨x, hx, rfl⟩ := zi_ex v2
  obtain ⟨y, hy, rfl⟩ := zi_ex v3
  have R0 : i_Rel (k + 5) (zI n, rc, gc, lr, rk, a, cx, cy, re, st, dg) (zI n, ly, fi, ma, se, px, py, la) := i_mk P Q C T
  have bad : (∀ (h1 : 0 ≤ l ∧ l ≤ 5), (0 ≤ x ∧ x ≤ 12) → (0 ≤ y ∧ y ≤ 12) → S l (2 * x) (2 * y) = false) → wpY_piece (fun r' v' => r' = -1 ∧ i_Rel (k + 5) (zI n, rc, gc, lr, rk, a, cx, cy, re, st, dg) v') (zI n, ly, fi, ma, se, px, py, la) (zI l) (zI x) (zI y) := by
    intro h
    unfold wpY_piece
    refine yg_layer l hl (fun h1 => b1_f (yg_coord x y hx hy (fun h2 => b1_f ?_) (fun _ => b0_t ⟨rfl, R0⟩))) (fun h1 => b0_t ⟨rfl, R0⟩)
    rw [zi_dbl, zi_dbl]
    refine yp_in Q P.2 l _ _ h1 (by omega) (by omega) (bb_0 (fun e => ⟨rfl, R0⟩) (fun e => ?_))
    rw [h h1 h2.1 h2.2] at e; exact absurd e (by decide)
  unfold wpX_piece
  refine xg_layer l hl (fun h1 => b1_f ?_) (fun h1 => b0_t (bad (fun h => absurd h h1)))
  refine xg_coord x hx (fun h2 => b1_f ?_) (fun h2 => b0_t (bad (fun _ h => absurd h h2)))
  refine xg_coord y hy (fun h3 => b1_f ?_) (fun h3 => b0_t (bad (fun _ _ h => absurd h h3)))
  rw [zi_dbl, zi_dbl]
  refine xp_has P l _ _ (by omega) (by omega) (by omega) (bb_0 (fun e => bad (fun _ _ _ => e)) (fun e => ?_))
  clear bad R0
  have Hl : Sup (S l) := fun i j => P.2 l i j
  refine xp_as P l 2 true h1 (by omega) (fun a1 P1 => ?_)
  have e6 : setl S 6 (AsF (S l) true 2) 6 = AsF (S l) true 2 := by unfold setl; rw [if_pos rfl]
  have el : ∀ s : Int, s ≤ 5 → setl S 6 (AsF (S l) true 2) s = S s := by intro s hs; unfold setl; rw [if_neg (by omega)]
  refine xp_spread P1 (2 * x) (2 * y) (by omega) (fun m qi qj qd a2 re2 st2 S2 F hS => ?_)
  rw [e6] at F
  have e5 : ∀ s, s ≤ 5 → S2 s = S s := fun s hs => by rw [hS.2.1 s (by omega), el s hs]
  have h0 : AsF (S l) true 2 (2 * x) (2 * y) = true := as_i.mpr ⟨by omega, e⟩
  refine ⟨626, px_62 as_s F.1 hS.2.2.2 ?_ 626 0 (by omega) (by omega)⟩
  unfold wpY_piece
  refine yg_layer l hl (fun _ => b1_f (yg_coord x y hx hy (fun _ => b1_f ?_) (fun h => absurd ⟨h2, h3⟩ h))) (fun h => absurd h1 h)
  rw [zi_dbl, zi_dbl]
  refine yp_in Q P.2 l _ _ h1 (by omega) (by omega) ?_
  rw [e]
  refine b1_f (yp_pieces (cm := cmQ m qi qj) Q true h1 (C l h1.1 h1.2) (cq_inv F) (fun la2 L A G K X2 => ⟨626, ?_⟩))
  refine py_45 A h2 h3 ⟨?_, i_mk hS.1 (yp_c Q e5) (cl_c C e5) T⟩ 626 0 (by omega) (by omega)
  rw [pi_eq h2 h3 h0 F A G K X2]
end
section
/-! measure: counting atoms -/
def cX (F : Int → Int → Bool) (q : Nat) : Nat := cnt (fun m => F ((m : Int) % 25) ((m : Int) / 25)) q
def cY (F : Int → Int → Bool) (q : Nat) : Nat := cnt (fun m => F ((m : Int) / 25) ((m : Int) % 25)) q
theorem cX_s {F : Int → Int → Bool} {i j : Int} (hi : 0 ≤ i ∧ i ≤ 24) (hj : 0 ≤ j) : (cX F (25 * j + (i + 1)).toNat : Int) = cX F (25 * j + i).toNat + bZ (F i j) := by
  have e : (25 * j + (i + 1)).toNat = (25 * j + i).toNat + 1 := by omega
  have e1 : (((25 * j + i).toNat : Nat) : Int) % 25 = i := by omega
  have e2 : (((25 * j + i).toNat : Nat) : Int) / 25 = j := by omega
  unfold cX
  rw [e, cn_s]
  rw [e1, e2]
  cases F i j <;> simp [bN, bZ]
theorem cY_s {F : Int → Int → Bool} {n : Int} (hn : 0 ≤ n) : (cY F (n + 1).toNat : Int) = cY F n.toNat + bZ (F (n / 25) (n % 25)) := by
  have e : (n + 1).toNat = n.toNat + 1 := by omega
  have e1 : ((n.toNat : Nat) : Int) = n := by omega
  unfold cY
  rw [e, cn_s]
  rw [e1]
  cases F (n / 25) (n % 25) <;> simp [bN, bZ]
theorem c_tr (F : Int → Int → Bool) : cX F 625 = cY F 625 := by
  unfold cX cY
  refine cn_bij (P := fun _ => true) (N := 625) (fun n => F ((n : Int) / 25) ((n : Int) % 25)) (fun k => (25 * (k % 25) + k / 25)) 625 _ (fun k hk h => ?_) (fun k k' hk hk' _ _ e => ?_) (fun n hn h => ?_)
  · refine ⟨by show 25 * (k % 25) + k / 25 < 625; omega, ?_⟩
    show F (((25 * (k % 25) + k / 25 : Nat) : Int) % 25) (((25 * (k % 25) + k / 25 : Nat) : Int) / 25) = true
    have e1 : ((25 * (k % 25) + k / 25 : Nat) : Int) % 25 = (k : Int) / 25 := by omega
    have e2 : ((25 * (k % 25) + k / 25 : Nat) : Int) / 25 = (k : Int) % 25 := by omega
    rw [e1, e2]; exact h
  · have e' : 25 * (k % 25) + k / 25 = 25 * (k' % 25) + k' / 25 := e
    omega
  · refine ⟨25 * (n % 25) + n / 25, by omega, ?_, ?_⟩
    · show F (((25 * (n % 25) + n / 25 : Nat) : Int) / 25) (((25 * (n % 25) + n / 25 : Nat) : Int) % 25) = true
      have e1 : ((25 * (n % 25) + n / 25 : Nat) : Int) % 25 = (n : Int) / 25 := by omega
      have e2 : ((25 * (n % 25) + n / 25 : Nat) : Int) / 25 = (n : Int) % 25 := by omega
      rw [e1, e2]; exact h
    · show 25 * ((25 * (n % 25) + n / 25) % 25) + (25 * (n % 25) + n / 25) / 25 = n
      omega
def PF (g : Int → Int → Bool) (dm pt : Int) (i j : Int) : Bool := decide (i % 2 + j % 2 = dm) && decide (prt g i j = pt)
def LF (g : Int → Int → Bool) (i j : Int) : Bool := decide (i % 2 + j % 2 = 1) && (g i j && decide (cc g i j = 0))
section
variable {c rc gc lr rk : Int32} {a cx cy re st dg : Nat → Int32} {S : Int → Int → Int → Bool}
theorem cp_i {post : Int32 → Prop} {J : Int32 → Int32 → Prop} (P : XP a S) {l dm pt j : Int} (hl : 0 ≤ l ∧ l ≤ 6) (hd : 0 ≤ dm ∧ dm ≤ 2) (hp : 0 ≤ pt ∧ pt ≤ 2) (hj : 0 ≤ j ∧ j ≤ 24)
    (hJ : J (zI (cX (PF (S l) dm pt) (25 * (j + 1) + 0).toNat)) (zI (j + 1))) :
    ∀ (N : Nat) (i : Int), 0 ≤ i → i ≤ 25 → (25 - i).toNat < N → wX_countParts_16 post J (zI l) (zI dm) (zI pt) (zI j) c rc gc lr rk a cx cy re st dg N (zI (cX (PF (S l) dm pt) (25 * j + i).toNat)) (zI i) := by
  intro N
  induction N with
  | zero => intro i h0 h1; omega
  | succ N ih =>
    intro i h0 h1 h2
    refine zb_le 25 i (fun h => nm_r (zi_1 j) ?_) (fun h => ?_)
    · have e : 25 * j + i = 25 * (j + 1) + 0 := by omega
      rw [e]; exact hJ
    · have w := ih (i + 1) (by omega) (by omega) (by omega)
      rw [cX_s (by omega) hj.1] at w
      have pr := pr_r (S l) i j
      have no : PF (S l) dm pt i j = false → wX_countParts_16 post J (zI l) (zI dm) (zI pt) (zI j) c rc gc lr rk a cx cy re st dg N (zI (cX (PF (S l) dm pt) (25 * j + i).toNat)) (zI (i + 1)) := by
        intro hh; rw [hh] at w; simpa [bZ] using w
      refine xp_dim i j (by omega) (by omega) (zb_eq (i % 2 + j % 2) dm (fun q => xp_part P l i j hl (by omega) (by omega) (zb_eq (prt (S l) i j) pt (fun q2 => nm_r (zi_1 _) (nm_r (zi_1 _) ?_)) (fun q2 => nm_r (zi_1 _) (no ?_)))) (fun q => nm_r (zi_1 _) (no ?_)))
      · have : PF (S l) dm pt i j = true := by unfold PF; rw [Bool.and_eq_true, decide_eq_true_eq, decide_eq_true_eq]; exact ⟨q, q2⟩
        rw [this] at w; exact w
      · unfold PF
        have : decide (prt (S l) i j = pt) = false := by rw [decide_eq_false_iff_not]; exact q2
        rw [this, Bool.and_false]
      · unfold PF
        have : decide (i % 2 + j % 2 = dm) = false := by rw [decide_eq_false_iff_not]; exact q
        rw [this, Bool.false_and]
theorem xp_cp {post : Int32 → Prop} (P : XP a S) {l dm pt : Int} (hl : 0 ≤ l ∧ l ≤ 6) (hd : 0 ≤ dm ∧ dm ≤ 2) (hp : 0 ≤ pt ∧ pt ≤ 2) (f : post (zI (cX (PF (S l) dm pt) 625))) : wpX_countParts post (c, rc, gc, lr, rk, a, cx, cy, re, st, dg) (zI l) (zI dm) (zI pt) := by
  unfold wpX_countParts
  have key : ∀ (N : Nat) (j : Int), 0 ≤ j → j ≤ 25 → (25 - j).toNat < N → wX_countParts_6 post (zI l) (zI dm) (zI pt) c rc gc lr rk a cx cy re st dg N (zI (cX (PF (S l) dm pt) (25 * j + 0).toNat)) (zI j) := by
    intro N
    induction N with
    | zero => intro i h0 h1; omega
    | succ N ih =>
      intro j h0 h1 h2
      refine zb_le 25 j (fun h => ?_) (fun h => ⟨26, ?_⟩)
      · have e : (25 * j + 0).toNat = 625 := by omega
        rw [e]; exact f
      · exact cp_i P hl hd hp (by omega) (ih (j + 1) (by omega) (by omega) (by omega)) 26 0 (by omega) (by omega) (by omega)
  exact ⟨26, key 26 0 (by omega) (by omega) (by omega)⟩
theorem cl_i {post : Int32 → Prop} {J : Int32 → Int32 → Prop} (P : XP a S) {l j : Int} (hl : 0 ≤ l ∧ l ≤ 6) (hj : 0 ≤ j ∧ j ≤ 24)
    (hJ : J (zI (cX (LF (S l)) (25 * (j + 1) + 0).toNat)) (zI (j + 1))) :
    ∀ (N : Nat) (i : Int), 0 ≤ i → i ≤ 25 → (25 - i).toNat < N → wX_countLineEdges_13 post J (zI l) (zI j) c rc gc lr rk a cx cy re st dg N (zI (cX (LF (S l)) (25 * j + i).toNat)) (zI i) := by
  intro N
  induction N with
  | zero => intro i h0 h1; omega
  | succ N ih =>
    intro i h0 h1 h2
    refine zb_le 25 i (fun h => nm_r (zi_1 j) ?_) (fun h => ?_)
    · have e : 25 * j + i = 25 * (j + 1) + 0 := by omega
      rw [e]; exact hJ
    · have w := ih (i + 1) (by omega) (by omega) (by omega)
      rw [cX_s (by omega) hj.1] at w
      have cr := cc_r (S l) i j
      have no : LF (S l) i j = false → wX_countLineEdges_13 post J (zI l) (zI j) c rc gc lr rk a cx cy re st dg N (zI (cX (LF (S l)) (25 * j + i).toNat)) (zI (i + 1)) := by
        intro hh; rw [hh] at w; simpa [bZ] using w
      have k45 : LF (S l) i j = false → wX_countLineEdges_45 post J (wX_countLineEdges_13 post J (zI l) (zI j) c rc gc lr rk a cx cy re st dg N) (zI l) (zI (cX (LF (S l)) (25 * j + i).toNat)) (zI j) (zI i) c rc gc lr rk a cx cy re st dg := by
        intro hh
        unfold wX_countLineEdges_45 wX_countLineEdges_46
        exact b0_t (nm_r (zi_1 i) (no hh))
      refine xp_dim i j (by omega) (by omega) (zb_eq (i % 2 + j % 2) 1 (fun q => xp_has P l i j hl (by omega) (by omega) (bb_0 (fun q2 => k45 ?_) (fun q2 => ?_))) (fun q => k45 ?_))
      · unfold LF; rw [q2, Bool.false_and, Bool.and_false]
      · unfold wX_countLineEdges_46
        refine b1_f (xp_cells P l i j hl (by omega) (zb_eq (cc (S l) i j) 0 (fun q3 => nm_r (zi_1 _) (nm_r (zi_1 _) ?_)) (fun q3 => nm_r (zi_1 _) (no ?_))))
        · have : LF (S l) i j = true := by
            unfold LF; rw [Bool.and_eq_true, Bool.and_eq_true, decide_eq_true_eq, decide_eq_true_eq]; exact ⟨q, q2, q3⟩
          rw [this] at w; exact w
        · unfold LF
          have : decide (cc (S l) i j = 0) = false := by rw [decide_eq_false_iff_not]; exact q3
          rw [this, Bool.and_false, Bool.and_false]
      · unfold LF
        have : decide (i % 2 + j % 2 = 1) = false := by rw [decide_eq_false_iff_not]; exact q
        rw [this, Bool.false_and]
theorem xp_cl {post : Int32 → Prop} (P : XP a S) {l : Int} (hl : 0 ≤ l ∧ l ≤ 6) (f : post (zI (cX (LF (S l)) 625))) : wpX_countLineEdges post (c, rc, gc, lr, rk, a, cx, cy, re, st, dg) (zI l) := by
  unfold wpX_countLineEdges
  have key : ∀ (N : Nat) (j : Int), 0 ≤ j → j ≤ 25 → (25 - j).toNat < N → wX_countLineEdges_4 post (zI l) c rc gc lr rk a cx cy re st dg N (zI (cX (LF (S l)) (25 * j + 0).toNat)) (zI j) := by
    intro N
    induction N with
    | zero => intro i h0 h1; omega
    | succ N ih =>
      intro j h0 h1 h2
      refine zb_le 25 j (fun h => ?_) (fun h => ⟨26, ?_⟩)
      · have e : (25 * j + 0).toNat = 625 := by omega
        rw [e]; exact f
      · exact cl_i P hl (by omega) (ih (j + 1) (by omega) (by omega) (by omega)) 26 0 (by omega) (by omega) (by omega)
  exact ⟨26, key 26 0 (by omega) (by omega) (by omega)⟩
end
def MF (g : Int → Int → Bool) (w : Int) : Int → Int → Bool := if w = 0 then PF g 2 0 else if w = 1 then LF g else if w = 2 then PF g 1 1 else PF g 0 1
section
variable {c : Int32} {fi ly ma se px py la : Nat → Int32} {S : Int → Int → Int → Bool}
theorem ms_190 {post : Int32 → SY → Prop} {J : Int32 → Int32 → Prop} {l w k n dm pt : Int} (hw : 0 ≤ w ∧ w ≤ 3) (hd : 0 ≤ dm ∧ dm ≤ 2) (hp : 0 ≤ pt ∧ pt ≤ 2)
    (f : J (zI (k + bZ (decide (w = 3 ∧ dm = 0 ∧ pt = 1)))) (zI (n + 1))) : wY_measure_190 post J (zI l) (zI w) (zI k) (zI n) (zI dm) (zI pt) c ly fi ma se px py la := by
  have no : ¬ (w = 3 ∧ dm = 0 ∧ pt = 1) → J (zI k) (zI (n + 1)) := by
    intro h
    have : decide (w = 3 ∧ dm = 0 ∧ pt = 1) = false := by rw [decide_eq_false_iff_not]; exact h
    rw [this] at f; simpa [bZ] using f
  refine zb_eq w 3 (fun q1 => zb_eq dm 0 (fun q2 => zb_eq pt 1 (fun q3 => nm_r (zi_1 k) (nm_r (zi_1 n) ?_)) (fun q3 => nm_r (zi_1 n) (no (by omega)))) (fun q2 => nm_r (zi_1 n) (no (by omega)))) (fun q1 => nm_r (zi_1 n) (no (by omega)))
  have : decide (w = 3 ∧ dm = 0 ∧ pt = 1) = true := by rw [decide_eq_true_eq]; exact ⟨q1, q2, q3⟩
  rw [this] at f; exact f
theorem ms_170 {post : Int32 → SY → Prop} {J : Int32 → Int32 → Prop} {l w k n dm pt : Int} (hw : 0 ≤ w ∧ w ≤ 3) (hd : 0 ≤ dm ∧ dm ≤ 2) (hp : 0 ≤ pt ∧ pt ≤ 2)
    (f : J (zI (k + bZ (decide (w = 2 ∧ dm = 1 ∧ pt = 1)) + bZ (decide (w = 3 ∧ dm = 0 ∧ pt = 1)))) (zI (n + 1))) : wY_measure_170 post J (zI l) (zI w) (zI k) (zI n) (zI dm) (zI pt) c ly fi ma se px py la := by
  have no : ¬ (w = 2 ∧ dm = 1 ∧ pt = 1) → wY_measure_190 post J (zI l) (zI w) (zI k) (zI n) (zI dm) (zI pt) c ly fi ma se px py la := by
    intro h
    have : decide (w = 2 ∧ dm = 1 ∧ pt = 1) = false := by rw [decide_eq_false_iff_not]; exact h
    rw [this] at f
    have e : k + bZ false = k := by simp [bZ]
    rw [e] at f
    exact ms_190 hw hd hp f
  refine zb_eq w 2 (fun q1 => zb_eq dm 1 (fun q2 => zb_eq pt 1 (fun q3 => nm_r (zi_1 k) ?_) (fun q3 => no (by omega))) (fun q2 => no (by omega))) (fun q1 => no (by omega))
  have : decide (w = 2 ∧ dm = 1 ∧ pt = 1) = true := by rw [decide_eq_true_eq]; exact ⟨q1, q2, q3⟩
  rw [this] at f
  exact ms_190 hw hd hp f
theorem ms_139 {post : Int32 → SY → Prop} {J : Int32 → Int32 → Prop} (Q : YP ly S) (H : HS S) {l w k n i j : Int} (hl : 0 ≤ l ∧ l ≤ 5) (hw : 0 ≤ w ∧ w ≤ 3) (hg : Gd i j)
    (f : J (zI (k + bZ (decide (w = 1 ∧ i % 2 + j % 2 = 1 ∧ prt (S l) i j = 0 ∧ cc (S l) i j = 0)) + bZ (decide (w = 2 ∧ i % 2 + j % 2 = 1 ∧ prt (S l) i j = 1)) + bZ (decide (w = 3 ∧ i % 2 + j % 2 = 0 ∧ prt (S l) i j = 1)))) (zI (n + 1))) : wY_measure_139 post J (zI l) (zI w) (zI k) (zI n) (zI i) (zI j) (zI (i % 2 + j % 2)) (zI (prt (S l) i j)) c ly fi ma se px py la := by
  have hp := pr_r (S l) i j
  have cr := cc_r (S l) i j
  have no : ¬ (w = 1 ∧ i % 2 + j % 2 = 1 ∧ prt (S l) i j = 0 ∧ cc (S l) i j = 0) → wY_measure_170 post J (zI l) (zI w) (zI k) (zI n) (zI (i % 2 + j % 2)) (zI (prt (S l) i j)) c ly fi ma se px py la := by
    intro h
    have : decide (w = 1 ∧ i % 2 + j % 2 = 1 ∧ prt (S l) i j = 0 ∧ cc (S l) i j = 0) = false := by rw [decide_eq_false_iff_not]; exact h
    rw [this] at f
    have e : k + bZ false = k := by simp [bZ]
    rw [e] at f
    exact ms_170 hw (by omega) hp f
  refine zb_eq w 1 (fun q1 => zb_eq (i % 2 + j % 2) 1 (fun q2 => zb_eq (prt (S l) i j) 0 (fun q3 => yp_cells Q H l i j hl hg (by omega) (zb_eq (cc (S l) i j) 0 (fun q4 => nm_r (zi_1 k) ?_) (fun q4 => no (by omega)))) (fun q3 => no (by omega))) (fun q2 => no (by omega))) (fun q1 => no (by omega))
  have : decide (w = 1 ∧ i % 2 + j % 2 = 1 ∧ prt (S l) i j = 0 ∧ cc (S l) i j = 0) = true := by rw [decide_eq_true_eq]; exact ⟨q1, q2, q3, q4⟩
  rw [this] at f
  exact ms_170 hw (by omega) hp f
theorem mf_e {g : Int → Int → Bool} {w i j : Int} (hw : 0 ≤ w ∧ w ≤ 3) : bZ (decide (w = 0 ∧ i % 2 + j % 2 = 2 ∧ prt g i j = 0)) + bZ (decide (w = 1 ∧ i % 2 + j % 2 = 1 ∧ prt g i j = 0 ∧ cc g i j = 0)) + bZ (decide (w = 2 ∧ i % 2 + j % 2 = 1 ∧ prt g i j = 1)) + bZ (decide (w = 3 ∧ i % 2 + j % 2 = 0 ∧ prt g i j = 1)) = bZ (MF g w i j) := by
  have e : w = 0 ∨ w = 1 ∨ w = 2 ∨ w = 3 := by omega
  rcases e with rfl | rfl | rfl | rfl
  · simp [MF, PF, bZ]
  · have : LF g i j = decide (i % 2 + j % 2 = 1 ∧ prt g i j = 0 ∧ cc g i j = 0) := by
      refine be ?_
      unfold LF
      rw [Bool.and_eq_true, Bool.and_eq_true, decide_eq_true_eq, decide_eq_true_eq, decide_eq_true_eq]
      constructor
      · rintro ⟨h1, h2, h3⟩
        refine ⟨h1, ?_, h3⟩
        unfold prt
        rw [if_neg (by rw [h2]; decide), if_neg (by omega), if_pos (by omega), if_neg (by omega)]
      · rintro ⟨h1, h2, h3⟩
        refine ⟨h1, ?_, h3⟩
        cases z : g i j
        · unfold prt at h2; rw [if_pos z] at h2; omega
        · rfl
    simp [MF, this, bZ]
  · simp [MF, PF, bZ]
  · simp [MF, PF, bZ]
theorem ms_77 {post : Int32 → SY → Prop} (Q : YP ly S) (H : HS S) {l w : Int} (hl : 0 ≤ l ∧ l ≤ 5) (hw : 0 ≤ w ∧ w ≤ 3)
    (f : post (zI (cY (MF (S l) w) 625)) (c, ly, fi, ma, se, px, py, la)) :
    ∀ (N : Nat) (n : Int), 0 ≤ n → n ≤ 625 → (625 - n).toNat < N → wY_measure_77 post (zI l) (zI w) c ly fi ma se px py la N (zI (cY (MF (S l) w) n.toNat)) (zI n) := by
  intro N
  induction N with
  | zero => intro n h0 h1; omega
  | succ N ih =>
    intro n h0 h1 h2
    refine zb_le 625 n (fun h => ?_) (fun h => ?_)
    · have e : n.toNat = 625 := by omega
      rw [e]; exact f
    · have gq : Gd (n / 25) (n % 25) := by omega
      have hp := pr_r (S l) (n / 25) (n % 25)
      have w1 := ih (n + 1) (by omega) (by omega) (by omega)
      rw [cY_s h0, ← mf_e hw] at w1
      refine ⟨by decide, nm_r (zi_d25 (by omega)) ⟨by decide, nm_r (zi_r25 (by omega)) ⟨by decide, by decide, ?_⟩⟩⟩
      rw [zi_r2 (by omega), zi_r2 (by omega), zi_add]
      refine nm_e (yp_part Q H l _ _ hl (by omega) (by omega) ?_)
      generalize (cY (MF (S l) w) n.toNat : Int) = k at w1 ⊢
      have no : ¬ (w = 0 ∧ n / 25 % 2 + n % 25 % 2 = 2 ∧ prt (S l) (n / 25) (n % 25) = 0) → wY_measure_139 post (wY_measure_77 post (zI l) (zI w) c ly fi ma se px py la N) (zI l) (zI w) (zI k) (zI n) (zI (n / 25)) (zI (n % 25)) (zI (n / 25 % 2 + n % 25 % 2)) (zI (prt (S l) (n / 25) (n % 25))) c ly fi ma se px py la := by
        intro hh
        refine ms_139 Q H hl hw gq ?_
        have : decide (w = 0 ∧ n / 25 % 2 + n % 25 % 2 = 2 ∧ prt (S l) (n / 25) (n % 25) = 0) = false := by rw [decide_eq_false_iff_not]; exact hh
        rw [this] at w1
        have e : bZ false = 0 := rfl
        rw [e, Int.zero_add, ← Int.add_assoc, ← Int.add_assoc] at w1
        exact w1
      refine zb_eq w 0 (fun q1 => zb_eq (n / 25 % 2 + n % 25 % 2) 2 (fun q2 => zb_eq (prt (S l) (n / 25) (n % 25)) 0 (fun q3 => nm_r (zi_1 k) ?_) (fun q3 => no (fun z => q3 z.2.2))) (fun q2 => no (fun z => q2 z.2.1))) (fun q1 => no (fun z => q1 z.1))
      refine ms_139 Q H hl hw gq ?_
      have : decide (w = 0 ∧ n / 25 % 2 + n % 25 % 2 = 2 ∧ prt (S l) (n / 25) (n % 25) = 0) = true := by rw [decide_eq_true_eq]; exact ⟨q1, q2, q3⟩
      rw [this] at w1
      have e : bZ true = 1 := rfl
      rw [e, ← Int.add_assoc, ← Int.add_assoc, ← Int.add_assoc] at w1
      exact w1
end
end
section
/-! the pieces that X finds, as a ghost numbering -/
def rim (i j : Int) : Prop := i = 0 ∨ i = 24 ∨ j = 0 ∨ j = 24
def CP (G : Int → Int → Bool) (R : Int → Int → Prop) (t : Nat) (cm : Int → Int → Int) (hl : Nat → Bool) : Prop :=
  (∀ i j, R i j → G i j = true ∧ 0 ≤ cm i j ∧ cm i j < t) ∧
  (∀ i j d, 0 ≤ d → d ≤ 3 → R i j → G (i + eaD d) (j + noD d) = true → R (i + eaD d) (j + noD d) ∧ cm i j = cm (i + eaD d) (j + noD d)) ∧
  (∀ f, Inv4 G f → ∀ i j i' j', R i j → R i' j' → cm i j = cm i' j' → f i j = f i' j') ∧
  (∀ κ : Nat, κ < t → ∃ i j, R i j ∧ cm i j = κ) ∧
  (∀ κ : Nat, κ < t → (hl κ = true ↔ ∀ i j, R i j → cm i j = κ → ¬ rim i j))
noncomputable def cmA (m : Nat) (qi qj : Nat → Int) (t : Nat) (cm : Int → Int → Int) : Int → Int → Int := fun i j => @ite Int (InQ m qi qj i j) (Classical.propDecidable _) (t : Int) (cm i j)
theorem ca_1 {m : Nat} {qi qj : Nat → Int} {t : Nat} {cm : Int → Int → Int} {i j : Int} (h : InQ m qi qj i j) : cmA m qi qj t cm i j = t := by unfold cmA; rw [if_pos h]
theorem ca_0 {m : Nat} {qi qj : Nat → Int} {t : Nat} {cm : Int → Int → Int} {i j : Int} (h : ¬ InQ m qi qj i j) : cmA m qi qj t cm i j = cm i j := by unfold cmA; rw [if_neg h]
theorem cp_add {G S6 : Int → Int → Bool} {R : Int → Int → Prop} {t : Nat} {cm : Int → Int → Int} {hl : Nat → Bool} (P : CP G R t cm hl) (h6 : ∀ i j, S6 i j = true ↔ G i j = true ∧ ¬ R i j) {i0 j0 : Int} {m : Nat} {qi qj qd : Nat → Int} (F : FIN S6 i0 j0 m qi qj qd) (h0 : S6 i0 j0 = true) {b : Bool} (hb : b = true ↔ ∀ k, k < m → ¬ rim (qi k) (qj k)) :
    CP G (fun i j => R i j ∨ InQ m qi qj i j) (t + 1) (cmA m qi qj t cm) (fun κ => if κ = t then b else hl κ) := by
  obtain ⟨p1, p2, p3, p4, p5⟩ := P
  have q6 : ∀ i j, InQ m qi qj i j → S6 i j = true := by
    rintro i j ⟨k, hk, e1, e2⟩
    rw [← e1, ← e2]; exact F.1.2.2.2.1 k hk
  have nR : ∀ i j, InQ m qi qj i j → ¬ R i j := fun i j h => ((h6 i j).mp (q6 i j h)).2
  have qG : ∀ i j, InQ m qi qj i j → G i j = true := fun i j h => ((h6 i j).mp (q6 i j h)).1
  have nQ : ∀ i j, R i j → ¬ InQ m qi qj i j := fun i j h h' => nR i j h' h
  refine ⟨fun i j h => ?_, fun i j d d0 d3 h hg => ?_, fun f I i j i' j' h h' e => ?_, fun κ hκ => ?_, fun κ hκ => ?_⟩
  · rcases h with h | h
    · rw [ca_0 (nQ _ _ h)]; have := p1 i j h; exact ⟨this.1, by omega⟩
    · rw [ca_1 h]; exact ⟨qG _ _ h, by omega⟩
  · rcases h with h | h
    · obtain ⟨a1, a2⟩ := p2 i j d d0 d3 h hg
      rw [ca_0 (nQ _ _ h), ca_0 (nQ _ _ a1)]
      exact ⟨Or.inl a1, a2⟩
    · have nr : ¬ R (i + eaD d) (j + noD d) := by
        intro hr
        obtain ⟨o1, o2, o3⟩ := op_d ⟨d0, d3⟩
        have b1 : i + eaD d + eaD (opD d) = i := by rw [o2]; omega
        have b2 : j + noD d + noD (opD d) = j := by rw [o3]; omega
        have := (p2 _ _ (opD d) o1.1 o1.2 hr (by rw [b1, b2]; exact qG _ _ h)).1
        rw [b1, b2] at this
        exact nR _ _ h this
      have hq := fq_s F ⟨d0, d3⟩ h ((h6 _ _).mpr ⟨hg, nr⟩)
      rw [ca_1 h, ca_1 hq]
      exact ⟨Or.inr hq, rfl⟩
  · have I6 : Inv4 S6 f := fun i j d d0 d3 a1 a2 => I i j d d0 d3 ((h6 _ _).mp a1).1 ((h6 _ _).mp a2).1
    have fq : ∀ i j, InQ m qi qj i j → f i j = f i0 j0 := by
      rintro i j ⟨k, hk, e1, e2⟩
      rw [← e1, ← e2]; exact fin_inv F.1 I6 (k + 1) k (by omega) hk
    rcases h with h | h <;> rcases h' with h' | h'
    · rw [ca_0 (nQ _ _ h), ca_0 (nQ _ _ h')] at e
      exact p3 f I i j i' j' h h' e
    · rw [ca_0 (nQ _ _ h), ca_1 h'] at e
      have := p1 i j h; omega
    · rw [ca_1 h, ca_0 (nQ _ _ h')] at e
      have := p1 i' j' h'; omega
    · rw [fq _ _ h, fq _ _ h']
  · by_cases e : κ = t
    · have hm := F.1.1 h0
      obtain ⟨b1, b2, -⟩ := F.1.2.2.1 hm
      have hq : InQ m qi qj i0 j0 := ⟨0, hm, b1, b2⟩
      exact ⟨i0, j0, Or.inr hq, by rw [ca_1 hq, e]⟩
    · obtain ⟨i, j, h, hc⟩ := p4 κ (by omega)
      exact ⟨i, j, Or.inl h, by rw [ca_0 (nQ _ _ h)]; exact hc⟩
  · by_cases e : κ = t
    · show (if κ = t then b else hl κ) = true ↔ _
      rw [if_pos e, hb]
      constructor
      · intro hk i j h hc
        rcases h with h | h
        · rw [ca_0 (nQ _ _ h)] at hc; have := p1 i j h; omega
        · obtain ⟨k, hk', e1, e2⟩ := h
          rw [← e1, ← e2]; exact hk k hk'
      · intro hh k hk
        have hq : InQ m qi qj (qi k) (qj k) := ⟨k, hk, rfl, rfl⟩
        exact hh _ _ (Or.inr hq) (by rw [ca_1 hq, e])
    · show (if κ = t then b else hl κ) = true ↔ _
      rw [if_neg e, p5 κ (by omega)]
      constructor
      · intro hh i j h hc
        rcases h with h | h
        · rw [ca_0 (nQ _ _ h)] at hc; exact hh i j h hc
        · rw [ca_1 h] at hc; omega
      · intro hh i j h hc
        exact hh i j (Or.inl h) (by rw [ca_0 (nQ _ _ h)]; exact hc)
/-- the whole numbering -/
def CPF (G : Int → Int → Bool) (t : Nat) (cm : Int → Int → Int) (hl : Nat → Bool) : Prop := CP G (fun i j => G i j = true) t cm hl
theorem cp_fin {G : Int → Int → Bool} {R : Int → Int → Prop} {t : Nat} {cm : Int → Int → Int} {hl : Nat → Bool} (P : CP G R t cm hl) (h : ∀ i j, G i j = true → R i j) : CPF G t cm hl := by
  have e : R = fun i j => G i j = true := by
    funext i j
    exact propext ⟨fun r => (P.1 i j r).1, h i j⟩
  rw [e] at P; exact P
theorem cp_0 {G : Int → Int → Bool} : CP G (fun _ _ => False) 0 (fun _ _ => 0) (fun _ => false) :=
  ⟨fun _ _ h => h.elim, fun _ _ _ _ _ h => h.elim, fun _ _ _ _ _ _ h => h.elim, fun κ h => absurd h (by omega), fun κ h => absurd h (by omega)⟩
theorem cp_inv {G : Int → Int → Bool} {t : Nat} {cm : Int → Int → Int} {hl : Nat → Bool} (P : CPF G t cm hl) : Inv4 G cm :=
  fun i j d d0 d3 h1 h2 => (P.2.1 i j d d0 d3 h1 h2).2
noncomputable def hB (L : Int → Int) (n : Nat) : Bool := @decide (L n = n ∧ ∀ m, 0 ≤ m → m ≤ 624 → L m = n → ¬ rim (m / 25) (m % 25)) (Classical.propDecidable _)
theorem hB_i {L : Int → Int} {n : Nat} : hB L n = true ↔ L n = n ∧ ∀ m, 0 ≤ m → m ≤ 624 → L m = n → ¬ rim (m / 25) (m % 25) := by
  unfold hB
  exact @decide_eq_true_iff _ (Classical.propDecidable _)
theorem co_f {t : Nat} {Pq : Nat → Int → Prop} (h : ∀ κ, κ < t → ∃ x, Pq κ x) : ∃ r : Nat → Int, ∀ κ, κ < t → Pq κ (r κ) := by
  refine ⟨fun κ => @dite Int (κ < t) (Classical.propDecidable _) (fun q => Classical.choose (h κ q)) (fun _ => 0), fun κ q => ?_⟩
  show Pq κ (@dite Int (κ < t) (Classical.propDecidable _) (fun q => Classical.choose (h κ q)) (fun _ => 0))
  rw [dif_pos q]
  exact Classical.choose_spec (h κ q)
/-- the labels that stand at themselves are one a piece -/
theorem cp_eq {g : Int → Int → Bool} {mb : Bool} {t : Nat} {cm : Int → Int → Int} {hl : Nat → Bool} (P : CPF (AsF g mb 2) t cm hl) {la : Nat → Int32} {L : Int → Int} (A : LB la L) (G : GI (AsF g mb 2) L) (K : CI cm L) (X : ∀ n, 0 ≤ n → n ≤ 624 → FXP L n) :
    cnt (fun n => decide (L n = n)) 625 = t ∧ cnt (hB L) 625 = cnt hl t := by
  have I := fx_inv A G X
  obtain ⟨p1, p2, p3, p4, p5⟩ := P
  obtain ⟨r, hr⟩ := co_f (t := t) (Pq := fun κ n => (0 ≤ n ∧ n ≤ 624) ∧ AsF g mb 2 (n / 25) (n % 25) = true ∧ cm (n / 25) (n % 25) = κ) (fun κ hκ => by
    obtain ⟨i, j, h, hc⟩ := p4 κ hκ
    have gd := as_s _ _ h
    have e1 : (25 * i + j) / 25 = i := by omega
    have e2 : (25 * i + j) % 25 = j := by omega
    exact ⟨25 * i + j, by omega, by rw [e1, e2]; exact h, by rw [e1, e2]; exact hc⟩)
  have same : ∀ n m, (0 ≤ n ∧ n ≤ 624) → (0 ≤ m ∧ m ≤ 624) → 0 ≤ L n → 0 ≤ L m → cm (n / 25) (n % 25) = cm (m / 25) (m % 25) → L n = L m := by
    intro n m hn hm h1 h2 e
    have := p3 _ I _ _ _ _ ((G n hn.1 hn.2).mp h1) ((G m hm.1 hm.2).mp h2) e
    have e1 : 25 * (n / 25) + n % 25 = n := by omega
    have e2 : 25 * (m / 25) + m % 25 = m := by omega
    have t1 : L (25 * (n / 25) + n % 25) = L (25 * (m / 25) + m % 25) := this
    rw [e1, e2] at t1; exact t1
  -- the label of piece κ
  have lab : ∀ κ, κ < t → (0 ≤ L (r κ) ∧ L (r κ) ≤ 624) ∧ L (L (r κ)) = L (r κ) ∧ cm (L (r κ) / 25) (L (r κ) % 25) = κ := by
    intro κ hκ
    obtain ⟨h1, h2, h3⟩ := hr κ hκ
    have q : 0 ≤ L (r κ) := (G _ h1.1 h1.2).mpr h2
    have b := A (r κ) h1.1 h1.2
    obtain ⟨k1, k2⟩ := K (r κ) h1.1 h1.2 q
    refine ⟨by omega, ?_, by rw [k2, h3]⟩
    exact same _ _ (by omega) h1 k1 q k2
  have inj : ∀ κ κ', κ < t → κ' < t → (L (r κ)).toNat = (L (r κ')).toNat → κ = κ' := by
    intro κ κ' h h' e
    obtain ⟨a1, a2, a3⟩ := lab κ h
    obtain ⟨b1, b2, b3⟩ := lab κ' h'
    have e' : L (r κ) = L (r κ') := by omega
    rw [e', b3] at a3; omega
  have sur : ∀ n : Nat, n < 625 → L n = n → ∃ κ, κ < t ∧ L (r κ) = n := by
    intro n hn e
    have q : 0 ≤ L (n : Int) := by omega
    have gn := (G n (by omega) (by omega)).mp q
    obtain ⟨-, c0, c1⟩ := p1 _ _ gn
    obtain ⟨h1, h2, h3⟩ := hr (cm ((n : Int) / 25) ((n : Int) % 25)).toNat (by omega)
    refine ⟨(cm ((n : Int) / 25) ((n : Int) % 25)).toNat, by omega, ?_⟩
    have := same (r (cm ((n : Int) / 25) ((n : Int) % 25)).toNat) n h1 (by omega) ((G _ h1.1 h1.2).mpr h2) q (by rw [h3]; omega)
    rw [this, e]
  constructor
  · have e : cnt (fun n : Nat => decide (L n = n)) 625 = cnt (fun _ => true) t := by
      refine cn_bij (P := fun _ => true) (N := 625) (fun _ => true) (fun κ => (L (r κ)).toNat) t _ (fun κ h _ => ?_) (fun κ κ' h h' _ _ => inj κ κ' h h') (fun n hn hp => ?_)
      · obtain ⟨a1, a2, a3⟩ := lab κ h
        refine ⟨by show (L (r κ)).toNat < 625; omega, ?_⟩
        show decide (L ((L (r κ)).toNat : Int) = ((L (r κ)).toNat : Int)) = true
        rw [decide_eq_true_eq]
        have e : ((L (r κ)).toNat : Int) = L (r κ) := by omega
        rw [e]; exact a2
      · have hp' : decide (L (n : Int) = (n : Int)) = true := hp
        rw [decide_eq_true_eq] at hp'
        obtain ⟨κ, h1, h2⟩ := sur n hn hp'
        exact ⟨κ, h1, rfl, by show (L (r κ)).toNat = n; omega⟩
    rw [e]
    have h1 := cn_le (fun _ => true) t
    have h2 : t ≤ cnt (fun _ => true) t := cn_full.mpr (fun _ _ => rfl)
    omega
  · have hole : ∀ κ, κ < t → (hl κ = true ↔ ∀ m, 0 ≤ m → m ≤ 624 → L m = L (r κ) → ¬ rim (m / 25) (m % 25)) := by
      intro κ h
      obtain ⟨a1, a2, a3⟩ := lab κ h
      obtain ⟨h1, h2, h3⟩ := hr κ h
      rw [p5 κ h]
      constructor
      · intro hh m m0 m1 e
        have q : 0 ≤ L m := by omega
        refine hh _ _ ((G m m0 m1).mp q) ?_
        have := (K m m0 m1 q).2
        rw [e, a3] at this; exact this.symm
      · intro hh i j hg hc
        have gd := as_s _ _ hg
        have e1 : (25 * i + j) / 25 = i := by omega
        have e2 : (25 * i + j) % 25 = j := by omega
        have := hh (25 * i + j) (by omega) (by omega) (same _ _ (by omega) h1 ((G _ (by omega) (by omega)).mpr (by rw [e1, e2]; exact hg)) ((G _ h1.1 h1.2).mpr h2) (by rw [e1, e2, hc, h3]))
        rw [e1, e2] at this; exact this
    refine cn_bij (P := fun _ => true) (N := 625) hl (fun κ => (L (r κ)).toNat) t _ (fun κ h hh => ?_) (fun κ κ' h h' _ _ => inj κ κ' h h') (fun n hn hp => ?_)
    · obtain ⟨a1, a2, a3⟩ := lab κ h
      refine ⟨by show (L (r κ)).toNat < 625; omega, ?_⟩
      show hB L (L (r κ)).toNat = true
      rw [hB_i]
      have e : ((L (r κ)).toNat : Int) = L (r κ) := by omega
      rw [e]
      exact ⟨a2, (hole κ h).mp hh⟩
    · have hp' := hB_i.mp hp
      obtain ⟨κ, h1, h2⟩ := sur n hn hp'.1
      refine ⟨κ, h1, (hole κ h1).mpr ?_, by show (L (r κ)).toNat = n; omega⟩
      rw [h2]; exact hp'.2
end
section
/-! countPieces, countHoles -/
section
variable {c gc lr rk : Int32} {cx cy dg : Nat → Int32}
theorem rr_2 {post : Int32 → Prop} {a re st : Nat → Int32} {m : Nat} {qi qj qd : Nat → Int} {G : Int → Int → Bool} {i0 j0 : Int} (H : Sup G) (B : BF0 G i0 j0 m qi qj qd) (A : QA m qi qj qd re st)
    (f : ∀ b : Bool, (b = true ↔ ∀ k, k < m → ¬ rim (qi k) (qj k)) → post (bI (!b))) :
    ∀ (N n : Nat), n ≤ m → 625 - n < N → (∀ k, k < n → ¬ rim (qi k) (qj k)) → wX_reachedRim_2 post c (zI m) gc lr rk a cx cy re st dg N (zI n) := by
  have hm := bf_m H B
  intro N
  induction N with
  | zero => intro n h0 h1; omega
  | succ N ih =>
    intro n h0 h1 hb
    have fin : m ≤ n → post 0 := fun hh => f true ⟨fun _ k hk => hb k (by omega), fun _ => rfl⟩
    refine zb_le 625 (n : Int) (fun h => fin (by omega)) (fun h => zb_le (m : Int) (n : Int) (fun h2 => fin (by omega)) (fun h2 => ?_))
    have v1 : vp_in (zI n) 625 := zv_in (n : Int) (by omega)
    have c1 : (zI n).toNatClampNeg = n := by rw [zi_cl (by omega), Int.toNat_natCast]
    have q := A n (by omega)
    have gd := H _ _ (B.2.2.2.1 n (by omega))
    rw [c1, q.1]
    have e4 : zI (25 * qj n + qi n) - zI (25 * qj n + qi n) / 25 * 25 = zI (qi n) := by
      rw [zi_r25 (by omega)]; apply congrArg zI; omega
    have e5 : zI (25 * qj n + qi n) / 25 = zI (qj n) := by
      rw [zi_d25 (by omega)]; apply congrArg zI; omega
    have yes : rim (qi n) (qj n) → post 1 := fun hr => f false ⟨fun z => (nomatch z), fun hh => absurd hr (hh n (by omega))⟩
    refine ⟨v1, by decide, nm_r e4 ⟨v1, by decide, nm_r e5 (zb_eq (qi n) 0 (fun q1 => yes (Or.inl q1)) (fun q1 => zb_eq (qi n) 24 (fun q2 => yes (Or.inr (Or.inl q2))) (fun q2 => zb_eq (qj n) 0 (fun q3 => yes (Or.inr (Or.inr (Or.inl q3)))) (fun q3 => zb_eq (qj n) 24 (fun q4 => yes (Or.inr (Or.inr (Or.inr q4)))) (fun q4 => nm_r (zi_1 _) ?_)))))⟩⟩
    refine ih (n + 1) (by omega) (by omega) (fun k hk => ?_)
    by_cases e3 : k = n
    · subst e3; unfold rim; omega
    · exact hb k (by omega)
/-- the state between two spreadings -/
def XC (S0 : Int → Int → Int → Bool) (R : Int → Int → Prop) (a : Nat → Int32) (S : Int → Int → Int → Bool) : Prop :=
  XP a S ∧ (∀ s, s ≠ 6 → S s = S0 s) ∧ (∀ i j, S 6 i j = true ↔ S0 6 i j = true ∧ ¬ R i j)
theorem xc_s {S0 S S' : Int → Int → Int → Bool} {R : Int → Int → Prop} {a a' re st : Nat → Int32} (h : XC S0 R a S) {m : Nat} {qi qj qd : Nat → Int} (h' : STQ S m qi qj qd a' re st S') : XC S0 (fun i j => R i j ∨ InQ m qi qj i j) a' S' := by
  refine ⟨h'.1, fun s hs => (h'.2.1 s hs).trans (h.2.1 s hs), fun i j => ?_⟩
  rw [h'.2.2.1 i j, h.2.2 i j]
  exact ⟨fun z => ⟨z.1.1, fun q => q.elim z.1.2 z.2⟩, fun z => ⟨⟨z.1, fun q => z.2 (Or.inl q)⟩, fun q => z.2 (Or.inr q)⟩⟩
theorem kp_i {S0 : Int → Int → Int → Bool} {post : Int32 → SX → Prop} {J : Int32 → Int32 → Int32 → Int32 → Int32 → Int32 → Int32 → (Nat → Int32) → (Nat → Int32) → (Nat → Int32) → (Nat → Int32) → (Nat → Int32) → (Nat → Int32) → Prop} {j : Int} (H0 : Sup (S0 6)) (hj : 0 ≤ j ∧ j ≤ 24)
    (hJ : ∀ rc a re st S R t cm hl, XC S0 R a S → CP (S0 6) R t cm hl → (∀ i' j', S0 6 i' j' = true → j' < j + 1 → R i' j') → J (zI t) (zI (j + 1)) c rc gc lr rk a cx cy re st dg) :
    ∀ (N : Nat) (i : Int) (rc : Int32) (a re st : Nat → Int32) (S : Int → Int → Int → Bool) (R : Int → Int → Prop) (t : Nat) (cm : Int → Int → Int) (hl : Nat → Bool), 0 ≤ i → i ≤ 25 → (25 - i).toNat < N → XC S0 R a S → CP (S0 6) R t cm hl → (∀ i' j', S0 6 i' j' = true → (j' < j ∨ (j' = j ∧ i' < i)) → R i' j') → wX_countPieces_20 post J (zI j) N (zI t) (zI i) c rc gc lr rk a cx cy re st dg := by
  intro N
  induction N with
  | zero => intro i rc a re st S R t cm hl h0 h1; omega
  | succ N ih =>
    intro i rc a re st S R t cm hl h0 h1 h2 hX hC hE
    refine zb_le 25 i (fun h => nm_r (zi_1 j) (hJ rc a re st S R t cm hl hX hC (fun i' j' hg hlt => hE i' j' hg ?_))) (fun h => ?_)
    · have gd := H0 i' j' hg
      omega
    · refine xp_has hX.1 6 i j (by omega) (by omega) (by omega) (bb_0 (fun e => nm_r (zi_1 i) ?_) (fun e => ?_))
      · refine ih (i + 1) rc a re st S R t cm hl (by omega) (by omega) (by omega) hX hC (fun i' j' hg hlt => ?_)
        by_cases e2 : i' = i ∧ j' = j
        · obtain ⟨rfl, rfl⟩ := e2
          rcases Classical.em (R i' j') with r | r
          · exact r
          · rw [(hX.2.2 i' j').mpr ⟨hg, r⟩] at e; exact absurd e (by decide)
        · exact hE i' j' hg (by omega)
      · refine xp_spread hX.1 i j (by omega) (fun m qi qj qd a' re' st' S' F hS => nm_r (zi_1 _) (nm_r (zi_1 i) ?_))
        have hC' := cp_add (b := @decide (∀ k, k < m → ¬ rim (qi k) (qj k)) (Classical.propDecidable _)) hC hX.2.2 F e (@decide_eq_true_iff _ (Classical.propDecidable _))
        refine ih (i + 1) _ a' re' st' S' _ (t + 1) _ _ (by omega) (by omega) (by omega) (xc_s hX hS) hC' (fun i' j' hg hlt => ?_)
        by_cases e2 : i' = i ∧ j' = j
        · obtain ⟨rfl, rfl⟩ := e2
          have hm := F.1.1 e
          obtain ⟨b1, b2, -⟩ := F.1.2.2.1 hm
          exact Or.inr ⟨0, hm, b1, b2⟩
        · exact Or.inl (hE i' j' hg (by omega))
theorem kp_o {S0 : Int → Int → Int → Bool} {post : Int32 → SX → Prop} (H0 : Sup (S0 6))
    (f : ∀ rc a re st S t cm hl, XP a S → (∀ s, s ≠ 6 → S s = S0 s) → CPF (S0 6) t cm hl → post (zI t) (c, rc, gc, lr, rk, a, cx, cy, re, st, dg)) :
    ∀ (N : Nat) (j : Int) (rc : Int32) (a re st : Nat → Int32) (S : Int → Int → Int → Bool) (R : Int → Int → Prop) (t : Nat) (cm : Int → Int → Int) (hl : Nat → Bool), 0 ≤ j → j ≤ 25 → (25 - j).toNat < N → XC S0 R a S → CP (S0 6) R t cm hl → (∀ i' j', S0 6 i' j' = true → j' < j → R i' j') → wX_countPieces_11 post N (zI t) (zI j) c rc gc lr rk a cx cy re st dg := by
  intro N
  induction N with
  | zero => intro i rc a re st S R t cm hl h0 h1; omega
  | succ N ih =>
    intro j rc a re st S R t cm hl h0 h1 h2 hX hC hE
    refine zb_le 25 j (fun h => f rc a re st S t cm hl hX.1 hX.2.1 (cp_fin hC (fun i' j' hg => hE i' j' hg (by have := H0 i' j' hg; omega)))) (fun h => ⟨26, ?_⟩)
    exact kp_i H0 (by omega) (fun rc a re st S R t cm hl hX hC hE => ih (j + 1) rc a re st S R t cm hl (by omega) (by omega) (by omega) hX hC hE) 26 0 rc a re st S R t cm hl (by omega) (by omega) (by omega) hX hC (fun i' j' hg hlt => hE i' j' hg (by have := H0 i' j' hg; omega))
theorem kh_i {S0 : Int → Int → Int → Bool} {post : Int32 → SX → Prop} {J : Int32 → Int32 → Int32 → Int32 → Int32 → Int32 → Int32 → (Nat → Int32) → (Nat → Int32) → (Nat → Int32) → (Nat → Int32) → (Nat → Int32) → (Nat → Int32) → Prop} {j : Int} (H0 : Sup (S0 6)) (hj : 0 ≤ j ∧ j ≤ 24)
    (hJ : ∀ rc a re st S R t cm hl, XC S0 R a S → CP (S0 6) R t cm hl → (∀ i' j', S0 6 i' j' = true → j' < j + 1 → R i' j') → J (zI (cnt hl t)) (zI (j + 1)) c rc gc lr rk a cx cy re st dg) :
    ∀ (N : Nat) (i : Int) (rc : Int32) (a re st : Nat → Int32) (S : Int → Int → Int → Bool) (R : Int → Int → Prop) (t : Nat) (cm : Int → Int → Int) (hl : Nat → Bool), 0 ≤ i → i ≤ 25 → (25 - i).toNat < N → XC S0 R a S → CP (S0 6) R t cm hl → (∀ i' j', S0 6 i' j' = true → (j' < j ∨ (j' = j ∧ i' < i)) → R i' j') → wX_countHoles_20 post J (zI j) N (zI (cnt hl t)) (zI i) c rc gc lr rk a cx cy re st dg := by
  intro N
  induction N with
  | zero => intro i rc a re st S R t cm hl h0 h1; omega
  | succ N ih =>
    intro i rc a re st S R t cm hl h0 h1 h2 hX hC hE
    refine zb_le 25 i (fun h => nm_r (zi_1 j) (hJ rc a re st S R t cm hl hX hC (fun i' j' hg hlt => hE i' j' hg ?_))) (fun h => ?_)
    · have gd := H0 i' j' hg
      omega
    · refine xp_has hX.1 6 i j (by omega) (by omega) (by omega) (bb_0 (fun e => nm_r (zi_1 i) ?_) (fun e => ?_))
      · refine ih (i + 1) rc a re st S R t cm hl (by omega) (by omega) (by omega) hX hC (fun i' j' hg hlt => ?_)
        by_cases e2 : i' = i ∧ j' = j
        · obtain ⟨rfl, rfl⟩ := e2
          rcases Classical.em (R i' j') with r | r
          · exact r
          · rw [(hX.2.2 i' j').mpr ⟨hg, r⟩] at e; exact absurd e (by decide)
        · exact hE i' j' hg (by omega)
      · refine xp_spread hX.1 i j (by omega) (fun m qi qj qd a' re' st' S' F hS => ?_)
        unfold wpX_reachedRim
        refine ⟨626, rr_2 (fun i j => hX.1.2 6 i j) F.1 hS.2.2.2 (fun b hb => ?_) 626 0 (by omega) (by omega) (fun k hk => absurd hk (by omega))⟩
        have hC' := cp_add hC hX.2.2 F e hb
        have go : ∀ z : Int, z = cnt hl t + bZ b → wX_countHoles_20 post J (zI j) N (zI z) (zI (i + 1)) c (zI m) gc lr rk a' cx cy re' st' dg := by
          intro z ez
          have e3 : z = cnt (fun κ => if κ = t then b else hl κ) (t + 1) := by
            rw [cn_s, ez]
            have e4 : cnt (fun κ => if κ = t then b else hl κ) t = cnt hl t := cn_eq (fun k hk => if_neg (by omega))
            have e5 : (if t = t then b else hl t) = b := if_pos rfl
            rw [e4, e5]
            cases b <;> simp [bN, bZ]
          rw [e3]
          refine ih (i + 1) _ a' re' st' S' _ (t + 1) _ _ (by omega) (by omega) (by omega) (xc_s hX hS) hC' (fun i' j' hg hlt => ?_)
          by_cases e2 : i' = i ∧ j' = j
          · obtain ⟨rfl, rfl⟩ := e2
            have hm := F.1.1 e
            obtain ⟨b1, b2, -⟩ := F.1.2.2.1 hm
            exact Or.inr ⟨0, hm, b1, b2⟩
          · exact Or.inl (hE i' j' hg (by omega))
        refine bb_0 (fun eb => nm_r (zi_1 _) (nm_r (zi_1 i) (go _ ?_))) (fun eb => nm_r (zi_add _ 0) (nm_r (zi_1 i) (go _ ?_)))
        · have : b = true := by cases b <;> first | rfl | exact absurd eb (by decide)
          rw [this]; rfl
        · have : b = false := by cases b <;> first | rfl | exact absurd eb (by decide)
          rw [this]; rfl
theorem kh_o {S0 : Int → Int → Int → Bool} {post : Int32 → SX → Prop} (H0 : Sup (S0 6))
    (f : ∀ rc a re st S t cm hl, XP a S → (∀ s, s ≠ 6 → S s = S0 s) → CPF (S0 6) t cm hl → post (zI (cnt hl t)) (c, rc, gc, lr, rk, a, cx, cy, re, st, dg)) :
    ∀ (N : Nat) (j : Int) (rc : Int32) (a re st : Nat → Int32) (S : Int → Int → Int → Bool) (R : Int → Int → Prop) (t : Nat) (cm : Int → Int → Int) (hl : Nat → Bool), 0 ≤ j → j ≤ 25 → (25 - j).toNat < N → XC S0 R a S → CP (S0 6) R t cm hl → (∀ i' j', S0 6 i' j' = true → j' < j → R i' j') → wX_countHoles_11 post N (zI (cnt hl t)) (zI j) c rc gc lr rk a cx cy re st dg := by
  intro N
  induction N with
  | zero => intro i rc a re st S R t cm hl h0 h1; omega
  | succ N ih =>
    intro j rc a re st S R t cm hl h0 h1 h2 hX hC hE
    refine zb_le 25 j (fun h => f rc a re st S t cm hl hX.1 hX.2.1 (cp_fin hC (fun i' j' hg => hE i' j' hg (by have := H0 i' j' hg; omega)))) (fun h => ⟨26, ?_⟩)
    exact kh_i H0 (by omega) (fun rc a re st S R t cm hl hX hC hE => ih (j + 1) rc a re st S R t cm hl (by omega) (by omega) (by omega) hX hC hE) 26 0 rc a re st S R t cm hl (by omega) (by omega) (by omega) hX hC (fun i' j' hg hlt => hE i' j' hg (by have := H0 i' j' hg; omega))
theorem xp_pieces {post : Int32 → SX → Prop} {rc : Int32} {a re st : Nat → Int32} {S : Int → Int → Int → Bool} (P : XP a S) {l : Int} (hl : 0 ≤ l ∧ l ≤ 5)
    (f : ∀ rc a re st S' t cm hl, XP a S' → (∀ s, s ≤ 5 → S' s = S s) → CPF (AsF (S l) true 2) t cm hl → post (zI t) (c, rc, gc, lr, rk, a, cx, cy, re, st, dg)) : wpX_countPieces post (c, rc, gc, lr, rk, a, cx, cy, re, st, dg) (zI l) := by
  unfold wpX_countPieces
  have e6 : setl S 6 (AsF (S l) true 2) 6 = AsF (S l) true 2 := by unfold setl; rw [if_pos rfl]
  have el : ∀ s : Int, s ≤ 5 → setl S 6 (AsF (S l) true 2) s = S s := by intro s hs; unfold setl; rw [if_neg (by omega)]
  refine xp_as P l 2 true hl (by omega) (fun a1 P1 => ⟨26, ?_⟩)
  refine kp_o (S0 := setl S 6 (AsF (S l) true 2)) (fun i j => P1.2 6 i j) (fun rc a re st S' t cm hl P' h' C' => f rc a re st S' t cm hl P' (fun s hs => by rw [h' s (by omega), el s hs]) (by rw [e6] at C'; exact C')) 26 0 rc a1 re st _ (fun _ _ => False) 0 (fun _ _ => 0) (fun _ => false) (by omega) (by omega) (by omega) ⟨P1, fun _ _ => rfl, fun i j => ⟨fun h => ⟨h, fun h => h⟩, fun h => h.1⟩⟩ cp_0 (fun i' j' hg hlt => ?_)
  have := P1.2 6 i' j' hg; omega
theorem xp_holes {post : Int32 → SX → Prop} {rc : Int32} {a re st : Nat → Int32} {S : Int → Int → Int → Bool} (P : XP a S) {l : Int} (hl : 0 ≤ l ∧ l ≤ 5)
    (f : ∀ rc a re st S' t cm hl, XP a S' → (∀ s, s ≤ 5 → S' s = S s) → CPF (AsF (S l) false 2) t cm hl → post (zI (cnt hl t)) (c, rc, gc, lr, rk, a, cx, cy, re, st, dg)) : wpX_countHoles post (c, rc, gc, lr, rk, a, cx, cy, re, st, dg) (zI l) := by
  unfold wpX_countHoles
  have e6 : setl S 6 (AsF (S l) false 2) 6 = AsF (S l) false 2 := by unfold setl; rw [if_pos rfl]
  have el : ∀ s : Int, s ≤ 5 → setl S 6 (AsF (S l) false 2) s = S s := by intro s hs; unfold setl; rw [if_neg (by omega)]
  refine xp_as P l 2 false hl (by omega) (fun a1 P1 => ⟨26, ?_⟩)
  refine kh_o (S0 := setl S 6 (AsF (S l) false 2)) (fun i j => P1.2 6 i j) (fun rc a re st S' t cm hl P' h' C' => f rc a re st S' t cm hl P' (fun s hs => by rw [h' s (by omega), el s hs]) (by rw [e6] at C'; exact C')) 26 0 rc a1 re st _ (fun _ _ => False) 0 (fun _ _ => 0) (fun _ => false) (by omega) (by omega) (by omega) ⟨P1, fun _ _ => rfl, fun i j => ⟨fun h => ⟨h, fun h => h⟩, fun h => h.1⟩⟩ cp_0 (fun i' j' hg hlt => ?_)
  have := P1.2 6 i' j' hg; omega
end
section
variable {c : Int32} {fi ly ma se px py la : Nat → Int32}
theorem yp_cpc {post : Int32 → Prop} {L : Int → Int} (A : LB la L) (f : post (zI (cnt (fun n => decide (L n = n)) 625))) : wpY_countPieces post (c, ly, fi, ma, se, px, py, la) := by
  have key : ∀ (N n : Nat), n ≤ 625 → 625 - n < N → wY_countPieces_4 post c ly fi ma se px py la N (zI (cnt (fun n => decide (L n = n)) n)) (zI n) := by
    intro N
    induction N with
    | zero => intro n h0 h1; omega
    | succ N ih =>
      intro n h0 h1
      refine zb_le 625 (n : Int) (fun h => ?_) (fun h => ⟨zv_in (n : Int) (by omega), ?_⟩)
      · have : n = 625 := by omega
        rw [this]; exact f
      · have an := A n (by omega) (by omega)
        have w := ih (n + 1) (by omega) (by omega)
        rw [cn_s] at w
        rw [zi_cl (by omega), an.1]
        refine zb_eq (L n) n (fun q => nm_r (zi_1 _) (nm_r (zi_1 _) ?_)) (fun q => nm_r (zi_1 _) ?_)
        · have : decide (L (n : Int) = (n : Int)) = true := by rw [decide_eq_true_eq]; exact q
          rw [this] at w; exact w
        · have : decide (L (n : Int) = (n : Int)) = false := by rw [decide_eq_false_iff_not]; exact q
          rw [this] at w; exact w
  unfold wpY_countPieces
  exact ⟨626, key 626 0 (by omega) (by omega)⟩
theorem yh_30 {post : Int32 → Prop} {J : Int32 → Int32 → Prop} {L : Int → Int} (A : LB la L) {k : Int} {n : Int} (hn : 0 ≤ n ∧ n ≤ 624)
    (hJ : ∀ b : Bool, (b = true ↔ L n = n ∧ ∀ m, 0 ≤ m → m ≤ 624 → L m = n → ¬ rim (m / 25) (m % 25)) → J (zI (k + bZ b)) (zI (n + 1))) :
    ∀ (N : Nat) (m : Int) (b : Bool), 0 ≤ m → m ≤ 625 → (625 - m).toNat < N → (b = true ↔ L n = n ∧ ∀ m', 0 ≤ m' → m' < m → L m' = n → ¬ rim (m' / 25) (m' % 25)) → wY_countHoles_30 post J (zI k) (zI n) c ly fi ma se px py la N (bI b) (zI m) := by
  intro N
  induction N with
  | zero => intro m b h0 h1; omega
  | succ N ih =>
    intro m b h0 h1 h2 hb
    have k99 : ∀ b : Bool, (b = true ↔ L n = n ∧ ∀ m, 0 ≤ m → m ≤ 624 → L m = n → ¬ rim (m / 25) (m % 25)) → wY_countHoles_99 post J (zI k) (zI n) (bI b) c ly fi ma se px py la := by
      intro b hb
      have := hJ b hb
      refine bb_0 (fun e => nm_r (zi_1 n) ?_) (fun e => nm_r (zi_1 k) (nm_r (zi_1 n) ?_))
      · rw [e] at this; simpa [bZ] using this
      · rw [e] at this; exact this
    refine zb_le 625 m (fun h => k99 b (hb.trans ⟨fun z => ⟨z.1, fun m' a1 a2 => z.2 m' a1 (by omega)⟩, fun z => ⟨z.1, fun m' a1 a2 => z.2 m' a1 (by omega)⟩⟩)) (fun h => bb_0 (fun e => ?_) (fun e => ?_))
    · refine k99 b ⟨fun z => by rw [e] at z; exact absurd z (by decide), fun z => ?_⟩
      exact hb.mpr ⟨z.1, fun m' a1 a2 => z.2 m' a1 (by omega)⟩
    · have am := A m (by omega) (by omega)
      refine ⟨by decide, nm_r (zi_d25 (by omega)) ⟨by decide, nm_r (zi_r25 (by omega)) ⟨zv_in m (by omega), ?_⟩⟩⟩
      rw [zi_cl (by omega), am.1]
      have keep : (L m = n → ¬ rim (m / 25) (m % 25)) → wY_countHoles_30 post J (zI k) (zI n) c ly fi ma se px py la N (bI b) (zI (m + 1)) := by
        intro hh
        refine ih (m + 1) b (by omega) (by omega) (by omega) (hb.trans ⟨fun z => ⟨z.1, fun m' a1 a2 => ?_⟩, fun z => ⟨z.1, fun m' a1 a2 => z.2 m' a1 (by omega)⟩⟩)
        by_cases e2 : m' = m
        · rw [e2]; exact hh
        · exact z.2 m' a1 (by omega)
      have drop : L m = n → rim (m / 25) (m % 25) → wY_countHoles_30 post J (zI k) (zI n) c ly fi ma se px py la N 0 (zI (m + 1)) := by
        intro h1 h2
        exact ih (m + 1) false (by omega) (by omega) (by omega) ⟨fun z => (nomatch z), fun z => absurd h2 (z.2 m h0 (by omega) h1)⟩
      refine zb_eq (L m) n (fun q => zb_eq (m / 25) 0 (fun q1 => nm_r (zi_1 m) (drop q (Or.inl q1))) (fun q1 => zb_eq (m / 25) 24 (fun q2 => nm_r (zi_1 m) (drop q (Or.inr (Or.inl q2)))) (fun q2 => zb_eq (m % 25) 0 (fun q3 => nm_r (zi_1 m) (drop q (Or.inr (Or.inr (Or.inl q3))))) (fun q3 => zb_eq (m % 25) 24 (fun q4 => nm_r (zi_1 m) (drop q (Or.inr (Or.inr (Or.inr q4))))) (fun q4 => nm_r (zi_1 m) (keep (fun _ => ?_))))))) (fun q => nm_r (zi_1 m) (keep (fun z => absurd z q)))
      unfold rim; omega
theorem yp_chl {post : Int32 → Prop} {L : Int → Int} (A : LB la L) (f : post (zI (cnt (hB L) 625))) : wpY_countHoles post (c, ly, fi, ma, se, px, py, la) := by
  have key : ∀ (N n : Nat), n ≤ 625 → 625 - n < N → wY_countHoles_4 post c ly fi ma se px py la N (zI (cnt (hB L) n)) (zI n) := by
    intro N
    induction N with
    | zero => intro n h0 h1; omega
    | succ N ih =>
      intro n h0 h1
      refine zb_le 625 (n : Int) (fun h => ?_) (fun h => ⟨zv_in (n : Int) (by omega), ?_⟩)
      · have : n = 625 := by omega
        rw [this]; exact f
      · have an := A n (by omega) (by omega)
        have w := ih (n + 1) (by omega) (by omega)
        rw [cn_s] at w
        rw [zi_cl (by omega), an.1]
        have go : ∀ b : Bool, (b = true ↔ L n = n) → ∃ n30, wY_countHoles_30 post (wY_countHoles_4 post c ly fi ma se px py la N) (zI (cnt (hB L) n)) (zI n) c ly fi ma se px py la n30 (bI b) 0 := by
          intro b hb
          refine ⟨626, yh_30 A (by omega) (fun b' hb' => ?_) 626 0 b (by omega) (by omega) (by omega) (hb.trans ⟨fun z => ⟨z, fun m' a1 a2 => absurd a2 (by omega)⟩, fun z => z.1⟩)⟩
          have e : hB L n = b' := be (hB_i.trans hb'.symm)
          rw [e] at w
          have e2 : ((cnt (hB L) n + bN b' : Nat) : Int) = (cnt (hB L) n : Int) + bZ b' := by cases b' <;> simp [bN, bZ]
          rw [e2] at w; exact w
        refine zb_eq (L n) n (fun q => go true ⟨fun _ => q, fun _ => rfl⟩) (fun q => go false ⟨fun z => (nomatch z), fun z => absurd z q⟩)
  unfold wpY_countHoles
  exact ⟨626, key 626 0 (by omega) (by omega)⟩
end
end
section
/-! boundary edges with the area to their left, and the edge that follows -/
theorem ga {g : Int → Int → Bool} {a b a' b' : Int} {x : Bool} (h : g a b = x) (e1 : a' = a) (e2 : b' = b) : g a' b' = x := by subst e1; subst e2; exact h
def OB (g : Int → Int → Bool) (i j d : Int) : Prop :=
  (d = 0 ∧ (i % 2 = 1 ∧ j % 2 = 0) ∧ g (i) (j + 1) = true ∧ g (i) (j - 1) = false) ∨
  (d = 1 ∧ (i % 2 = 0 ∧ j % 2 = 1) ∧ g (i - 1) (j) = true ∧ g (i + 1) (j) = false) ∨
  (d = 2 ∧ (i % 2 = 1 ∧ j % 2 = 0) ∧ g (i) (j - 1) = true ∧ g (i) (j + 1) = false) ∨
  (d = 3 ∧ (i % 2 = 0 ∧ j % 2 = 1) ∧ g (i + 1) (j) = true ∧ g (i - 1) (j) = false)
def BE (g : Int → Int → Bool) (i j : Int) : Bool := decide (Gd i j ∧ i % 2 + j % 2 = 1 ∧ cc g i j = 1)
def drX (g : Int → Int → Bool) (i j : Int) : Int := if i % 2 = 1 then (if g i (j + 1) = true then 0 else 2) else (if g (i - 1) j = true then 1 else 3)
def nD (g : Int → Int → Bool) (i j d : Int) : Int :=
  if g (i + 2 * eaD d + eaD ((d + 1) % 4)) (j + 2 * noD d + noD ((d + 1) % 4)) = false then (d + 1) % 4
  else if g (i + 2 * eaD d + eaD ((d + 3) % 4)) (j + 2 * noD d + noD ((d + 3) % 4)) = true then (d + 3) % 4 else d
def nxI (g : Int → Int → Bool) (i j d : Int) : Int := i + (eaD d + eaD (nD g i j d))
def nxJ (g : Int → Int → Bool) (i j d : Int) : Int := j + (noD d + noD (nD g i j d))
def pD (g : Int → Int → Bool) (i j d : Int) : Int :=
  if d = 0 then (if g (i - 2) (j + 1) = false then 3 else if g (i - 2) (j - 1) = true then 1 else 0)
  else if d = 1 then (if g (i - 1) (j - 2) = false then 0 else if g (i + 1) (j - 2) = true then 2 else 1)
  else if d = 2 then (if g (i + 2) (j - 1) = false then 1 else if g (i + 2) (j + 1) = true then 3 else 2)
  else (if g (i + 1) (j + 2) = false then 2 else if g (i - 1) (j + 2) = true then 0 else 3)
theorem ob_r {g : Int → Int → Bool} {i j d : Int} (h : OB g i j d) : 0 ≤ d ∧ d ≤ 3 := by
  unfold OB at h; omega
theorem ob_g {g : Int → Int → Bool} (H : Sup g) {i j d : Int} (h : OB g i j d) : Gd i j := by
  rcases h with ⟨-, o, c, -⟩ | ⟨-, o, c, -⟩ | ⟨-, o, c, -⟩ | ⟨-, o, c, -⟩ <;> (have := H _ _ c; omega)
theorem ob_be {g : Int → Int → Bool} (H : Sup g) {i j d : Int} (h : OB g i j d) : BE g i j = true ∧ drX g i j = d := by
  have gd := ob_g H h
  have key : cc g i j = 1 ∧ drX g i j = d := by
    rcases h with ⟨rfl, o, c1, c2⟩ | ⟨rfl, o, c1, c2⟩ | ⟨rfl, o, c1, c2⟩ | ⟨rfl, o, c1, c2⟩
    · unfold cc drX
      rw [if_pos o.1, if_neg (by omega), if_pos o.1, c1, c2]
      exact ⟨rfl, rfl⟩
    · unfold cc drX
      rw [if_neg (by omega), if_pos o.2, if_neg (by omega), c1, c2]
      exact ⟨rfl, rfl⟩
    · unfold cc drX
      rw [if_pos o.1, if_neg (by omega), if_pos o.1, c1, c2]
      exact ⟨rfl, rfl⟩
    · unfold cc drX
      rw [if_neg (by omega), if_pos o.2, if_neg (by omega), c1, c2]
      exact ⟨rfl, rfl⟩
  refine ⟨?_, key.2⟩
  unfold BE
  rw [decide_eq_true_eq]
  refine ⟨gd, ?_, key.1⟩
  rcases h with ⟨-, o, -⟩ | ⟨-, o, -⟩ | ⟨-, o, -⟩ | ⟨-, o, -⟩ <;> omega
theorem be_ob {g : Int → Int → Bool} {i j : Int} (h : BE g i j = true) : OB g i j (drX g i j) := by
  unfold BE at h
  rw [decide_eq_true_eq] at h
  obtain ⟨gd, hd, hc⟩ := h
  unfold cc at hc
  unfold drX OB
  by_cases o : i % 2 = 1
  · rw [if_pos o, if_neg (by omega)] at hc
    rw [if_pos o]
    cases a : g i (j + 1) <;> cases b : g i (j - 1) <;> rw [a, b] at hc
    · exact absurd hc (by decide)
    · rw [if_neg (by decide)]; exact Or.inr (Or.inr (Or.inl ⟨rfl, ⟨o, by omega⟩, rfl, rfl⟩))
    · rw [if_pos rfl]; exact Or.inl ⟨rfl, ⟨o, by omega⟩, rfl, rfl⟩
    · exact absurd hc (by decide)
  · rw [if_neg o, if_pos (by omega)] at hc
    rw [if_neg o]
    cases a : g (i - 1) j <;> cases b : g (i + 1) j <;> rw [a, b] at hc
    · exact absurd hc (by decide)
    · rw [if_neg (by decide)]; exact Or.inr (Or.inr (Or.inr ⟨rfl, ⟨by omega, by omega⟩, rfl, rfl⟩))
    · rw [if_pos rfl]; exact Or.inr (Or.inl ⟨rfl, ⟨by omega, by omega⟩, rfl, rfl⟩)
    · exact absurd hc (by decide)
theorem nx_c {g : Int → Int → Bool} {i j d : Int} (h : OB g i j d) : OB g (nxI g i j d) (nxJ g i j d) (nD g i j d) ∧ pD g (nxI g i j d) (nxJ g i j d) (nD g i j d) = d := by
  unfold nxI nxJ
  rcases h with ⟨rfl, o, c1, c2⟩ | ⟨rfl, o, c1, c2⟩ | ⟨rfl, o, c1, c2⟩ | ⟨rfl, o, c1, c2⟩
  · cases hA : g (i + 2) (j + 1)
    · have e : nD g i j 0 = 1 := by unfold nD; rw [if_pos (ga hA (by show i + 2 * 1 + 0 = i + 2; omega) (by show j + 2 * 0 + 1 = j + 1; omega))]; rfl
      have e1 : i + (eaD 0 + eaD 1) = i + 1 := by show i + (1 + 0) = i + 1; omega
      have e2 : j + (noD 0 + noD 1) = j + 1 := by show j + (0 + 1) = j + 1; omega
      rw [e, e1, e2]
      refine ⟨Or.inr (Or.inl ⟨rfl, ⟨by omega, by omega⟩, (ga c1 (by omega) (by omega)), (ga hA (by omega) (by omega))⟩), ?_⟩
      unfold pD
      rw [if_neg (by decide)]
      rw [if_pos rfl]
      rw [if_pos (ga c2 (by omega) (by omega))]
    · cases hB : g (i + 2) (j - 1)
      · have e : nD g i j 0 = 0 := by unfold nD; rw [if_neg (fun z => absurd ((ga hA (by show i + 2 * 1 + 0 = i + 2; omega) (by show j + 2 * 0 + 1 = j + 1; omega)).symm.trans z) (by decide)), if_neg (fun z => absurd ((ga hB (by show i + 2 * 1 + 0 = i + 2; omega) (by show j + 2 * 0 + -1 = j - 1; omega)).symm.trans z) (by decide))]
        have e1 : i + (eaD 0 + eaD 0) = i + 2 := by show i + (1 + 1) = i + 2; omega
        have e2 : j + (noD 0 + noD 0) = j := by show j + (0 + 0) = j; omega
        rw [e, e1, e2]
        refine ⟨Or.inl ⟨rfl, ⟨by omega, by omega⟩, (ga hA (by omega) (by omega)), (ga hB (by omega) (by omega))⟩, ?_⟩
        unfold pD
        rw [if_pos rfl]
        rw [if_neg (fun z => absurd ((ga c1 (by omega) (by omega)).symm.trans z) (by decide))]
        rw [if_neg (fun z => absurd ((ga c2 (by omega) (by omega)).symm.trans z) (by decide))]
      · have e : nD g i j 0 = 3 := by unfold nD; rw [if_neg (fun z => absurd ((ga hA (by show i + 2 * 1 + 0 = i + 2; omega) (by show j + 2 * 0 + 1 = j + 1; omega)).symm.trans z) (by decide)), if_pos (ga hB (by show i + 2 * 1 + 0 = i + 2; omega) (by show j + 2 * 0 + -1 = j - 1; omega))]; rfl
        have e1 : i + (eaD 0 + eaD 3) = i + 1 := by show i + (1 + 0) = i + 1; omega
        have e2 : j + (noD 0 + noD 3) = j - 1 := by show j + (0 + -1) = j - 1; omega
        rw [e, e1, e2]
        refine ⟨Or.inr (Or.inr (Or.inr ⟨rfl, ⟨by omega, by omega⟩, (ga hB (by omega) (by omega)), (ga c2 (by omega) (by omega))⟩)), ?_⟩
        unfold pD
        rw [if_neg (by decide)]
        rw [if_neg (by decide)]
        rw [if_neg (by decide)]
        rw [if_neg (fun z => absurd ((ga hA (by omega) (by omega)).symm.trans z) (by decide))]
        rw [if_pos (ga c1 (by omega) (by omega))]
  · cases hA : g (i - 1) (j + 2)
    · have e : nD g i j 1 = 2 := by unfold nD; rw [if_pos (ga hA (by show i + 2 * 0 + -1 = i - 1; omega) (by show j + 2 * 1 + 0 = j + 2; omega))]; rfl
      have e1 : i + (eaD 1 + eaD 2) = i - 1 := by show i + (0 + -1) = i - 1; omega
      have e2 : j + (noD 1 + noD 2) = j + 1 := by show j + (1 + 0) = j + 1; omega
      rw [e, e1, e2]
      refine ⟨Or.inr (Or.inr (Or.inl ⟨rfl, ⟨by omega, by omega⟩, (ga c1 (by omega) (by omega)), (ga hA (by omega) (by omega))⟩)), ?_⟩
      unfold pD
      rw [if_neg (by decide)]
      rw [if_neg (by decide)]
      rw [if_pos rfl]
      rw [if_pos (ga c2 (by omega) (by omega))]
    · cases hB : g (i + 1) (j + 2)
      · have e : nD g i j 1 = 1 := by unfold nD; rw [if_neg (fun z => absurd ((ga hA (by show i + 2 * 0 + -1 = i - 1; omega) (by show j + 2 * 1 + 0 = j + 2; omega)).symm.trans z) (by decide)), if_neg (fun z => absurd ((ga hB (by show i + 2 * 0 + 1 = i + 1; omega) (by show j + 2 * 1 + 0 = j + 2; omega)).symm.trans z) (by decide))]
        have e1 : i + (eaD 1 + eaD 1) = i := by show i + (0 + 0) = i; omega
        have e2 : j + (noD 1 + noD 1) = j + 2 := by show j + (1 + 1) = j + 2; omega
        rw [e, e1, e2]
        refine ⟨Or.inr (Or.inl ⟨rfl, ⟨by omega, by omega⟩, (ga hA (by omega) (by omega)), (ga hB (by omega) (by omega))⟩), ?_⟩
        unfold pD
        rw [if_neg (by decide)]
        rw [if_pos rfl]
        rw [if_neg (fun z => absurd ((ga c1 (by omega) (by omega)).symm.trans z) (by decide))]
        rw [if_neg (fun z => absurd ((ga c2 (by omega) (by omega)).symm.trans z) (by decide))]
      · have e : nD g i j 1 = 0 := by unfold nD; rw [if_neg (fun z => absurd ((ga hA (by show i + 2 * 0 + -1 = i - 1; omega) (by show j + 2 * 1 + 0 = j + 2; omega)).symm.trans z) (by decide)), if_pos (ga hB (by show i + 2 * 0 + 1 = i + 1; omega) (by show j + 2 * 1 + 0 = j + 2; omega))]; rfl
        have e1 : i + (eaD 1 + eaD 0) = i + 1 := by show i + (0 + 1) = i + 1; omega
        have e2 : j + (noD 1 + noD 0) = j + 1 := by show j + (1 + 0) = j + 1; omega
        rw [e, e1, e2]
        refine ⟨Or.inl ⟨rfl, ⟨by omega, by omega⟩, (ga hB (by omega) (by omega)), (ga c2 (by omega) (by omega))⟩, ?_⟩
        unfold pD
        rw [if_pos rfl]
        rw [if_neg (fun z => absurd ((ga hA (by omega) (by omega)).symm.trans z) (by decide))]
        rw [if_pos (ga c1 (by omega) (by omega))]
  · cases hA : g (i - 2) (j - 1)
    · have e : nD g i j 2 = 3 := by unfold nD; rw [if_pos (ga hA (by show i + 2 * -1 + 0 = i - 2; omega) (by show j + 2 * 0 + -1 = j - 1; omega))]; rfl
      have e1 : i + (eaD 2 + eaD 3) = i - 1 := by show i + (-1 + 0) = i - 1; omega
      have e2 : j + (noD 2 + noD 3) = j - 1 := by show j + (0 + -1) = j - 1; omega
      rw [e, e1, e2]
      refine ⟨Or.inr (Or.inr (Or.inr ⟨rfl, ⟨by omega, by omega⟩, (ga c1 (by omega) (by omega)), (ga hA (by omega) (by omega))⟩)), ?_⟩
      unfold pD
      rw [if_neg (by decide)]
      rw [if_neg (by decide)]
      rw [if_neg (by decide)]
      rw [if_pos (ga c2 (by omega) (by omega))]
    · cases hB : g (i - 2) (j + 1)
      · have e : nD g i j 2 = 2 := by unfold nD; rw [if_neg (fun z => absurd ((ga hA (by show i + 2 * -1 + 0 = i - 2; omega) (by show j + 2 * 0 + -1 = j - 1; omega)).symm.trans z) (by decide)), if_neg (fun z => absurd ((ga hB (by show i + 2 * -1 + 0 = i - 2; omega) (by show j + 2 * 0 + 1 = j + 1; omega)).symm.trans z) (by decide))]
        have e1 : i + (eaD 2 + eaD 2) = i - 2 := by show i + (-1 + -1) = i - 2; omega
        have e2 : j + (noD 2 + noD 2) = j := by show j + (0 + 0) = j; omega
        rw [e, e1, e2]
        refine ⟨Or.inr (Or.inr (Or.inl ⟨rfl, ⟨by omega, by omega⟩, (ga hA (by omega) (by omega)), (ga hB (by omega) (by omega))⟩)), ?_⟩
        unfold pD
        rw [if_neg (by decide)]
        rw [if_neg (by decide)]
        rw [if_pos rfl]
        rw [if_neg (fun z => absurd ((ga c1 (by omega) (by omega)).symm.trans z) (by decide))]
        rw [if_neg (fun z => absurd ((ga c2 (by omega) (by omega)).symm.trans z) (by decide))]
      · have e : nD g i j 2 = 1 := by unfold nD; rw [if_neg (fun z => absurd ((ga hA (by show i + 2 * -1 + 0 = i - 2; omega) (by show j + 2 * 0 + -1 = j - 1; omega)).symm.trans z) (by decide)), if_pos (ga hB (by show i + 2 * -1 + 0 = i - 2; omega) (by show j + 2 * 0 + 1 = j + 1; omega))]; rfl
        have e1 : i + (eaD 2 + eaD 1) = i - 1 := by show i + (-1 + 0) = i - 1; omega
        have e2 : j + (noD 2 + noD 1) = j + 1 := by show j + (0 + 1) = j + 1; omega
        rw [e, e1, e2]
        refine ⟨Or.inr (Or.inl ⟨rfl, ⟨by omega, by omega⟩, (ga hB (by omega) (by omega)), (ga c2 (by omega) (by omega))⟩), ?_⟩
        unfold pD
        rw [if_neg (by decide)]
        rw [if_pos rfl]
        rw [if_neg (fun z => absurd ((ga hA (by omega) (by omega)).symm.trans z) (by decide))]
        rw [if_pos (ga c1 (by omega) (by omega))]
  · cases hA : g (i + 1) (j - 2)
    · have e : nD g i j 3 = 0 := by unfold nD; rw [if_pos (ga hA (by show i + 2 * 0 + 1 = i + 1; omega) (by show j + 2 * -1 + 0 = j - 2; omega))]; rfl
      have e1 : i + (eaD 3 + eaD 0) = i + 1 := by show i + (0 + 1) = i + 1; omega
      have e2 : j + (noD 3 + noD 0) = j - 1 := by show j + (-1 + 0) = j - 1; omega
      rw [e, e1, e2]
      refine ⟨Or.inl ⟨rfl, ⟨by omega, by omega⟩, (ga c1 (by omega) (by omega)), (ga hA (by omega) (by omega))⟩, ?_⟩
      unfold pD
      rw [if_pos rfl]
      rw [if_pos (ga c2 (by omega) (by omega))]
    · cases hB : g (i - 1) (j - 2)
      · have e : nD g i j 3 = 3 := by unfold nD; rw [if_neg (fun z => absurd ((ga hA (by show i + 2 * 0 + 1 = i + 1; omega) (by show j + 2 * -1 + 0 = j - 2; omega)).symm.trans z) (by decide)), if_neg (fun z => absurd ((ga hB (by show i + 2 * 0 + -1 = i - 1; omega) (by show j + 2 * -1 + 0 = j - 2; omega)).symm.trans z) (by decide))]
        have e1 : i + (eaD 3 + eaD 3) = i := by show i + (0 + 0) = i; omega
        have e2 : j + (noD 3 + noD 3) = j - 2 := by show j + (-1 + -1) = j - 2; omega
        rw [e, e1, e2]
        refine ⟨Or.inr (Or.inr (Or.inr ⟨rfl, ⟨by omega, by omega⟩, (ga hA (by omega) (by omega)), (ga hB (by omega) (by omega))⟩)), ?_⟩
        unfold pD
        rw [if_neg (by decide)]
        rw [if_neg (by decide)]
        rw [if_neg (by decide)]
        rw [if_neg (fun z => absurd ((ga c1 (by omega) (by omega)).symm.trans z) (by decide))]
        rw [if_neg (fun z => absurd ((ga c2 (by omega) (by omega)).symm.trans z) (by decide))]
      · have e : nD g i j 3 = 2 := by unfold nD; rw [if_neg (fun z => absurd ((ga hA (by show i + 2 * 0 + 1 = i + 1; omega) (by show j + 2 * -1 + 0 = j - 2; omega)).symm.trans z) (by decide)), if_pos (ga hB (by show i + 2 * 0 + -1 = i - 1; omega) (by show j + 2 * -1 + 0 = j - 2; omega))]; rfl
        have e1 : i + (eaD 3 + eaD 2) = i - 1 := by show i + (0 + -1) = i - 1; omega
        have e2 : j + (noD 3 + noD 2) = j - 1 := by show j + (-1 + 0) = j - 1; omega
        rw [e, e1, e2]
        refine ⟨Or.inr (Or.inr (Or.inl ⟨rfl, ⟨by omega, by omega⟩, (ga hB (by omega) (by omega)), (ga c2 (by omega) (by omega))⟩)), ?_⟩
        unfold pD
        rw [if_neg (by decide)]
        rw [if_neg (by decide)]
        rw [if_pos rfl]
        rw [if_neg (fun z => absurd ((ga hA (by omega) (by omega)).symm.trans z) (by decide))]
        rw [if_pos (ga c1 (by omega) (by omega))]
end
section
/-! the edge that follows, as a map of indices; rings as a numbering -/
def Bn (g : Int → Int → Bool) (n : Int) : Prop := (0 ≤ n ∧ n ≤ 624) ∧ BE g (n / 25) (n % 25) = true
def dN (g : Int → Int → Bool) (n : Int) : Int := drX g (n / 25) (n % 25)
def eN (g : Int → Int → Bool) (n : Int) : Int := nD g (n / 25) (n % 25) (dN g n)
def fN (g : Int → Int → Bool) (n : Int) : Int := 25 * nxI g (n / 25) (n % 25) (dN g n) + nxJ g (n / 25) (n % 25) (dN g n)
theorem bn_o {g : Int → Int → Bool} {n : Int} (h : Bn g n) : OB g (n / 25) (n % 25) (dN g n) := be_ob h.2
theorem ob_n {g : Int → Int → Bool} (H : Sup g) {i j d : Int} (h : OB g i j d) : Bn g (25 * i + j) ∧ (25 * i + j) / 25 = i ∧ (25 * i + j) % 25 = j ∧ dN g (25 * i + j) = d := by
  have gd := ob_g H h
  have e1 : (25 * i + j) / 25 = i := by omega
  have e2 : (25 * i + j) % 25 = j := by omega
  have := ob_be H h
  refine ⟨⟨by omega, by rw [e1, e2]; exact this.1⟩, e1, e2, ?_⟩
  unfold dN; rw [e1, e2]; exact this.2
theorem fn_b {g : Int → Int → Bool} (H : Sup g) {n : Int} (h : Bn g n) : Bn g (fN g n) ∧ fN g n / 25 = nxI g (n / 25) (n % 25) (dN g n) ∧ fN g n % 25 = nxJ g (n / 25) (n % 25) (dN g n) ∧ dN g (fN g n) = eN g n :=
  ob_n H (nx_c (bn_o h)).1
theorem fn_i {g : Int → Int → Bool} (H : Sup g) {n m : Int} (hn : Bn g n) (hm : Bn g m) (e : fN g n = fN g m) : n = m := by
  obtain ⟨-, a1, a2, a3⟩ := fn_b H hn
  obtain ⟨-, b1, b2, b3⟩ := fn_b H hm
  have p1 := (nx_c (bn_o hn)).2
  have p2 := (nx_c (bn_o hm)).2
  rw [e] at a1 a2 a3
  have ee : eN g n = eN g m := by rw [← a3, b3]
  have x1 : nxI g (n / 25) (n % 25) (dN g n) = nxI g (m / 25) (m % 25) (dN g m) := by rw [← a1, b1]
  have x2 : nxJ g (n / 25) (n % 25) (dN g n) = nxJ g (m / 25) (m % 25) (dN g m) := by rw [← a2, b2]
  have x3 : nD g (n / 25) (n % 25) (dN g n) = nD g (m / 25) (m % 25) (dN g m) := ee
  rw [x1, x2, x3, p2] at p1
  unfold nxI at x1
  unfold nxJ at x2
  rw [x3, ← p1] at x1
  rw [x3, ← p1] at x2
  have := hn.1
  have := hm.1
  omega
def itf (g : Int → Int → Bool) : Nat → Int → Int
  | 0, n => n
  | q + 1, n => fN g (itf g q n)
theorem it_b {g : Int → Int → Bool} (H : Sup g) {n : Int} (h : Bn g n) : ∀ q, Bn g (itf g q n)
  | 0 => h
  | q + 1 => (fn_b H (it_b H h q)).1
theorem it_a {g : Int → Int → Bool} (n : Int) (q : Nat) : ∀ p, itf g (p + q) n = itf g p (itf g q n)
  | 0 => by rw [Nat.zero_add]; rfl
  | p + 1 => by
    have e : p + 1 + q = (p + q) + 1 := by omega
    rw [e]
    show fN g (itf g (p + q) n) = fN g (itf g p (itf g q n))
    rw [it_a n q p]
theorem it_i {g : Int → Int → Bool} (H : Sup g) {n m : Int} (hn : Bn g n) (hm : Bn g m) : ∀ q, itf g q n = itf g q m → n = m
  | 0, e => e
  | q + 1, e => it_i H hn hm q (fn_i H (it_b H hn q) (it_b H hm q) e)
theorem it_m {g : Int → Int → Bool} {n : Int} {p : Nat} (hp : 1 ≤ p) (e : itf g p n = n) : ∀ N q, q < N → ∃ r, r < p ∧ itf g q n = itf g r n := by
  intro N
  induction N with
  | zero => intro q h; omega
  | succ N ih =>
    intro q h
    by_cases hq : q < p
    · exact ⟨q, hq, rfl⟩
    · obtain ⟨r, hr, er⟩ := ih (q - p) (by omega)
      refine ⟨r, hr, ?_⟩
      have e1 : q = (q - p) + p := by omega
      rw [e1, it_a, e]; exact er
def RG (g : Int → Int → Bool) (R : Int → Prop) (t : Nat) (cm : Int → Int) (len : Nat → Nat) : Prop :=
  (∀ n, R n → Bn g n ∧ 0 ≤ cm n ∧ cm n < t) ∧ (∀ n, R n → R (fN g n) ∧ cm (fN g n) = cm n) ∧ (∀ n, Bn g n → R (fN g n) → R n) ∧
  (∀ n m, R n → R m → cm n = cm m → ∃ q, itf g q n = m) ∧ (∀ κ : Nat, κ < t → ∃ n, R n ∧ cm n = κ) ∧
  (∀ n, R n → 1 ≤ len (cm n).toNat ∧ itf g (len (cm n).toNat) n = n ∧ ∀ q, 0 < q → q < len (cm n).toNat → itf g q n ≠ n)
theorem rg_0 {g : Int → Int → Bool} : RG g (fun _ => False) 0 (fun _ => 0) (fun _ => 0) :=
  ⟨fun _ h => h.elim, fun _ h => h.elim, fun _ _ h => h, fun _ _ h => h.elim, fun κ h => absurd h (by omega), fun _ h => h.elim⟩
theorem rg_p {g : Int → Int → Bool} (H : Sup g) {R : Int → Prop} {t : Nat} {cm : Int → Int} {len : Nat → Nat} (P : RG g R t cm len) {e : Int} (he : Bn g e) : ∀ s, R (itf g s e) → R e
  | 0, h => h
  | s + 1, h => rg_p H P he s (P.2.2.1 _ (it_b H he s) h)
def InR (g : Int → Int → Bool) (q : Nat) (e n : Int) : Prop := ∃ s, s < q ∧ itf g s e = n
noncomputable def cmR (g : Int → Int → Bool) (q : Nat) (e : Int) (t : Nat) (cm : Int → Int) : Int → Int := fun n => @ite Int (InR g q e n) (Classical.propDecidable _) (t : Int) (cm n)
theorem cr_1 {g : Int → Int → Bool} {q : Nat} {e : Int} {t : Nat} {cm : Int → Int} {n : Int} (h : InR g q e n) : cmR g q e t cm n = t := by unfold cmR; rw [if_pos h]
theorem cr_0 {g : Int → Int → Bool} {q : Nat} {e : Int} {t : Nat} {cm : Int → Int} {n : Int} (h : ¬ InR g q e n) : cmR g q e t cm n = cm n := by unfold cmR; rw [if_neg h]
theorem rg_add {g : Int → Int → Bool} (H : Sup g) {R : Int → Prop} {t : Nat} {cm : Int → Int} {len : Nat → Nat} (P : RG g R t cm len) {e : Int} (he : Bn g e) (hR : ¬ R e) {q : Nat} (hq : 1 ≤ q) (ec : itf g q e = e) (en : ∀ s, 0 < s → s < q → itf g s e ≠ e) :
    RG g (fun n => R n ∨ InR g q e n) (t + 1) (cmR g q e t cm) (fun κ => if κ = t then q else len κ) := by
  have nR : ∀ n, InR g q e n → ¬ R n := by
    rintro n ⟨s, hs, rfl⟩ hr
    exact hR (rg_p H P he s hr)
  have nI : ∀ n, R n → ¬ InR g q e n := fun n h h' => nR n h' h
  have iB : ∀ n, InR g q e n → Bn g n := by
    rintro n ⟨s, hs, rfl⟩; exact it_b H he s
  have iF : ∀ n, InR g q e n → InR g q e (fN g n) := by
    rintro n ⟨s, hs, rfl⟩
    by_cases e1 : s + 1 < q
    · exact ⟨s + 1, e1, rfl⟩
    · have e2 : s + 1 = q := by omega
      refine ⟨0, by omega, ?_⟩
      show e = fN g (itf g s e)
      have : fN g (itf g s e) = itf g (s + 1) e := rfl
      rw [this, e2, ec]
  obtain ⟨p1, p2, p3, p4, p5, p6⟩ := P
  have lo : ∀ n, R n → len (cm n).toNat = (if (cm n).toNat = t then q else len (cm n).toNat) := by
    intro n h
    have := p1 n h
    rw [if_neg (by omega)]
  refine ⟨fun n h => ?_, fun n h => ?_, fun n hb h => ?_, fun n m hn hm ecm => ?_, fun κ hκ => ?_, fun n h => ?_⟩
  · rcases h with h | h
    · rw [cr_0 (nI n h)]; have := p1 n h; exact ⟨this.1, by omega⟩
    · rw [cr_1 h]; exact ⟨iB n h, by omega⟩
  · rcases h with h | h
    · obtain ⟨a1, a2⟩ := p2 n h
      rw [cr_0 (nI n h), cr_0 (nI _ a1)]; exact ⟨Or.inl a1, a2⟩
    · rw [cr_1 h, cr_1 (iF n h)]; exact ⟨Or.inr (iF n h), rfl⟩
  · rcases h with h | ⟨s, hs, h⟩
    · exact Or.inl (p3 n hb h)
    · right
      by_cases e0 : s = 0
      · subst e0
        refine ⟨q - 1, by omega, ?_⟩
        refine fn_i H (it_b H he _) hb ?_
        have : fN g (itf g (q - 1) e) = itf g (q - 1 + 1) e := rfl
        rw [this, ← h]
        have e2 : q - 1 + 1 = q := by omega
        rw [e2, ec]; rfl
      · refine ⟨s - 1, by omega, ?_⟩
        refine fn_i H (it_b H he _) hb ?_
        have : fN g (itf g (s - 1) e) = itf g (s - 1 + 1) e := rfl
        rw [this, ← h]
        have e2 : s - 1 + 1 = s := by omega
        rw [e2]
  · rcases hn with hn | hn <;> rcases hm with hm | hm
    · rw [cr_0 (nI n hn), cr_0 (nI m hm)] at ecm; exact p4 n m hn hm ecm
    · rw [cr_0 (nI n hn), cr_1 hm] at ecm; have := p1 n hn; omega
    · rw [cr_1 hn, cr_0 (nI m hm)] at ecm; have := p1 m hm; omega
    · obtain ⟨s, hs, rfl⟩ := hn
      obtain ⟨s', hs', rfl⟩ := hm
      refine ⟨(q - s) + s', ?_⟩
      rw [← it_a]
      have e2 : (q - s) + s' + s = s' + q := by omega
      rw [e2, it_a, ec]
  · by_cases e0 : κ = t
    · have : InR g q e e := ⟨0, by omega, rfl⟩
      exact ⟨e, Or.inr this, by rw [cr_1 this, e0]⟩
    · obtain ⟨n, h1, h2⟩ := p5 κ (by omega)
      exact ⟨n, Or.inl h1, by rw [cr_0 (nI n h1)]; exact h2⟩
  · rcases h with h | h
    · rw [cr_0 (nI n h)]
      show 1 ≤ (if (cm n).toNat = t then q else len (cm n).toNat) ∧ itf g (if (cm n).toNat = t then q else len (cm n).toNat) n = n ∧ ∀ r, 0 < r → r < (if (cm n).toNat = t then q else len (cm n).toNat) → itf g r n ≠ n
      rw [← lo n h]; exact p6 n h
    · have ht : ((t : Int)).toNat = t := Int.toNat_natCast t
      rw [cr_1 h, ht]
      show 1 ≤ (if t = t then q else len t) ∧ itf g (if t = t then q else len t) n = n ∧ ∀ r, 0 < r → r < (if t = t then q else len t) → itf g r n ≠ n
      rw [if_pos rfl]
      obtain ⟨s, hs, rfl⟩ := h
      refine ⟨hq, ?_, fun r r0 r1 er => ?_⟩
      · rw [← it_a]
        have e2 : q + s = s + q := by omega
        rw [e2, it_a, ec]
      · rw [← it_a] at er
        have e2 : r + s = s + r := by omega
        rw [e2, it_a] at er
        exact en r r0 r1 (it_i H (it_b H he r) he s er)
def RGF (g : Int → Int → Bool) (t : Nat) (cm : Int → Int) (len : Nat → Nat) : Prop := RG g (Bn g) t cm len
theorem rg_fin {g : Int → Int → Bool} {R : Int → Prop} {t : Nat} {cm : Int → Int} {len : Nat → Nat} (P : RG g R t cm len) (h : ∀ n, Bn g n → R n) : RGF g t cm len := by
  have e : R = Bn g := by
    funext n
    exact propext ⟨fun r => (P.1 n r).1, h n⟩
  rw [e] at P; exact P
/-- every ring has a level edge -/
theorem rg_lv {g : Int → Int → Bool} (H : Sup g) {R : Int → Prop} {t : Nat} {cm : Int → Int} {len : Nat → Nat} (P : RG g R t cm len) (h : ∀ n, Bn g n → n % 25 % 2 = 0 → R n) : ∀ n, Bn g n → R n := by
  have up : ∀ (N : Nat) n, Bn g n → dN g n = 1 → (24 - n % 25).toNat < N → R n := by
    intro N
    induction N with
    | zero => intro n _ _ hh; omega
    | succ N ih =>
      intro n hb hd hh
      refine P.2.2.1 n hb ?_
      obtain ⟨b, f1, f2, f3⟩ := fn_b H hb
      by_cases l : fN g n % 25 % 2 = 0
      · exact h _ b l
      · have o1 := bn_o hb
        have o2 := bn_o b
        have hlt : (24 - fN g n % 25).toNat < N := by
          have e : nxJ g (n / 25) (n % 25) (dN g n) = n % 25 + (noD (dN g n) + noD (eN g n)) := rfl
          rw [e, hd] at f2
          rw [f3] at o2
          have g2 := ob_g H o2
          rw [hd] at o1
          have q1 : noD 1 = 1 := rfl
          unfold OB at o1 o2
          have r := no_r (eN g n)
          rw [q1] at f2
          by_cases z : eN g n = 1
          · rw [z, q1] at f2; omega
          · by_cases z3 : eN g n = 3
            · exfalso
              have u : eN g n = nD g (n / 25) (n % 25) (dN g n) := rfl
              rw [hd] at u
              unfold nD at u
              rw [z3] at u
              split at u
              · exact absurd u (by decide)
              · split at u
                · exact absurd u (by decide)
                · exact absurd u (by decide)
            · omega
        by_cases z : dN g (fN g n) = 1
        · exact ih _ b z hlt
        · exfalso
          rw [f3] at z
          have u : eN g n = nD g (n / 25) (n % 25) (dN g n) := rfl
          rw [hd] at u
          rw [f3] at o2
          unfold OB at o2
          have z0 : eN g n = 3 := by omega
          unfold nD at u
          rw [z0] at u
          split at u
          · exact absurd u (by decide)
          · split at u
            · exact absurd u (by decide)
            · exact absurd u (by decide)
  have dn : ∀ (N : Nat) n, Bn g n → dN g n = 3 → (n % 25).toNat < N → R n := by
    intro N
    induction N with
    | zero => intro n _ _ hh; omega
    | succ N ih =>
      intro n hb hd hh
      refine P.2.2.1 n hb ?_
      obtain ⟨b, f1, f2, f3⟩ := fn_b H hb
      by_cases l : fN g n % 25 % 2 = 0
      · exact h _ b l
      · have o1 := bn_o hb
        have o2 := bn_o b
        have u : eN g n = nD g (n / 25) (n % 25) (dN g n) := rfl
        rw [hd] at u
        have z0 : eN g n = 3 := by
          rw [f3] at o2
          unfold OB at o2
          by_cases z1 : eN g n = 1
          · exfalso
            unfold nD at u
            rw [z1] at u
            split at u
            · exact absurd u (by decide)
            · split at u
              · exact absurd u (by decide)
              · exact absurd u (by decide)
          · omega
        refine ih _ b (by rw [f3]; exact z0) ?_
        have e : nxJ g (n / 25) (n % 25) (dN g n) = n % 25 + (noD (dN g n) + noD (eN g n)) := rfl
        have q1 : noD 3 = -1 := rfl
        rw [e, hd, z0, q1] at f2
        have := b.1
        have := hb.1
        omega
  intro n hb
  by_cases l : n % 25 % 2 = 0
  · exact h n hb l
  · have o := bn_o hb
    unfold OB at o
    have : dN g n = 1 ∨ dN g n = 3 := by omega
    rcases this with e | e
    · exact up _ n hb e (Nat.lt_succ_self _)
    · exact dn _ n hb e (Nat.lt_succ_self _)
end
section
/-! X walks the rings -/
noncomputable def cR (g : Int → Int → Bool) (R : Int → Prop) : Nat := cnt (fun n => @decide (R n ∧ eN g n ≠ dN g n) (Classical.propDecidable _)) 625
theorem cr_add {g : Int → Int → Bool} {R R' : Int → Prop} {x : Int} (hx : 0 ≤ x ∧ x ≤ 624) (hR : ¬ R x) (h : ∀ n, R' n ↔ R n ∨ n = x) : (cR g R' : Int) = cR g R + (if eN g x = dN g x then 0 else 1) := by
  have ex : ((x.toNat : Nat) : Int) = x := by omega
  unfold cR
  by_cases e : eN g x = dN g x
  · rw [if_pos e, Int.add_zero]
    congr 1
    refine cn_eq (fun k hk => ?_)
    refine be ?_
    rw [@decide_eq_true_iff _ (Classical.propDecidable _), @decide_eq_true_iff _ (Classical.propDecidable _), h]
    constructor
    · rintro ⟨h1 | h1, h2⟩
      · exact ⟨h1, h2⟩
      · rw [h1] at h2; exact absurd e h2
    · rintro ⟨h1, h2⟩; exact ⟨Or.inl h1, h2⟩
  · rw [if_neg e]
    have := cn_add (P := fun n : Nat => @decide (R n ∧ eN g n ≠ dN g n) (Classical.propDecidable _)) (Q := fun n : Nat => @decide (R' n ∧ eN g n ≠ dN g n) (Classical.propDecidable _)) (a := x.toNat) (N := 625) (by
      show @decide (R (x.toNat : Int) ∧ eN g (x.toNat : Int) ≠ dN g (x.toNat : Int)) (Classical.propDecidable _) = false
      rw [@decide_eq_false_iff_not _ (Classical.propDecidable _), ex]
      exact fun z => hR z.1) (by
      show @decide (R' (x.toNat : Int) ∧ eN g (x.toNat : Int) ≠ dN g (x.toNat : Int)) (Classical.propDecidable _) = true
      rw [@decide_eq_true_iff _ (Classical.propDecidable _), ex]
      exact ⟨(h x).mpr (Or.inr rfl), e⟩) (fun k hk hne => be (by
      show @decide (R (k : Int) ∧ eN g (k : Int) ≠ dN g (k : Int)) (Classical.propDecidable _) = true ↔ @decide (R' (k : Int) ∧ eN g (k : Int) ≠ dN g (k : Int)) (Classical.propDecidable _) = true
      rw [@decide_eq_true_iff _ (Classical.propDecidable _), @decide_eq_true_iff _ (Classical.propDecidable _), h]
      exact ⟨fun z => ⟨Or.inl z.1, z.2⟩, fun z => ⟨z.1.elim id (fun q => absurd q (by omega)), z.2⟩⟩)) (by omega)
    rw [this]; omega
theorem be_s {g : Int → Int → Bool} : Sup (BE g) := by
  intro i j h
  unfold BE at h
  rw [decide_eq_true_eq] at h
  exact h.1
section
variable {c rc gc lr : Int32} {cx cy re st dg : Nat → Int32} {S : Int → Int → Int → Bool}
theorem ba_i {rk : Int32} {post : SX → Prop} {J : Int32 → Int32 → Int32 → Int32 → Int32 → Int32 → (Nat → Int32) → (Nat → Int32) → (Nat → Int32) → (Nat → Int32) → (Nat → Int32) → (Nat → Int32) → Prop} {l j : Int} (hl : 0 ≤ l ∧ l ≤ 5) (hj : 0 ≤ j ∧ j ≤ 24)
    (hJ : ∀ a', XP a' (swp S 6 (BE (S l)) 0 (j + 1)) → J (zI (j + 1)) c rc gc lr rk a' cx cy re st dg) :
    ∀ (N : Nat) (i : Int) (a : Nat → Int32), 0 ≤ i → i ≤ 25 → (25 - i).toNat < N → XP a (swp S 6 (BE (S l)) i j) → wX_setBoundaryEdgesAside_10 post J (zI l) (zI j) N (zI i) c rc gc lr rk a cx cy re st dg := by
  intro N
  induction N with
  | zero => intro i a h0 h1; omega
  | succ N ih =>
    intro i a h0 h1 h2 P
    refine zb_le 25 i (fun h => ?_) (fun h => ?_)
    · have e : i = 25 := by omega
      subst e; exact nm_r (zi_1 j) (hJ a (px_c P sw_r))
    · have w41 : ∀ b : Bool, b = BE (S l) i j → wX_setBoundaryEdgesAside_41 post J (wX_setBoundaryEdgesAside_10 post J (zI l) (zI j) N) (zI l) (zI j) (zI i) (bI b) c rc gc lr rk a cx cy re st dg := by
        intro b eb
        unfold wX_setBoundaryEdgesAside_41
        refine xp_write P 6 i j b (by omega) (by omega) (fun a' P' => nm_r (zi_1 i) (ih (i + 1) a' (by omega) (by omega) (by omega) ?_))
        rw [eb] at P'
        exact px_c P' (sw_w (by omega))
      have cr := cc_r (S l) i j
      refine xp_dim i j (by omega) (by omega) (zb_eq (i % 2 + j % 2) 1 (fun q => xp_cells P l i j (by omega) (by omega) ?_) (fun q => w41 false ?_))
      · rw [sw_o (by omega)]
        refine zb_eq (cc (S l) i j) 1 (fun q2 => w41 true ?_) (fun q2 => w41 false ?_)
        · unfold BE; symm; rw [decide_eq_true_eq]; exact ⟨by omega, q, q2⟩
        · unfold BE; symm; rw [decide_eq_false_iff_not]; exact fun z => q2 z.2.2
      · unfold BE; symm; rw [decide_eq_false_iff_not]; exact fun z => q z.2.1
theorem xp_ba {rk : Int32} {post : SX → Prop} {a : Nat → Int32} (P : XP a S) {l : Int} (hl : 0 ≤ l ∧ l ≤ 5)
    (f : ∀ a', XP a' (setl S 6 (BE (S l))) → post (c, rc, gc, lr, rk, a', cx, cy, re, st, dg)) : wpX_setBoundaryEdgesAside post (c, rc, gc, lr, rk, a, cx, cy, re, st, dg) (zI l) := by
  have key : ∀ (N : Nat) (j : Int) (a : Nat → Int32), 0 ≤ j → j ≤ 25 → (25 - j).toNat < N → XP a (swp S 6 (BE (S l)) 0 j) → wX_setBoundaryEdgesAside_2 post (zI l) N (zI j) c rc gc lr rk a cx cy re st dg := by
    intro N
    induction N with
    | zero => intro i a h0 h1; omega
    | succ N ih =>
      intro j a h0 h1 h2 P'
      refine zb_le 25 j (fun h => ?_) (fun h => ⟨26, ba_i hl (by omega) (fun a' P' => ih (j + 1) a' (by omega) (by omega) (by omega) P') 26 0 a (by omega) (by omega) (by omega) P'⟩)
      have e : j = 25 := by omega
      subst e
      exact f a (sw_set P.2 be_s P')
  unfold wpX_setBoundaryEdgesAside
  exact ⟨26, key 26 0 a (by omega) (by omega) (by omega) (px_c P sw_0)⟩
theorem zi_r4 {a : Int} (h : 0 ≤ a ∧ a < 2147483648) : zI a - zI a / 4 * 4 = zI (a % 4) := zi_rem (d := 4) h (by omega)
theorem xp_after {rk : Int32} {post : Int32 → Prop} {a : Nat → Int32} (P : XP a S) {l i j d : Int} (hl : 0 ≤ l ∧ l ≤ 6) (hg : Gd i j) (hd : 0 ≤ d ∧ d ≤ 3) (f : post (zI (nD (S l) i j d))) : wpX_directionAfter post (c, rc, gc, lr, rk, a, cx, cy, re, st, dg) (zI l) (zI i) (zI j) (zI d) := by
  have e5 : (zI d + 1) - (zI d + 1) / 4 * 4 = zI ((d + 1) % 4) := by rw [zi_1]; exact zi_r4 (by omega)
  have e6 : (zI d + 3) - (zI d + 3) / 4 * 4 = zI ((d + 3) % 4) := by
    have e : zI d + 3 = zI (d + 3) := zi_add d 3
    rw [e]; exact zi_r4 (by omega)
  have ea : ∀ p x y : Int, (zI p + (2 * zI x)) + zI y = zI (p + 2 * x + y) := fun p x y => by rw [zi_dbl, zi_add, zi_add]
  have b1 := ea_r d
  have b2 := no_r d
  have b3 := ea_r ((d + 1) % 4)
  have b4 := no_r ((d + 1) % 4)
  have b5 := ea_r ((d + 3) % 4)
  have b6 := no_r ((d + 3) % 4)
  unfold nD at f
  unfold wpX_directionAfter
  refine ⟨by decide, nm_r e5 ⟨by decide, nm_r e6 ?_⟩⟩
  refine xp_east d (by omega) (xp_east _ (by omega) (nm_r (ea _ _ _) ?_))
  refine xp_north d (by omega) (xp_north _ (by omega) (nm_r (ea _ _ _) ?_))
  refine xp_has P l _ _ hl (by omega) (by omega) (bb_0 (fun e => ?_) (fun e => ?_))
  · rw [if_pos e] at f; exact f
  · rw [if_neg (by rw [e]; decide)] at f
    refine xp_east d (by omega) (xp_east _ (by omega) (nm_r (ea _ _ _) ?_))
    refine xp_north d (by omega) (xp_north _ (by omega) (nm_r (ea _ _ _) ?_))
    refine xp_has P l _ _ hl (by omega) (by omega) (bb_0 (fun e2 => ?_) (fun e2 => ?_))
    · rw [if_neg (by rw [e2]; decide)] at f; exact f
    · rw [if_pos e2] at f; exact f
/-- the state while a ring is walked: the edges of R and of the way are taken -/
def WS (S0 : Int → Int → Int → Bool) (l : Int) (R : Int → Prop) (a : Nat → Int32) (S : Int → Int → Int → Bool) : Prop :=
  XP a S ∧ (∀ s, s ≠ 6 → S s = S0 s) ∧ (∀ i j, Gd i j → (S 6 i j = true ↔ BE (S0 l) i j = true ∧ ¬ R (25 * i + j)))
theorem it_len {g : Int → Int → Bool} (H : Sup g) {e : Int} (he : Bn g e) {q : Nat} (en : ∀ s, 0 < s → s < q → itf g s e ≠ e) : q < 625 := by
  have nz : ∀ s, itf g s e ≠ 0 := by
    intro s hz
    have b := it_b H he s
    rw [hz] at b
    have o := bn_o b
    unfold OB at o
    omega
  have key : q + 1 ≤ 625 := by
    refine ph (fun s => if s = q then 0 else (itf g s e).toNat) (fun s hs => ?_) (fun s s' hs hs' h => ?_)
    · show (if s = q then 0 else (itf g s e).toNat) < 625
      have := (it_b H he s).1
      split <;> omega
    · have h' : (if s = q then 0 else (itf g s e).toNat) = (if s' = q then 0 else (itf g s' e).toNat) := h
      have r1 := (it_b H he s).1
      have r2 := (it_b H he s').1
      have n1 := nz s
      have n2 := nz s'
      by_cases c1 : s = q
      · by_cases c2 : s' = q
        · omega
        · rw [if_pos c1, if_neg c2] at h'; omega
      · by_cases c2 : s' = q
        · rw [if_neg c1, if_pos c2] at h'; omega
        · rw [if_neg c1, if_neg c2] at h'
          have eq : itf g s e = itf g s' e := by omega
          rcases Nat.lt_trichotomy s s' with z | z | z
          · exfalso
            have e1 : s' = s + (s' - s) := by omega
            rw [e1, it_a] at eq
            exact en (s' - s) (by omega) (by omega) (it_i H (it_b H he _) he s eq.symm)
          · exact z
          · exfalso
            have e1 : s = s' + (s - s') := by omega
            rw [e1, it_a] at eq
            exact en (s - s') (by omega) (by omega) (it_i H (it_b H he _) he s' eq)
  omega
theorem wr_30 {S0 : Int → Int → Int → Bool} {post : Int32 → SX → Prop} {l : Int} (hl : 0 ≤ l ∧ l ≤ 5) (H : Sup (S0 l)) {R : Int → Prop} {t : Nat} {cm : Int → Int} {len : Nat → Nat} (P : RG (S0 l) R t cm len) {e : Int} (he : Bn (S0 l) e) (hR : ¬ R e)
    (f : ∀ q a S, 1 ≤ q → q < 625 → itf (S0 l) q e = e → (∀ s, 0 < s → s < q → itf (S0 l) s e ≠ e) → WS S0 l (fun n => R n ∨ InR (S0 l) q e n) a S → post (zI q) (c, rc, gc, lr, zI (cR (S0 l) (fun n => R n ∨ InR (S0 l) q e n)), a, cx, cy, re, st, dg)) :
    ∀ (N q : Nat) (a : Nat → Int32) (S : Int → Int → Int → Bool), 625 - q < N → (∀ s, 0 < s → s < q → itf (S0 l) s e ≠ e) → WS S0 l (fun n => R n ∨ InR (S0 l) q e n) a S → wX_walkRing_30 post (zI l) N (zI (itf (S0 l) q e / 25)) (zI (itf (S0 l) q e % 25)) (zI (dN (S0 l) (itf (S0 l) q e))) (zI q) c rc gc lr (zI (cR (S0 l) (fun n => R n ∨ InR (S0 l) q e n))) a cx cy re st dg := by
  intro N
  induction N with
  | zero =>
    intro q a S h1 en
    have := it_len H he en
    omega
  | succ N ih =>
    intro q a S h1 en hW
    have hq := it_len H he en
    have b := it_b H he q
    have bo := bn_o b
    have gd : Gd (itf (S0 l) q e / 25) (itf (S0 l) q e % 25) := ob_g H bo
    have e25 : 25 * (itf (S0 l) q e / 25) + itf (S0 l) q e % 25 = itf (S0 l) q e := by omega
    have dr := ob_r bo
    refine zb_le 625 (q : Int) (fun h => absurd h (by omega)) (fun _ => ?_)
    have h6 := hW.2.2 _ _ gd
    rw [e25] at h6
    have sl : S l = S0 l := hW.2.1 l (by omega)
    refine xp_has hW.1 6 _ _ (by omega) (by omega) (by omega) (bb_0 (fun z => ?_) (fun z => ?_))
    · -- the way has come back
      have hin : R (itf (S0 l) q e) ∨ InR (S0 l) q e (itf (S0 l) q e) := by
        rcases Classical.em (R (itf (S0 l) q e) ∨ InR (S0 l) q e (itf (S0 l) q e)) with y | y
        · exact y
        · rw [h6.mpr ⟨b.2, y⟩] at z; exact absurd z (by decide)
      rcases hin with y | ⟨s, hs, y⟩
      · exact absurd (rg_p H P he q y) hR
      · have s0 : s = 0 := by
          rcases Nat.eq_zero_or_pos s with w | w
          · exact w
          · exfalso
            have e1 : q = s + (q - s) := by omega
            have y2 := y
            rw [e1, it_a] at y2
            exact en (q - s) (by omega) (by omega) (it_i H (it_b H he _) he s y2.symm)
        subst s0
        exact f q a S (by omega) hq y.symm en hW
    · have nin := (h6.mp z).2
      have n0 : ∀ s, 0 < s → s < q + 1 → itf (S0 l) s e ≠ e := by
        intro s s0 s1 hs
        by_cases w : s = q
        · subst w
          exact nin (Or.inr ⟨0, s0, hs.symm⟩)
        · exact en s s0 (by omega) hs
      refine xp_write hW.1 6 _ _ false (by omega) gd (fun a' P' => nm_r (zi_1 _) ?_)
      have sl' : sto S 6 (itf (S0 l) q e / 25) (itf (S0 l) q e % 25) false l = S0 l := by
        rw [← sl]; funext i j; unfold sto; rw [if_neg (fun w => by omega)]
      have hI : ∀ n, (R n ∨ InR (S0 l) (q + 1) e n) ↔ (R n ∨ InR (S0 l) q e n) ∨ n = itf (S0 l) q e := by
        intro n
        constructor
        · rintro (w | ⟨s, hs, w⟩)
          · exact Or.inl (Or.inl w)
          · by_cases w2 : s = q
            · subst w2; exact Or.inr w.symm
            · exact Or.inl (Or.inr ⟨s, by omega, w⟩)
        · rintro ((w | ⟨s, hs, w⟩) | w)
          · exact Or.inl w
          · exact Or.inr ⟨s, by omega, w⟩
          · exact Or.inr ⟨q, by omega, w.symm⟩
      have hW' : WS S0 l (fun n => R n ∨ InR (S0 l) (q + 1) e n) a' (sto S 6 (itf (S0 l) q e / 25) (itf (S0 l) q e % 25) false) := by
        refine ⟨P', fun s hs => ?_, fun i j gij => ?_⟩
        · rw [← hW.2.1 s hs]; funext i j; unfold sto; rw [if_neg (fun w => hs w.1)]
        · unfold sto
          by_cases w : (6 : Int) = 6 ∧ i = itf (S0 l) q e / 25 ∧ j = itf (S0 l) q e % 25
          · rw [if_pos w]
            refine ⟨fun y => (nomatch y), fun y => absurd ((hI _).mpr (Or.inr ?_)) y.2⟩
            rw [w.2.1, w.2.2]; exact e25
          · rw [if_neg w, hW.2.2 i j gij]
            refine ⟨fun y => ⟨y.1, fun y2 => ?_⟩, fun y => ⟨y.1, fun y2 => y.2 ((hI _).mpr (Or.inl y2))⟩⟩
            rcases (hI _).mp y2 with y3 | y3
            · exact y.2 y3
            · exact w ⟨rfl, by omega, by omega⟩
      have cadd := cr_add (g := S0 l) (R := fun n => R n ∨ InR (S0 l) q e n) (R' := fun n => R n ∨ InR (S0 l) (q + 1) e n) b.1 nin hI
      obtain ⟨fb, f1, f2, f3⟩ := fn_b H b
      have w := ih (q + 1) a' _ (by omega) n0 hW'
      have ei : itf (S0 l) (q + 1) e = fN (S0 l) (itf (S0 l) q e) := rfl
      rw [ei, f1, f2, f3, cadd] at w
      refine xp_after P' (by omega) gd dr ?_
      rw [sl']
      have go : ∀ k : Int, k = (if eN (S0 l) (itf (S0 l) q e) = dN (S0 l) (itf (S0 l) q e) then 0 else 1) → wX_walkRing_95 post (wX_walkRing_30 post (zI l) N) (zI l) (zI (itf (S0 l) q e / 25)) (zI (itf (S0 l) q e % 25)) (zI (dN (S0 l) (itf (S0 l) q e))) (zI (q + 1)) (zI (eN (S0 l) (itf (S0 l) q e))) (zI k) (zI (cR (S0 l) (fun n => R n ∨ InR (S0 l) q e n))) c rc gc lr (zI (cR (S0 l) (fun n => R n ∨ InR (S0 l) q e n))) a' cx cy re st dg := by
        intro k ek
        have er := ob_r (nx_c bo).1
        have er' : 0 ≤ eN (S0 l) (itf (S0 l) q e) ∧ eN (S0 l) (itf (S0 l) q e) ≤ 3 := er
        unfold wX_walkRing_95
        refine nm_r (zi_add _ _) (xp_east _ (by omega) (xp_east _ (by omega) ?_))
        rw [zi_add]
        refine nm_r (zi_add _ _) (xp_north _ (by omega) (xp_north _ (by omega) ?_))
        rw [zi_add]
        refine nm_r (zi_add _ _) ?_
        rw [ek]
        exact w
      have dr2 := ob_r (nx_c bo).1
      refine zb_eq (eN (S0 l) (itf (S0 l) q e)) (dN (S0 l) (itf (S0 l) q e)) (fun y => go 0 (by rw [if_pos y])) (fun y => go 1 (by rw [if_neg y])) rfl rfl (by
        have : 0 ≤ eN (S0 l) (itf (S0 l) q e) ∧ eN (S0 l) (itf (S0 l) q e) ≤ 3 := dr2
        omega)
end
end
section
/-! X: all rings -/
def LM (K : Nat → Prop) (len : Nat → Nat) (M : Nat) : Prop := (∀ κ, K κ → len κ ≤ M) ∧ (M = 0 ∨ ∃ κ, K κ ∧ len κ = M)
theorem lm_u {K : Nat → Prop} {len : Nat → Nat} {M M' : Nat} (h : LM K len M) (h' : LM K len M') : M = M' := by
  rcases h.2 with e | ⟨κ, k1, k2⟩
  · rcases h'.2 with e' | ⟨κ', k1', k2'⟩
    · omega
    · have := h.1 κ' k1'; omega
  · rcases h'.2 with e' | ⟨κ', k1', k2'⟩
    · have := h'.1 κ k1; omega
    · have := h.1 κ' k1'; have := h'.1 κ k1; omega
theorem lm_add {len : Nat → Nat} {t q M M' : Nat} (h : LM (fun κ => κ < t) len M) (hM : M' = if q ≤ M then M else q) : LM (fun κ => κ < t + 1) (fun κ => if κ = t then q else len κ) M' := by
  refine ⟨fun κ hκ => ?_, ?_⟩
  · show (if κ = t then q else len κ) ≤ M'
    by_cases e : κ = t
    · rw [if_pos e, hM]; split <;> omega
    · rw [if_neg e]
      have := h.1 κ (by omega)
      rw [hM]; split <;> omega
  · by_cases e : q ≤ M
    · rw [if_pos e] at hM
      rcases h.2 with z | ⟨κ, k1, k2⟩
      · exact Or.inl (by omega)
      · refine Or.inr ⟨κ, by omega, ?_⟩
        show (if κ = t then q else len κ) = M'
        rw [if_neg (by omega)]; omega
    · rw [if_neg e] at hM
      refine Or.inr ⟨t, by omega, ?_⟩
      show (if t = t then q else len t) = M'
      rw [if_pos rfl]; omega
section
variable {c rc gc lr : Int32} {cx cy re st dg : Nat → Int32}
theorem xp_walk {S0 S : Int → Int → Int → Bool} {post : Int32 → SX → Prop} {l : Int} (hl : 0 ≤ l ∧ l ≤ 5) (H : Sup (S0 l)) {R : Int → Prop} {t : Nat} {cm : Int → Int} {len : Nat → Nat} (P : RG (S0 l) R t cm len) {i j : Int} (gd : Gd i j) (ho : i % 2 = 1) (he : Bn (S0 l) (25 * i + j)) (hR : ¬ R (25 * i + j)) {a : Nat → Int32} (hW : WS S0 l R a S)
    (f : ∀ q a S, 1 ≤ q → q < 625 → itf (S0 l) q (25 * i + j) = 25 * i + j → (∀ s, 0 < s → s < q → itf (S0 l) s (25 * i + j) ≠ 25 * i + j) → WS S0 l (fun n => R n ∨ InR (S0 l) q (25 * i + j) n) a S → post (zI q) (c, rc, gc, lr, zI (cR (S0 l) (fun n => R n ∨ InR (S0 l) q (25 * i + j) n)), a, cx, cy, re, st, dg)) :
    wpX_walkRing post (c, rc, gc, lr, zI (cR (S0 l) R), a, cx, cy, re, st, dg) (zI l) (zI i) (zI j) := by
  have eR : (fun n => R n ∨ InR (S0 l) 0 (25 * i + j) n) = R := by
    funext n
    exact propext ⟨fun z => z.elim id (fun ⟨s, hs, _⟩ => absurd hs (by omega)), Or.inl⟩
  have e1 : (25 * i + j) / 25 = i := by omega
  have e2 : (25 * i + j) % 25 = j := by omega
  have sl : S l = S0 l := hW.2.1 l (by omega)
  have w := wr_30 (c := c) (rc := rc) (gc := gc) (lr := lr) (cx := cx) (cy := cy) (re := re) (st := st) (dg := dg) hl H P he hR f 627 0 a S (by omega) (fun s s0 s1 => absurd s1 (by omega)) (by rw [eR]; exact hW)
  have ed : dN (S0 l) (25 * i + j) = if S0 l i (j + 1) = true then 0 else 2 := by
    unfold dN drX; rw [e1, e2, if_pos ho]
  have e0 : itf (S0 l) 0 (25 * i + j) = 25 * i + j := rfl
  rw [eR, e0, e1, e2, ed] at w
  unfold wpX_walkRing
  rw [zi_1]
  refine xp_has hW.1 l _ _ (by omega) (by omega) (by omega) ?_
  rw [sl]
  refine bb_0 (fun z => ⟨627, ?_⟩) (fun z => ⟨627, ?_⟩)
  · rw [if_neg (by rw [z]; decide)] at w; exact w
  · rw [if_pos z] at w; exact w
theorem ws_i {S0 : Int → Int → Int → Bool} {post : SX → Prop} {J : Int32 → Int32 → Int32 → Int32 → Int32 → Int32 → (Nat → Int32) → (Nat → Int32) → (Nat → Int32) → (Nat → Int32) → (Nat → Int32) → (Nat → Int32) → Prop} {l j : Int} (hl : 0 ≤ l ∧ l ≤ 5) (H : Sup (S0 l)) (hj : 0 ≤ j ∧ j ≤ 24) (ej : j % 2 = 0)
    (hJ : ∀ a S R t cm len M, WS S0 l R a S → RG (S0 l) R t cm len → LM (fun κ => κ < t) len M → M ≤ 625 → (∀ n, Bn (S0 l) n → n % 25 % 2 = 0 → n % 25 < j + 2 → R n) → J (zI (j + 2)) c rc (zI t) (zI M) (zI (cR (S0 l) R)) a cx cy re st dg) :
    ∀ (N : Nat) (i : Int) (a : Nat → Int32) (S : Int → Int → Int → Bool) (R : Int → Prop) (t : Nat) (cm : Int → Int) (len : Nat → Nat) (M : Nat), i % 2 = 1 → 1 ≤ i → i ≤ 25 → (25 - i).toNat < N → WS S0 l R a S → RG (S0 l) R t cm len → LM (fun κ => κ < t) len M → M ≤ 625 → (∀ n, Bn (S0 l) n → n % 25 % 2 = 0 → (n % 25 < j ∨ (n % 25 = j ∧ n / 25 < i)) → R n) → wX_walkRings_30 post J (zI l) (zI j) N (zI i) c rc (zI t) (zI M) (zI (cR (S0 l) R)) a cx cy re st dg := by
  intro N
  induction N with
  | zero => intro i a S R t cm len M h0 h1 h2 h3; omega
  | succ N ih =>
    intro i a S R t cm len M h0 h1 h2 h3 hW hG hM hMb hE
    refine zb_le 25 i (fun h => nm_r (zi_2 j) (hJ a S R t cm len M hW hG hM hMb (fun n hb he hlt => hE n hb he ?_))) (fun h => ?_)
    · have := hb.1; omega
    · have e1 : (25 * i + j) / 25 = i := by omega
      have e2 : (25 * i + j) % 25 = j := by omega
      have gd : Gd i j := by omega
      have h6 := hW.2.2 i j gd
      have nx : ∀ R' : Int → Prop, (∀ n, R n → R' n) → (Bn (S0 l) (25 * i + j) → R' (25 * i + j)) → ∀ n, Bn (S0 l) n → n % 25 % 2 = 0 → (n % 25 < j ∨ (n % 25 = j ∧ n / 25 < i + 2)) → R' n := by
        intro R' k1 k2 n hb he hlt
        by_cases z : n = 25 * i + j
        · rw [z]; rw [z] at hb; exact k2 hb
        · refine k1 n (hE n hb he ?_)
          have o := bn_o hb
          unfold OB at o
          omega
      refine xp_has hW.1 6 i j (by omega) (by omega) (by omega) (bb_0 (fun z => nm_r (zi_2 i) ?_) (fun z => ?_))
      · refine ih (i + 2) a S R t cm len M (by omega) (by omega) (by omega) (by omega) hW hG hM hMb (nx R (fun _ h => h) (fun hb => ?_))
        rcases Classical.em (R (25 * i + j)) with y | y
        · exact y
        · have := h6.mpr ⟨by have := hb.2; rw [e1, e2] at this; exact this, y⟩
          rw [z] at this; exact absurd this (by decide)
      · have hz := h6.mp z
        have hb : Bn (S0 l) (25 * i + j) := ⟨by omega, by rw [e1, e2]; exact hz.1⟩
        refine xp_walk hl H hG gd h0 hb hz.2 hW (fun q a' S' q1 q2 ec en hW' => nm_r (zi_1 _) ?_)
        have hG' := rg_add H hG hb hz.2 q1 ec en
        have st : ∀ M' : Nat, M' = (if q ≤ M then M else q) → wX_walkRings_30 post J (zI l) (zI j) N (zI (i + 2)) c rc (zI (t + 1 : Nat)) (zI M') (zI (cR (S0 l) (fun n => R n ∨ InR (S0 l) q (25 * i + j) n))) a' cx cy re st dg := by
          intro M' eM
          refine ih (i + 2) a' S' _ (t + 1) _ _ M' (by omega) (by omega) (by omega) (by omega) hW' hG' (lm_add hM eM) (by rw [eM]; split <;> omega) (nx _ (fun _ h => Or.inl h) (fun _ => Or.inr ⟨0, by omega, rfl⟩))
        refine zb_le (q : Int) (M : Int) (fun y => nm_r (zi_2 i) (st M ?_)) (fun y => nm_r (zi_2 i) (st q ?_))
        · rw [if_pos (by omega)]
        · rw [if_neg (by omega)]
theorem xp_walks {rk : Int32} {S : Int → Int → Int → Bool} {post : SX → Prop} {l : Int} (hl : 0 ≤ l ∧ l ≤ 5) {a : Nat → Int32} (P : XP a S)
    (f : ∀ a S' t cm len M, XP a S' → (∀ s, s ≤ 5 → S' s = S s) → RGF (S l) t cm len → LM (fun κ => κ < t) len M → post (c, rc, zI t, zI M, zI (cR (S l) (Bn (S l))), a, cx, cy, re, st, dg)) : wpX_walkRings post (c, rc, gc, lr, rk, a, cx, cy, re, st, dg) (zI l) := by
  unfold wpX_walkRings
  refine xp_ba P hl (fun a1 P1 => ⟨27, ?_⟩)
  have el : ∀ s : Int, s ≤ 5 → setl S 6 (BE (S l)) s = S s := by intro s hs; unfold setl; rw [if_neg (by omega)]
  have e6 : setl S 6 (BE (S l)) 6 = BE (S l) := by unfold setl; rw [if_pos rfl]
  have H : Sup (setl S 6 (BE (S l)) l) := by rw [el l (by omega)]; exact fun i j => P.2 l i j
  have key : ∀ (N : Nat) (j : Int) (a : Nat → Int32) (S' : Int → Int → Int → Bool) (R : Int → Prop) (t : Nat) (cm : Int → Int) (len : Nat → Nat) (M : Nat), j % 2 = 0 → 0 ≤ j → j ≤ 26 → (26 - j).toNat < N → WS (setl S 6 (BE (S l))) l R a S' → RG (setl S 6 (BE (S l)) l) R t cm len → LM (fun κ => κ < t) len M → M ≤ 625 → (∀ n, Bn (setl S 6 (BE (S l)) l) n → n % 25 % 2 = 0 → n % 25 < j → R n) → wX_walkRings_22 post (zI l) N (zI j) c rc (zI t) (zI M) (zI (cR (setl S 6 (BE (S l)) l) R)) a cx cy re st dg := by
    intro N
    induction N with
    | zero => intro j a S' R t cm len M h0 h1 h2 h3; omega
    | succ N ih =>
      intro j a S' R t cm len M h0 h1 h2 h3 hW hG hM hMb hE
      refine zb_le 25 j (fun h => ?_) (fun h => ⟨27, ?_⟩)
      · have all := rg_lv H hG (fun n hb he => hE n hb he (by have := hb.1; omega))
        have eR : R = Bn (setl S 6 (BE (S l)) l) := by
          funext n; exact propext ⟨fun r => (hG.1 n r).1, all n⟩
        have hF := rg_fin hG all
        rw [eR]
        rw [el l (by omega)] at hF ⊢
        exact f a S' t cm len M hW.1 (fun s hs => by rw [hW.2.1 s (by omega), el s hs]) hF hM
      · exact ws_i hl H (by omega) h0 (fun a S' R t cm len M hW hG hM hMb hE => ih (j + 2) a S' R t cm len M (by omega) (by omega) (by omega) (by omega) hW hG hM hMb hE) 27 1 a S' R t cm len M (by omega) (by omega) (by omega) (by omega) hW hG hM hMb (fun n hb he hlt => hE n hb he (by
          have o := bn_o hb
          unfold OB at o
          have := hb.1
          omega))
  have c0 : cR (setl S 6 (BE (S l)) l) (fun _ => False) = 0 := by
    unfold cR
    refine cn_zero (fun k hk => ?_)
    rw [@decide_eq_false_iff_not _ (Classical.propDecidable _)]
    exact fun z => z.1
  have w := key 27 0 a1 (setl S 6 (BE (S l))) (fun _ => False) 0 (fun _ => 0) (fun _ => 0) 0 (by omega) (by omega) (by omega) (by omega) ⟨P1, fun _ _ => rfl, fun i j gd => by rw [e6, el l (by omega)]; exact ⟨fun h => ⟨h, fun h => h⟩, fun h => h.1⟩⟩ rg_0 ⟨fun κ h => absurd h (by omega), Or.inl rfl⟩ (by omega) (fun n hb he hlt => by have := hb.1; omega)
  rw [c0] at w
  exact w
end
end
section
/-! Y: directions of boundary edges, the edge that follows -/
def dY (g : Int → Int → Bool) (i j : Int) : Int := if BE g i j = true then drX g i j + 1 else 0
theorem yd_q (g : Int → Int → Bool) (i j : Int) : 0 ≤ drX g i j ∧ drX g i j ≤ 3 := by unfold drX; split <;> split <;> omega
theorem yd_r (g : Int → Int → Bool) (i j : Int) : 0 ≤ dY g i j ∧ dY g i j ≤ 4 := by
  have := yd_q g i j
  unfold dY; split <;> omega
theorem yd_i {g : Int → Int → Bool} (H : Sup g) {i j d : Int} (hd : 0 ≤ d) : dY g i j = d + 1 ↔ OB g i j d := by
  unfold dY
  constructor
  · intro h
    by_cases e : BE g i j = true
    · rw [if_pos e] at h
      have : drX g i j = d := by omega
      rw [← this]; exact be_ob e
    · rw [if_neg e] at h; omega
  · intro h
    have := ob_be H h
    rw [if_pos this.1, this.2]
theorem ob_in {g : Int → Int → Bool} (C : clo g) {i j d : Int} (h : OB g i j d) : g i j = true := by
  rcases h with ⟨-, o, c1, -⟩ | ⟨-, o, c1, -⟩ | ⟨-, o, c1, -⟩ | ⟨-, o, c1, -⟩
  · exact ga ((C _ _ c1).2 (by omega)).1 rfl (by omega)
  · exact ga ((C _ _ c1).1 (by omega)).2 (by omega) rfl
  · exact ga ((C _ _ c1).2 (by omega)).2 rfl (by omega)
  · exact ga ((C _ _ c1).1 (by omega)).1 (by omega) rfl
theorem pr_be {g : Int → Int → Bool} (C : clo g) {i j : Int} (gd : Gd i j) (hd : i % 2 + j % 2 = 1) : prt g i j = 1 ↔ BE g i j = true := by
  constructor
  · intro h
    unfold prt at h
    by_cases z : g i j = false
    · rw [if_pos z] at h; omega
    · rw [if_neg z, if_neg (by omega), if_pos (by omega)] at h
      unfold BE
      rw [decide_eq_true_eq]
      refine ⟨gd, hd, ?_⟩
      by_cases y : cc g i j = 1
      · exact y
      · rw [if_neg y] at h; omega
  · intro h
    have hi := ob_in C (be_ob h)
    unfold BE at h
    rw [decide_eq_true_eq] at h
    unfold prt
    rw [if_neg (by rw [hi]; decide), if_neg (by omega), if_pos (by omega), if_pos h.2.2]
section
variable {c : Int32} {fi ly ma se px py la : Nat → Int32} {S : Int → Int → Int → Bool}
theorem yp_dir {post : Int32 → Prop} (Q : YP ly S) (H : HS S) {l i j : Int} (hl : 0 ≤ l ∧ l ≤ 5) (C : clo (S l)) (gd : Gd i j) (f : post (zI (dY (S l) i j))) : wpY_direction post (c, ly, fi, ma, se, px, py, la) (zI l) (zI i) (zI j) := by
  have hp := pr_r (S l) i j
  have no : ¬ BE (S l) i j = true → post 0 := by
    intro h; unfold dY at f; rw [if_neg h] at f; exact f
  unfold wpY_direction
  dsimp only
  rw [zi_add, zi_r2 (by omega), zi_r2 (by omega)]
  refine ⟨by decide, zb_eq ((i + j) % 2) 1 (fun q => yp_part Q H l i j hl (by omega) (by omega) (zb_eq (prt (S l) i j) 1 (fun q2 => ⟨by decide, ?_⟩) (fun q2 => no (fun z => q2 ((pr_be C gd (by omega)).mpr z))))) (fun q => no (fun z => ?_))⟩
  · have hb := (pr_be C gd (by omega)).mp q2
    unfold dY drX at f
    rw [if_pos hb] at f
    refine zb_eq (i % 2) 1 (fun q3 => ?_) (fun q3 => ?_)
    · rw [if_pos q3] at f
      rw [zi_1]
      refine yp_in Q H l _ _ hl (by omega) (by omega) (bb_0 (fun z => ?_) (fun z => ?_))
      · rw [if_neg (by rw [z]; decide)] at f; exact f
      · rw [if_pos z] at f; exact f
    · rw [if_neg q3] at f
      rw [zi_s1]
      refine yp_in Q H l _ _ hl (by omega) (by omega) (bb_0 (fun z => ?_) (fun z => ?_))
      · rw [if_neg (by rw [z]; decide)] at f; exact f
      · rw [if_pos z] at f; exact f
  · have := be_ob z
    unfold OB at this
    omega
def cL (i j d : Int) : Int := 25 * (i + eaD ((d + 1) % 4)) + (j + noD ((d + 1) % 4))
theorem yp_cl {post : Int32 → Prop} {i j d : Int} (hd : 0 ≤ d ∧ d ≤ 3) (f : post (zI (cL i j d))) : wpY_cellLeft post (c, ly, fi, ma, se, px, py, la) (zI i) (zI j) (zI (d + 1)) := by
  have e25 : ∀ z : Int, 25 * zI z = zI (25 * z) := fun z => zi_mul 25 z
  have a2 : ∀ z : Int, zI z + 2 = zI (z + 2) := fun z => zi_add z 2
  have m3 : ∀ z : Int, zI z - 3 = zI (z - 3) := fun z => zi_sub z 3
  unfold wpY_cellLeft
  dsimp only
  rw [zi_r2 (by omega), e25, zi_add, a2, zi_sub, zi_add, m3, e25, zi_add]
  unfold cL at f
  refine ⟨by decide, zb_eq ((d + 1) % 2) 1 (fun q => ?_) (fun q => ?_)⟩
  · have e : 25 * i + j + 2 - (d + 1) = 25 * (i + eaD ((d + 1) % 4)) + (j + noD ((d + 1) % 4)) := by
      rcases d4 hd with rfl | rfl | rfl | rfl
      · show 25 * i + j + 2 - (0 + 1) = 25 * (i + 0) + (j + 1); omega
      · omega
      · show 25 * i + j + 2 - (2 + 1) = 25 * (i + 0) + (j + -1); omega
      · omega
    rw [e]; exact f
  · have e : 25 * (i + (d + 1) - 3) + j = 25 * (i + eaD ((d + 1) % 4)) + (j + noD ((d + 1) % 4)) := by
      rcases d4 hd with rfl | rfl | rfl | rfl
      · omega
      · show 25 * (i + (1 + 1) - 3) + j = 25 * (i + -1) + (j + 0); omega
      · omega
      · show 25 * (i + (3 + 1) - 3) + j = 25 * (i + 1) + (j + 0); omega
    rw [e]; exact f
theorem fo_s {post : Int32 → Prop} (Q : YP ly S) (H : HS S) {l : Int} (hl : 0 ≤ l ∧ l ≤ 5) (C : clo (S l)) {N : Nat} {pi pj ce v0 e : Int} (he : 0 ≤ e ∧ e ≤ 3) (hi : 0 ≤ pi ∧ pi ≤ 24) (hj : 0 ≤ pj ∧ pj ≤ 24) (hv : -1 ≤ v0 ∧ v0 ≤ 1000) (hc : -100 ≤ ce ∧ ce ≤ 1000)
    (hit : OB (S l) (pi + eaD e) (pj + noD e) e → (v0 < 0 ∨ cL (pi + eaD e) (pj + noD e) e = ce) → wY_following_95 post (zI l) (zI ce) (zI pi) (zI pj) c ly fi ma se px py la N (zI (25 * (pi + eaD e) + (pj + noD e))) (zI (e + 1 + 1)))
    (miss : ¬ (OB (S l) (pi + eaD e) (pj + noD e) e ∧ (v0 < 0 ∨ cL (pi + eaD e) (pj + noD e) e = ce)) → wY_following_95 post (zI l) (zI ce) (zI pi) (zI pj) c ly fi ma se px py la N (zI v0) (zI (e + 1 + 1))) :
    wY_following_95 post (zI l) (zI ce) (zI pi) (zI pj) c ly fi ma se px py la (N + 1) (zI v0) (zI (e + 1)) := by
  have Hl : Sup (S l) := fun i j => H l i j
  have r1 := ea_r e
  have r2 := no_r e
  have k159 : ∀ u v : Int, u = pi + eaD e → v = pj + noD e → wY_following_159 post (wY_following_95 post (zI l) (zI ce) (zI pi) (zI pj) c ly fi ma se px py la N) (zI l) (zI ce) (zI v0) (zI pi) (zI pj) (zI (e + 1)) (zI u) (zI v) c ly fi ma se px py la := by
    intro u v eu ev
    subst eu; subst ev
    have k206 : OB (S l) (pi + eaD e) (pj + noD e) e → (v0 < 0 ∨ cL (pi + eaD e) (pj + noD e) e = ce) → wY_following_206 post (wY_following_95 post (zI l) (zI ce) (zI pi) (zI pj) c ly fi ma se px py la N) (zI l) (zI ce) (zI pi) (zI pj) (zI (e + 1)) (zI (pi + eaD e)) (zI (pj + noD e)) c ly fi ma se px py la := by
      intro h1 h2
      unfold wY_following_206
      have e25 : 25 * zI (pi + eaD e) = zI (25 * (pi + eaD e)) := zi_mul 25 _
      rw [e25]
      exact nm_r (zi_add _ _) (nm_r (zi_1 _) (hit h1 h2))
    unfold wY_following_159
    refine yg_atom _ _ (by omega) (by omega) (fun ga => b1_f ?_) (fun ga => b0_t (nm_r (zi_1 _) (miss (fun z => ga (ob_g Hl z.1)))))
    have dr := yd_r (S l) (pi + eaD e) (pj + noD e)
    refine yp_dir Q H hl C ga (zb_eq (dY (S l) (pi + eaD e) (pj + noD e)) (e + 1) (fun q => ?_) (fun q => nm_r (zi_1 _) (miss (fun z => q ((yd_i Hl he.1).mpr z.1)))))
    have ob := (yd_i Hl he.1).mp q
    have rc : -100 ≤ cL (pi + eaD e) (pj + noD e) e ∧ cL (pi + eaD e) (pj + noD e) e ≤ 1000 := by
      have := ea_r ((e + 1) % 4)
      have := no_r ((e + 1) % 4)
      unfold cL; omega
    refine zb_lt v0 0 (fun y => k206 ob (Or.inl y)) (fun y => yp_cl he (zb_eq (cL (pi + eaD e) (pj + noD e) e) ce (fun y2 => k206 ob (Or.inr y2)) (fun y2 => nm_r (zi_1 _) (miss (fun z => z.2.elim (fun w => by omega) (fun w => y2 w))))))
  have k129 : ∀ u : Int, u = pi + eaD e → wY_following_129 post (wY_following_95 post (zI l) (zI ce) (zI pi) (zI pj) c ly fi ma se px py la N) (zI l) (zI ce) (zI v0) (zI pi) (zI pj) (zI (e + 1)) (zI u) c ly fi ma se px py la := by
    intro u eu
    unfold wY_following_129
    rw [zi_1 pj, zi_s1 pj]
    refine zb_eq (e + 1) 2 (fun q => k159 u _ eu ?_) (fun q => zb_eq (e + 1) 4 (fun q2 => k159 u _ eu ?_) (fun q2 => k159 u _ eu ?_))
    · have : e = 1 := by omega
      subst this; rfl
    · have : e = 3 := by omega
      subst this; rfl
    · unfold noD; rw [if_neg (by omega), if_neg (by omega)]; omega
  refine zb_le 5 (e + 1) (fun q => absurd q (by omega)) (fun _ => ?_)
  rw [zi_1 pi, zi_s1 pi]
  refine zb_eq (e + 1) 1 (fun q => k129 _ ?_) (fun q => zb_eq (e + 1) 3 (fun q2 => k129 _ ?_) (fun q2 => k129 _ ?_))
  · have : e = 0 := by omega
    subst this; rfl
  · have : e = 2 := by omega
    subst this; rfl
  · unfold eaD; rw [if_neg (by omega), if_neg (by omega)]; omega
theorem ob_n0 {g : Int → Int → Bool} {i j : Int} {b : Bool} (h1 : g i (j + 1) = b) (h2 : b = false ∨ g i (j - 1) = true) : ¬ OB g i j 0 := by
  rintro (⟨-, -, c1, c2⟩ | ⟨e, -⟩ | ⟨e, -⟩ | ⟨e, -⟩)
  · rcases h2 with h2 | h2
    · rw [h1, h2] at c1; exact absurd c1 (by decide)
    · rw [h2] at c2; exact absurd c2 (by decide)
  · exact absurd e (by decide)
  · exact absurd e (by decide)
  · exact absurd e (by decide)
theorem ob_n1 {g : Int → Int → Bool} {i j : Int} {b : Bool} (h1 : g (i - 1) j = b) (h2 : b = false ∨ g (i + 1) j = true) : ¬ OB g i j 1 := by
  rintro (⟨e, -⟩ | ⟨-, -, c1, c2⟩ | ⟨e, -⟩ | ⟨e, -⟩)
  · exact absurd e (by decide)
  · rcases h2 with h2 | h2
    · rw [h1, h2] at c1; exact absurd c1 (by decide)
    · rw [h2] at c2; exact absurd c2 (by decide)
  · exact absurd e (by decide)
  · exact absurd e (by decide)
theorem ob_n2 {g : Int → Int → Bool} {i j : Int} {b : Bool} (h1 : g i (j - 1) = b) (h2 : b = false ∨ g i (j + 1) = true) : ¬ OB g i j 2 := by
  rintro (⟨e, -⟩ | ⟨e, -⟩ | ⟨-, -, c1, c2⟩ | ⟨e, -⟩)
  · exact absurd e (by decide)
  · exact absurd e (by decide)
  · rcases h2 with h2 | h2
    · rw [h1, h2] at c1; exact absurd c1 (by decide)
    · rw [h2] at c2; exact absurd c2 (by decide)
  · exact absurd e (by decide)
theorem ob_n3 {g : Int → Int → Bool} {i j : Int} {b : Bool} (h1 : g (i + 1) j = b) (h2 : b = false ∨ g (i - 1) j = true) : ¬ OB g i j 3 := by
  rintro (⟨e, -⟩ | ⟨e, -⟩ | ⟨e, -⟩ | ⟨-, -, c1, c2⟩)
  · exact absurd e (by decide)
  · exact absurd e (by decide)
  · exact absurd e (by decide)
  · rcases h2 with h2 | h2
    · rw [h1, h2] at c1; exact absurd c1 (by decide)
    · rw [h2] at c2; exact absurd c2 (by decide)
theorem fo_0 {post : Int32 → Prop} (Q : YP ly S) (H : HS S) {lv : Int} (hl : 0 ≤ lv ∧ lv ≤ 5) (C : clo (S lv)) {i j : Int} (o : i % 2 = 1 ∧ j % 2 = 0) (c1 : S lv (i) (j + 1) = true) (c2 : S lv (i) (j - 1) = false)
    (f : post (zI (25 * nxI (S lv) i j 0 + nxJ (S lv) i j 0))) : ∃ N, wY_following_95 post (zI lv) (zI (cL i j 0)) (zI (i + eaD 0)) (zI (j + noD 0)) c ly fi ma se px py la N (-1) 1 := by
  have Hl : Sup (S lv) := fun i j => H lv i j
  have gd := Hl _ _ c1
  have p1 : i + eaD 0 = i + 1 := by show i + 1 = i + 1; omega
  have p2 : j + noD 0 = j := by show j + 0 = j; omega
  have pc : cL i j 0 = 25 * (i) + (j + 1) := by show 25 * (i + 0) + (j + 1) = 25 * (i) + (j + 1); omega
  unfold nxI nxJ at f
  rw [p1, p2, pc]
  refine ⟨5, ?_⟩
  cases hA : S lv (i + 2) (j + 1)
  · cases hB : S lv (i + 2) (j - 1)
    · have e : nD (S lv) i j 0 = 1 := by unfold nD; rw [if_pos (ga hA (by show i + 2 * 1 + 0 = i + 2; omega) (by show j + 2 * 0 + 1 = j + 1; omega))]; rfl
      have z1 : i + (eaD 0 + eaD 1) = i + 1 := by show i + (1 + 0) = i + 1; omega
      have z2 : j + (noD 0 + noD 1) = j + 1 := by show j + (0 + 1) = j + 1; omega
      rw [e, z1, z2] at f
      have x01 : i + 1 + eaD 0 = i + 2 := by show i + 1 + 1 = i + 2; omega
      have x02 : j + noD 0 = j := by show j + 0 = j; omega
      refine fo_s (e := 0) (v0 := -1) (pi := i + 1) (pj := j) (ce := 25 * (i) + (j + 1)) Q H hl C (by omega) (by omega) (by omega) (by omega) (by omega) (fun ho hv => ?_) (fun hm => ?_)
      · rw [x01, x02] at ho; exact absurd ho (ob_n0 (ga hA (by omega) (by omega)) (Or.inl rfl))
      have x11 : i + 1 + eaD 1 = i + 1 := by show i + 1 + 0 = i + 1; omega
      have x12 : j + noD 1 = j + 1 := by show j + 1 = j + 1; omega
      refine fo_s (e := 1) (v0 := -1) (pi := i + 1) (pj := j) (ce := 25 * (i) + (j + 1)) Q H hl C (by omega) (by omega) (by omega) (by omega) (by omega) (fun ho hv => ?_) (fun hm => ?_)
      rotate_left
      · exact absurd ⟨by rw [x11, x12]; exact (Or.inr (Or.inl ⟨rfl, ⟨by omega, by omega⟩, ga c1 (by omega) (by omega), ga hA (by omega) (by omega)⟩)), Or.inl (by omega)⟩ hm
      rw [x11, x12]
      have x21 : i + 1 + eaD 2 = i := by show i + 1 + -1 = i; omega
      have x22 : j + noD 2 = j := by show j + 0 = j; omega
      refine fo_s (e := 2) (v0 := 25 * (i + 1) + (j + 1)) (pi := i + 1) (pj := j) (ce := 25 * (i) + (j + 1)) Q H hl C (by omega) (by omega) (by omega) (by omega) (by omega) (fun ho hv => ?_) (fun hm => ?_)
      · rw [x21, x22] at ho; exact absurd ho (ob_n2 (ga c2 (by omega) (by omega)) (Or.inl rfl))
      have x31 : i + 1 + eaD 3 = i + 1 := by show i + 1 + 0 = i + 1; omega
      have x32 : j + noD 3 = j - 1 := by show j + -1 = j - 1; omega
      refine fo_s (e := 3) (v0 := 25 * (i + 1) + (j + 1)) (pi := i + 1) (pj := j) (ce := 25 * (i) + (j + 1)) Q H hl C (by omega) (by omega) (by omega) (by omega) (by omega) (fun ho hv => ?_) (fun hm => ?_)
      · rw [x31, x32] at ho; exact absurd ho (ob_n3 (ga hB (by omega) (by omega)) (Or.inl rfl))
      exact zb_le 5 (3 + 1 + 1) (fun _ => f) (fun z => absurd z (by omega))
    · have e : nD (S lv) i j 0 = 1 := by unfold nD; rw [if_pos (ga hA (by show i + 2 * 1 + 0 = i + 2; omega) (by show j + 2 * 0 + 1 = j + 1; omega))]; rfl
      have z1 : i + (eaD 0 + eaD 1) = i + 1 := by show i + (1 + 0) = i + 1; omega
      have z2 : j + (noD 0 + noD 1) = j + 1 := by show j + (0 + 1) = j + 1; omega
      rw [e, z1, z2] at f
      have gB := Hl _ _ hB
      have x01 : i + 1 + eaD 0 = i + 2 := by show i + 1 + 1 = i + 2; omega
      have x02 : j + noD 0 = j := by show j + 0 = j; omega
      refine fo_s (e := 0) (v0 := -1) (pi := i + 1) (pj := j) (ce := 25 * (i) + (j + 1)) Q H hl C (by omega) (by omega) (by omega) (by omega) (by omega) (fun ho hv => ?_) (fun hm => ?_)
      · rw [x01, x02] at ho; exact absurd ho (ob_n0 (ga hA (by omega) (by omega)) (Or.inl rfl))
      have x11 : i + 1 + eaD 1 = i + 1 := by show i + 1 + 0 = i + 1; omega
      have x12 : j + noD 1 = j + 1 := by show j + 1 = j + 1; omega
      refine fo_s (e := 1) (v0 := -1) (pi := i + 1) (pj := j) (ce := 25 * (i) + (j + 1)) Q H hl C (by omega) (by omega) (by omega) (by omega) (by omega) (fun ho hv => ?_) (fun hm => ?_)
      rotate_left
      · exact absurd ⟨by rw [x11, x12]; exact (Or.inr (Or.inl ⟨rfl, ⟨by omega, by omega⟩, ga c1 (by omega) (by omega), ga hA (by omega) (by omega)⟩)), Or.inl (by omega)⟩ hm
      rw [x11, x12]
      have x21 : i + 1 + eaD 2 = i := by show i + 1 + -1 = i; omega
      have x22 : j + noD 2 = j := by show j + 0 = j; omega
      refine fo_s (e := 2) (v0 := 25 * (i + 1) + (j + 1)) (pi := i + 1) (pj := j) (ce := 25 * (i) + (j + 1)) Q H hl C (by omega) (by omega) (by omega) (by omega) (by omega) (fun ho hv => ?_) (fun hm => ?_)
      · rw [x21, x22] at ho; exact absurd ho (ob_n2 (ga c2 (by omega) (by omega)) (Or.inl rfl))
      have x31 : i + 1 + eaD 3 = i + 1 := by show i + 1 + 0 = i + 1; omega
      have x32 : j + noD 3 = j - 1 := by show j + -1 = j - 1; omega
      refine fo_s (e := 3) (v0 := 25 * (i + 1) + (j + 1)) (pi := i + 1) (pj := j) (ce := 25 * (i) + (j + 1)) Q H hl C (by omega) (by omega) (by omega) (by omega) (by omega) (fun ho hv => ?_) (fun hm => ?_)
      · rw [x31, x32] at hv
        exact hv.elim (fun w => absurd w (by omega)) (fun w => absurd (show 25 * (i + 1 + 1) + (j - 1 + 0) = 25 * (i) + (j + 1) from w) (by omega))
      exact zb_le 5 (3 + 1 + 1) (fun _ => f) (fun z => absurd z (by omega))
  · cases hB : S lv (i + 2) (j - 1)
    · have e : nD (S lv) i j 0 = 0 := by unfold nD; rw [if_neg (fun z => absurd ((ga hA (by show i + 2 * 1 + 0 = i + 2; omega) (by show j + 2 * 0 + 1 = j + 1; omega)).symm.trans z) (by decide)), if_neg (fun z => absurd ((ga hB (by show i + 2 * 1 + 0 = i + 2; omega) (by show j + 2 * 0 + -1 = j - 1; omega)).symm.trans z) (by decide))]
      have z1 : i + (eaD 0 + eaD 0) = i + 2 := by show i + (1 + 1) = i + 2; omega
      have z2 : j + (noD 0 + noD 0) = j := by show j + (0 + 0) = j; omega
      rw [e, z1, z2] at f
      have gA := Hl _ _ hA
      have x01 : i + 1 + eaD 0 = i + 2 := by show i + 1 + 1 = i + 2; omega
      have x02 : j + noD 0 = j := by show j + 0 = j; omega
      refine fo_s (e := 0) (v0 := -1) (pi := i + 1) (pj := j) (ce := 25 * (i) + (j + 1)) Q H hl C (by omega) (by omega) (by omega) (by omega) (by omega) (fun ho hv => ?_) (fun hm => ?_)
      rotate_left
      · exact absurd ⟨by rw [x01, x02]; exact (Or.inl ⟨rfl, ⟨by omega, by omega⟩, ga hA (by omega) (by omega), ga hB (by omega) (by omega)⟩), Or.inl (by omega)⟩ hm
      rw [x01, x02]
      have x11 : i + 1 + eaD 1 = i + 1 := by show i + 1 + 0 = i + 1; omega
      have x12 : j + noD 1 = j + 1 := by show j + 1 = j + 1; omega
      refine fo_s (e := 1) (v0 := 25 * (i + 2) + (j)) (pi := i + 1) (pj := j) (ce := 25 * (i) + (j + 1)) Q H hl C (by omega) (by omega) (by omega) (by omega) (by omega) (fun ho hv => ?_) (fun hm => ?_)
      · rw [x11, x12] at ho; exact absurd ho (ob_n1 rfl (Or.inr (ga hA (by omega) (by omega))))
      have x21 : i + 1 + eaD 2 = i := by show i + 1 + -1 = i; omega
      have x22 : j + noD 2 = j := by show j + 0 = j; omega
      refine fo_s (e := 2) (v0 := 25 * (i + 2) + (j)) (pi := i + 1) (pj := j) (ce := 25 * (i) + (j + 1)) Q H hl C (by omega) (by omega) (by omega) (by omega) (by omega) (fun ho hv => ?_) (fun hm => ?_)
      · rw [x21, x22] at ho; exact absurd ho (ob_n2 (ga c2 (by omega) (by omega)) (Or.inl rfl))
      have x31 : i + 1 + eaD 3 = i + 1 := by show i + 1 + 0 = i + 1; omega
      have x32 : j + noD 3 = j - 1 := by show j + -1 = j - 1; omega
      refine fo_s (e := 3) (v0 := 25 * (i + 2) + (j)) (pi := i + 1) (pj := j) (ce := 25 * (i) + (j + 1)) Q H hl C (by omega) (by omega) (by omega) (by omega) (by omega) (fun ho hv => ?_) (fun hm => ?_)
      · rw [x31, x32] at ho; exact absurd ho (ob_n3 (ga hB (by omega) (by omega)) (Or.inl rfl))
      exact zb_le 5 (3 + 1 + 1) (fun _ => f) (fun z => absurd z (by omega))
    · have e : nD (S lv) i j 0 = 3 := by unfold nD; rw [if_neg (fun z => absurd ((ga hA (by show i + 2 * 1 + 0 = i + 2; omega) (by show j + 2 * 0 + 1 = j + 1; omega)).symm.trans z) (by decide)), if_pos (ga hB (by show i + 2 * 1 + 0 = i + 2; omega) (by show j + 2 * 0 + -1 = j - 1; omega))]; rfl
      have z1 : i + (eaD 0 + eaD 3) = i + 1 := by show i + (1 + 0) = i + 1; omega
      have z2 : j + (noD 0 + noD 3) = j - 1 := by show j + (0 + -1) = j - 1; omega
      rw [e, z1, z2] at f
      have gA := Hl _ _ hA
      have gB := Hl _ _ hB
      have x01 : i + 1 + eaD 0 = i + 2 := by show i + 1 + 1 = i + 2; omega
      have x02 : j + noD 0 = j := by show j + 0 = j; omega
      refine fo_s (e := 0) (v0 := -1) (pi := i + 1) (pj := j) (ce := 25 * (i) + (j + 1)) Q H hl C (by omega) (by omega) (by omega) (by omega) (by omega) (fun ho hv => ?_) (fun hm => ?_)
      · rw [x01, x02] at ho; exact absurd ho (ob_n0 rfl (Or.inr (ga hB (by omega) (by omega))))
      have x11 : i + 1 + eaD 1 = i + 1 := by show i + 1 + 0 = i + 1; omega
      have x12 : j + noD 1 = j + 1 := by show j + 1 = j + 1; omega
      refine fo_s (e := 1) (v0 := -1) (pi := i + 1) (pj := j) (ce := 25 * (i) + (j + 1)) Q H hl C (by omega) (by omega) (by omega) (by omega) (by omega) (fun ho hv => ?_) (fun hm => ?_)
      · rw [x11, x12] at ho; exact absurd ho (ob_n1 rfl (Or.inr (ga hA (by omega) (by omega))))
      have x21 : i + 1 + eaD 2 = i := by show i + 1 + -1 = i; omega
      have x22 : j + noD 2 = j := by show j + 0 = j; omega
      refine fo_s (e := 2) (v0 := -1) (pi := i + 1) (pj := j) (ce := 25 * (i) + (j + 1)) Q H hl C (by omega) (by omega) (by omega) (by omega) (by omega) (fun ho hv => ?_) (fun hm => ?_)
      · rw [x21, x22] at ho; exact absurd ho (ob_n2 (ga c2 (by omega) (by omega)) (Or.inl rfl))
      have x31 : i + 1 + eaD 3 = i + 1 := by show i + 1 + 0 = i + 1; omega
      have x32 : j + noD 3 = j - 1 := by show j + -1 = j - 1; omega
      refine fo_s (e := 3) (v0 := -1) (pi := i + 1) (pj := j) (ce := 25 * (i) + (j + 1)) Q H hl C (by omega) (by omega) (by omega) (by omega) (by omega) (fun ho hv => ?_) (fun hm => ?_)
      rotate_left
      · exact absurd ⟨by rw [x31, x32]; exact (Or.inr (Or.inr (Or.inr ⟨rfl, ⟨by omega, by omega⟩, ga hB (by omega) (by omega), ga c2 (by omega) (by omega)⟩))), Or.inl (by omega)⟩ hm
      rw [x31, x32]
      exact zb_le 5 (3 + 1 + 1) (fun _ => f) (fun z => absurd z (by omega))
theorem fo_1 {post : Int32 → Prop} (Q : YP ly S) (H : HS S) {lv : Int} (hl : 0 ≤ lv ∧ lv ≤ 5) (C : clo (S lv)) {i j : Int} (o : i % 2 = 0 ∧ j % 2 = 1) (c1 : S lv (i - 1) (j) = true) (c2 : S lv (i + 1) (j) = false)
    (f : post (zI (25 * nxI (S lv) i j 1 + nxJ (S lv) i j 1))) : ∃ N, wY_following_95 post (zI lv) (zI (cL i j 1)) (zI (i + eaD 1)) (zI (j + noD 1)) c ly fi ma se px py la N (-1) 1 := by
  have Hl : Sup (S lv) := fun i j => H lv i j
  have gd := Hl _ _ c1
  have p1 : i + eaD 1 = i := by show i + 0 = i; omega
  have p2 : j + noD 1 = j + 1 := by show j + 1 = j + 1; omega
  have pc : cL i j 1 = 25 * (i - 1) + (j) := by show 25 * (i + -1) + (j + 0) = 25 * (i - 1) + (j); omega
  unfold nxI nxJ at f
  rw [p1, p2, pc]
  refine ⟨5, ?_⟩
  cases hA : S lv (i - 1) (j + 2)
  · cases hB : S lv (i + 1) (j + 2)
    · have e : nD (S lv) i j 1 = 2 := by unfold nD; rw [if_pos (ga hA (by show i + 2 * 0 + -1 = i - 1; omega) (by show j + 2 * 1 + 0 = j + 2; omega))]; rfl
      have z1 : i + (eaD 1 + eaD 2) = i - 1 := by show i + (0 + -1) = i - 1; omega
      have z2 : j + (noD 1 + noD 2) = j + 1 := by show j + (1 + 0) = j + 1; omega
      rw [e, z1, z2] at f
      have x01 : i + eaD 0 = i + 1 := by show i + 1 = i + 1; omega
      have x02 : j + 1 + noD 0 = j + 1 := by show j + 1 + 0 = j + 1; omega
      refine fo_s (e := 0) (v0 := -1) (pi := i) (pj := j + 1) (ce := 25 * (i - 1) + (j)) Q H hl C (by omega) (by omega) (by omega) (by omega) (by omega) (fun ho hv => ?_) (fun hm => ?_)
      · rw [x01, x02] at ho; exact absurd ho (ob_n0 (ga hB (by omega) (by omega)) (Or.inl rfl))
      have x11 : i + eaD 1 = i := by show i + 0 = i; omega
      have x12 : j + 1 + noD 1 = j + 2 := by show j + 1 + 1 = j + 2; omega
      refine fo_s (e := 1) (v0 := -1) (pi := i) (pj := j + 1) (ce := 25 * (i - 1) + (j)) Q H hl C (by omega) (by omega) (by omega) (by omega) (by omega) (fun ho hv => ?_) (fun hm => ?_)
      · rw [x11, x12] at ho; exact absurd ho (ob_n1 (ga hA (by omega) (by omega)) (Or.inl rfl))
      have x21 : i + eaD 2 = i - 1 := by show i + -1 = i - 1; omega
      have x22 : j + 1 + noD 2 = j + 1 := by show j + 1 + 0 = j + 1; omega
      refine fo_s (e := 2) (v0 := -1) (pi := i) (pj := j + 1) (ce := 25 * (i - 1) + (j)) Q H hl C (by omega) (by omega) (by omega) (by omega) (by omega) (fun ho hv => ?_) (fun hm => ?_)
      rotate_left
      · exact absurd ⟨by rw [x21, x22]; exact (Or.inr (Or.inr (Or.inl ⟨rfl, ⟨by omega, by omega⟩, ga c1 (by omega) (by omega), ga hA (by omega) (by omega)⟩))), Or.inl (by omega)⟩ hm
      rw [x21, x22]
      have x31 : i + eaD 3 = i := by show i + 0 = i; omega
      have x32 : j + 1 + noD 3 = j := by show j + 1 + -1 = j; omega
      refine fo_s (e := 3) (v0 := 25 * (i - 1) + (j + 1)) (pi := i) (pj := j + 1) (ce := 25 * (i - 1) + (j)) Q H hl C (by omega) (by omega) (by omega) (by omega) (by omega) (fun ho hv => ?_) (fun hm => ?_)
      · rw [x31, x32] at ho; exact absurd ho (ob_n3 (ga c2 (by omega) (by omega)) (Or.inl rfl))
      exact zb_le 5 (3 + 1 + 1) (fun _ => f) (fun z => absurd z (by omega))
    · have e : nD (S lv) i j 1 = 2 := by unfold nD; rw [if_pos (ga hA (by show i + 2 * 0 + -1 = i - 1; omega) (by show j + 2 * 1 + 0 = j + 2; omega))]; rfl
      have z1 : i + (eaD 1 + eaD 2) = i - 1 := by show i + (0 + -1) = i - 1; omega
      have z2 : j + (noD 1 + noD 2) = j + 1 := by show j + (1 + 0) = j + 1; omega
      rw [e, z1, z2] at f
      have gB := Hl _ _ hB
      have x01 : i + eaD 0 = i + 1 := by show i + 1 = i + 1; omega
      have x02 : j + 1 + noD 0 = j + 1 := by show j + 1 + 0 = j + 1; omega
      refine fo_s (e := 0) (v0 := -1) (pi := i) (pj := j + 1) (ce := 25 * (i - 1) + (j)) Q H hl C (by omega) (by omega) (by omega) (by omega) (by omega) (fun ho hv => ?_) (fun hm => ?_)
      rotate_left
      · exact absurd ⟨by rw [x01, x02]; exact (Or.inl ⟨rfl, ⟨by omega, by omega⟩, ga hB (by omega) (by omega), ga c2 (by omega) (by omega)⟩), Or.inl (by omega)⟩ hm
      rw [x01, x02]
      have x11 : i + eaD 1 = i := by show i + 0 = i; omega
      have x12 : j + 1 + noD 1 = j + 2 := by show j + 1 + 1 = j + 2; omega
      refine fo_s (e := 1) (v0 := 25 * (i + 1) + (j + 1)) (pi := i) (pj := j + 1) (ce := 25 * (i - 1) + (j)) Q H hl C (by omega) (by omega) (by omega) (by omega) (by omega) (fun ho hv => ?_) (fun hm => ?_)
      · rw [x11, x12] at ho; exact absurd ho (ob_n1 (ga hA (by omega) (by omega)) (Or.inl rfl))
      have x21 : i + eaD 2 = i - 1 := by show i + -1 = i - 1; omega
      have x22 : j + 1 + noD 2 = j + 1 := by show j + 1 + 0 = j + 1; omega
      refine fo_s (e := 2) (v0 := 25 * (i + 1) + (j + 1)) (pi := i) (pj := j + 1) (ce := 25 * (i - 1) + (j)) Q H hl C (by omega) (by omega) (by omega) (by omega) (by omega) (fun ho hv => ?_) (fun hm => ?_)
      rotate_left
      · exact absurd ⟨by rw [x21, x22]; exact (Or.inr (Or.inr (Or.inl ⟨rfl, ⟨by omega, by omega⟩, ga c1 (by omega) (by omega), ga hA (by omega) (by omega)⟩))), Or.inr (by rw [x21, x22]; show 25 * (i - 1 + 0) + (j + 1 + -1) = _; omega)⟩ hm
      rw [x21, x22]
      have x31 : i + eaD 3 = i := by show i + 0 = i; omega
      have x32 : j + 1 + noD 3 = j := by show j + 1 + -1 = j; omega
      refine fo_s (e := 3) (v0 := 25 * (i - 1) + (j + 1)) (pi := i) (pj := j + 1) (ce := 25 * (i - 1) + (j)) Q H hl C (by omega) (by omega) (by omega) (by omega) (by omega) (fun ho hv => ?_) (fun hm => ?_)
      · rw [x31, x32] at ho; exact absurd ho (ob_n3 (ga c2 (by omega) (by omega)) (Or.inl rfl))
      exact zb_le 5 (3 + 1 + 1) (fun _ => f) (fun z => absurd z (by omega))
  · cases hB : S lv (i + 1) (j + 2)
    · have e : nD (S lv) i j 1 = 1 := by unfold nD; rw [if_neg (fun z => absurd ((ga hA (by show i + 2 * 0 + -1 = i - 1; omega) (by show j + 2 * 1 + 0 = j + 2; omega)).symm.trans z) (by decide)), if_neg (fun z => absurd ((ga hB (by show i + 2 * 0 + 1 = i + 1; omega) (by show j + 2 * 1 + 0 = j + 2; omega)).symm.trans z) (by decide))]
      have z1 : i + (eaD 1 + eaD 1) = i := by show i + (0 + 0) = i; omega
      have z2 : j + (noD 1 + noD 1) = j + 2 := by show j + (1 + 1) = j + 2; omega
      rw [e, z1, z2] at f
      have gA := Hl _ _ hA
      have x01 : i + eaD 0 = i + 1 := by show i + 1 = i + 1; omega
      have x02 : j + 1 + noD 0 = j + 1 := by show j + 1 + 0 = j + 1; omega
      refine fo_s (e := 0) (v0 := -1) (pi := i) (pj := j + 1) (ce := 25 * (i - 1) + (j)) Q H hl C (by omega) (by omega) (by omega) (by omega) (by omega) (fun ho hv => ?_) (fun hm => ?_)
      · rw [x01, x02] at ho; exact absurd ho (ob_n0 (ga hB (by omega) (by omega)) (Or.inl rfl))
      have x11 : i + eaD 1 = i := by show i + 0 = i; omega
      have x12 : j + 1 + noD 1 = j + 2 := by show j + 1 + 1 = j + 2; omega
      refine fo_s (e := 1) (v0 := -1) (pi := i) (pj := j + 1) (ce := 25 * (i - 1) + (j)) Q H hl C (by omega) (by omega) (by omega) (by omega) (by omega) (fun ho hv => ?_) (fun hm => ?_)
      rotate_left
      · exact absurd ⟨by rw [x11, x12]; exact (Or.inr (Or.inl ⟨rfl, ⟨by omega, by omega⟩, ga hA (by omega) (by omega), ga hB (by omega) (by omega)⟩)), Or.inl (by omega)⟩ hm
      rw [x11, x12]
      have x21 : i + eaD 2 = i - 1 := by show i + -1 = i - 1; omega
      have x22 : j + 1 + noD 2 = j + 1 := by show j + 1 + 0 = j + 1; omega
      refine fo_s (e := 2) (v0 := 25 * (i) + (j + 2)) (pi := i) (pj := j + 1) (ce := 25 * (i - 1) + (j)) Q H hl C (by omega) (by omega) (by omega) (by omega) (by omega) (fun ho hv => ?_) (fun hm => ?_)
      · rw [x21, x22] at ho; exact absurd ho (ob_n2 rfl (Or.inr (ga hA (by omega) (by omega))))
      have x31 : i + eaD 3 = i := by show i + 0 = i; omega
      have x32 : j + 1 + noD 3 = j := by show j + 1 + -1 = j; omega
      refine fo_s (e := 3) (v0 := 25 * (i) + (j + 2)) (pi := i) (pj := j + 1) (ce := 25 * (i - 1) + (j)) Q H hl C (by omega) (by omega) (by omega) (by omega) (by omega) (fun ho hv => ?_) (fun hm => ?_)
      · rw [x31, x32] at ho; exact absurd ho (ob_n3 (ga c2 (by omega) (by omega)) (Or.inl rfl))
      exact zb_le 5 (3 + 1 + 1) (fun _ => f) (fun z => absurd z (by omega))
    · have e : nD (S lv) i j 1 = 0 := by unfold nD; rw [if_neg (fun z => absurd ((ga hA (by show i + 2 * 0 + -1 = i - 1; omega) (by show j + 2 * 1 + 0 = j + 2; omega)).symm.trans z) (by decide)), if_pos (ga hB (by show i + 2 * 0 + 1 = i + 1; omega) (by show j + 2 * 1 + 0 = j + 2; omega))]; rfl
      have z1 : i + (eaD 1 + eaD 0) = i + 1 := by show i + (0 + 1) = i + 1; omega
      have z2 : j + (noD 1 + noD 0) = j + 1 := by show j + (1 + 0) = j + 1; omega
      rw [e, z1, z2] at f
      have gA := Hl _ _ hA
      have gB := Hl _ _ hB
      have x01 : i + eaD 0 = i + 1 := by show i + 1 = i + 1; omega
      have x02 : j + 1 + noD 0 = j + 1 := by show j + 1 + 0 = j + 1; omega
      refine fo_s (e := 0) (v0 := -1) (pi := i) (pj := j + 1) (ce := 25 * (i - 1) + (j)) Q H hl C (by omega) (by omega) (by omega) (by omega) (by omega) (fun ho hv => ?_) (fun hm => ?_)
      rotate_left
      · exact absurd ⟨by rw [x01, x02]; exact (Or.inl ⟨rfl, ⟨by omega, by omega⟩, ga hB (by omega) (by omega), ga c2 (by omega) (by omega)⟩), Or.inl (by omega)⟩ hm
      rw [x01, x02]
      have x11 : i + eaD 1 = i := by show i + 0 = i; omega
      have x12 : j + 1 + noD 1 = j + 2 := by show j + 1 + 1 = j + 2; omega
      refine fo_s (e := 1) (v0 := 25 * (i + 1) + (j + 1)) (pi := i) (pj := j + 1) (ce := 25 * (i - 1) + (j)) Q H hl C (by omega) (by omega) (by omega) (by omega) (by omega) (fun ho hv => ?_) (fun hm => ?_)
      · rw [x11, x12] at ho; exact absurd ho (ob_n1 rfl (Or.inr (ga hB (by omega) (by omega))))
      have x21 : i + eaD 2 = i - 1 := by show i + -1 = i - 1; omega
      have x22 : j + 1 + noD 2 = j + 1 := by show j + 1 + 0 = j + 1; omega
      refine fo_s (e := 2) (v0 := 25 * (i + 1) + (j + 1)) (pi := i) (pj := j + 1) (ce := 25 * (i - 1) + (j)) Q H hl C (by omega) (by omega) (by omega) (by omega) (by omega) (fun ho hv => ?_) (fun hm => ?_)
      · rw [x21, x22] at ho; exact absurd ho (ob_n2 rfl (Or.inr (ga hA (by omega) (by omega))))
      have x31 : i + eaD 3 = i := by show i + 0 = i; omega
      have x32 : j + 1 + noD 3 = j := by show j + 1 + -1 = j; omega
      refine fo_s (e := 3) (v0 := 25 * (i + 1) + (j + 1)) (pi := i) (pj := j + 1) (ce := 25 * (i - 1) + (j)) Q H hl C (by omega) (by omega) (by omega) (by omega) (by omega) (fun ho hv => ?_) (fun hm => ?_)
      · rw [x31, x32] at ho; exact absurd ho (ob_n3 (ga c2 (by omega) (by omega)) (Or.inl rfl))
      exact zb_le 5 (3 + 1 + 1) (fun _ => f) (fun z => absurd z (by omega))
theorem fo_2 {post : Int32 → Prop} (Q : YP ly S) (H : HS S) {lv : Int} (hl : 0 ≤ lv ∧ lv ≤ 5) (C : clo (S lv)) {i j : Int} (o : i % 2 = 1 ∧ j % 2 = 0) (c1 : S lv (i) (j - 1) = true) (c2 : S lv (i) (j + 1) = false)
    (f : post (zI (25 * nxI (S lv) i j 2 + nxJ (S lv) i j 2))) : ∃ N, wY_following_95 post (zI lv) (zI (cL i j 2)) (zI (i + eaD 2)) (zI (j + noD 2)) c ly fi ma se px py la N (-1) 1 := by
  have Hl : Sup (S lv) := fun i j => H lv i j
  have gd := Hl _ _ c1
  have p1 : i + eaD 2 = i - 1 := by show i + -1 = i - 1; omega
  have p2 : j + noD 2 = j := by show j + 0 = j; omega
  have pc : cL i j 2 = 25 * (i) + (j - 1) := by show 25 * (i + 0) + (j + -1) = 25 * (i) + (j - 1); omega
  unfold nxI nxJ at f
  rw [p1, p2, pc]
  refine ⟨5, ?_⟩
  cases hA : S lv (i - 2) (j - 1)
  · cases hB : S lv (i - 2) (j + 1)
    · have e : nD (S lv) i j 2 = 3 := by unfold nD; rw [if_pos (ga hA (by show i + 2 * -1 + 0 = i - 2; omega) (by show j + 2 * 0 + -1 = j - 1; omega))]; rfl
      have z1 : i + (eaD 2 + eaD 3) = i - 1 := by show i + (-1 + 0) = i - 1; omega
      have z2 : j + (noD 2 + noD 3) = j - 1 := by show j + (0 + -1) = j - 1; omega
      rw [e, z1, z2] at f
      have x01 : i - 1 + eaD 0 = i := by show i - 1 + 1 = i; omega
      have x02 : j + noD 0 = j := by show j + 0 = j; omega
      refine fo_s (e := 0) (v0 := -1) (pi := i - 1) (pj := j) (ce := 25 * (i) + (j - 1)) Q H hl C (by omega) (by omega) (by omega) (by omega) (by omega) (fun ho hv => ?_) (fun hm => ?_)
      · rw [x01, x02] at ho; exact absurd ho (ob_n0 (ga c2 (by omega) (by omega)) (Or.inl rfl))
      have x11 : i - 1 + eaD 1 = i - 1 := by show i - 1 + 0 = i - 1; omega
      have x12 : j + noD 1 = j + 1 := by show j + 1 = j + 1; omega
      refine fo_s (e := 1) (v0 := -1) (pi := i - 1) (pj := j) (ce := 25 * (i) + (j - 1)) Q H hl C (by omega) (by omega) (by omega) (by omega) (by omega) (fun ho hv => ?_) (fun hm => ?_)
      · rw [x11, x12] at ho; exact absurd ho (ob_n1 (ga hB (by omega) (by omega)) (Or.inl rfl))
      have x21 : i - 1 + eaD 2 = i - 2 := by show i - 1 + -1 = i - 2; omega
      have x22 : j + noD 2 = j := by show j + 0 = j; omega
      refine fo_s (e := 2) (v0 := -1) (pi := i - 1) (pj := j) (ce := 25 * (i) + (j - 1)) Q H hl C (by omega) (by omega) (by omega) (by omega) (by omega) (fun ho hv => ?_) (fun hm => ?_)
      · rw [x21, x22] at ho; exact absurd ho (ob_n2 (ga hA (by omega) (by omega)) (Or.inl rfl))
      have x31 : i - 1 + eaD 3 = i - 1 := by show i - 1 + 0 = i - 1; omega
      have x32 : j + noD 3 = j - 1 := by show j + -1 = j - 1; omega
      refine fo_s (e := 3) (v0 := -1) (pi := i - 1) (pj := j) (ce := 25 * (i) + (j - 1)) Q H hl C (by omega) (by omega) (by omega) (by omega) (by omega) (fun ho hv => ?_) (fun hm => ?_)
      rotate_left
      · exact absurd ⟨by rw [x31, x32]; exact (Or.inr (Or.inr (Or.inr ⟨rfl, ⟨by omega, by omega⟩, ga c1 (by omega) (by omega), ga hA (by omega) (by omega)⟩))), Or.inl (by omega)⟩ hm
      rw [x31, x32]
      exact zb_le 5 (3 + 1 + 1) (fun _ => f) (fun z => absurd z (by omega))
    · have e : nD (S lv) i j 2 = 3 := by unfold nD; rw [if_pos (ga hA (by show i + 2 * -1 + 0 = i - 2; omega) (by show j + 2 * 0 + -1 = j - 1; omega))]; rfl
      have z1 : i + (eaD 2 + eaD 3) = i - 1 := by show i + (-1 + 0) = i - 1; omega
      have z2 : j + (noD 2 + noD 3) = j - 1 := by show j + (0 + -1) = j - 1; omega
      rw [e, z1, z2] at f
      have gB := Hl _ _ hB
      have x01 : i - 1 + eaD 0 = i := by show i - 1 + 1 = i; omega
      have x02 : j + noD 0 = j := by show j + 0 = j; omega
      refine fo_s (e := 0) (v0 := -1) (pi := i - 1) (pj := j) (ce := 25 * (i) + (j - 1)) Q H hl C (by omega) (by omega) (by omega) (by omega) (by omega) (fun ho hv => ?_) (fun hm => ?_)
      · rw [x01, x02] at ho; exact absurd ho (ob_n0 (ga c2 (by omega) (by omega)) (Or.inl rfl))
      have x11 : i - 1 + eaD 1 = i - 1 := by show i - 1 + 0 = i - 1; omega
      have x12 : j + noD 1 = j + 1 := by show j + 1 = j + 1; omega
      refine fo_s (e := 1) (v0 := -1) (pi := i - 1) (pj := j) (ce := 25 * (i) + (j - 1)) Q H hl C (by omega) (by omega) (by omega) (by omega) (by omega) (fun ho hv => ?_) (fun hm => ?_)
      rotate_left
      · exact absurd ⟨by rw [x11, x12]; exact (Or.inr (Or.inl ⟨rfl, ⟨by omega, by omega⟩, ga hB (by omega) (by omega), ga c2 (by omega) (by omega)⟩)), Or.inl (by omega)⟩ hm
      rw [x11, x12]
      have x21 : i - 1 + eaD 2 = i - 2 := by show i - 1 + -1 = i - 2; omega
      have x22 : j + noD 2 = j := by show j + 0 = j; omega
      refine fo_s (e := 2) (v0 := 25 * (i - 1) + (j + 1)) (pi := i - 1) (pj := j) (ce := 25 * (i) + (j - 1)) Q H hl C (by omega) (by omega) (by omega) (by omega) (by omega) (fun ho hv => ?_) (fun hm => ?_)
      · rw [x21, x22] at ho; exact absurd ho (ob_n2 (ga hA (by omega) (by omega)) (Or.inl rfl))
      have x31 : i - 1 + eaD 3 = i - 1 := by show i - 1 + 0 = i - 1; omega
      have x32 : j + noD 3 = j - 1 := by show j + -1 = j - 1; omega
      refine fo_s (e := 3) (v0 := 25 * (i - 1) + (j + 1)) (pi := i - 1) (pj := j) (ce := 25 * (i) + (j - 1)) Q H hl C (by omega) (by omega) (by omega) (by omega) (by omega) (fun ho hv => ?_) (fun hm => ?_)
      rotate_left
      · exact absurd ⟨by rw [x31, x32]; exact (Or.inr (Or.inr (Or.inr ⟨rfl, ⟨by omega, by omega⟩, ga c1 (by omega) (by omega), ga hA (by omega) (by omega)⟩))), Or.inr (by rw [x31, x32]; show 25 * (i - 1 + 1) + (j - 1 + 0) = _; omega)⟩ hm
      rw [x31, x32]
      exact zb_le 5 (3 + 1 + 1) (fun _ => f) (fun z => absurd z (by omega))
  · cases hB : S lv (i - 2) (j + 1)
    · have e : nD (S lv) i j 2 = 2 := by unfold nD; rw [if_neg (fun z => absurd ((ga hA (by show i + 2 * -1 + 0 = i - 2; omega) (by show j + 2 * 0 + -1 = j - 1; omega)).symm.trans z) (by decide)), if_neg (fun z => absurd ((ga hB (by show i + 2 * -1 + 0 = i - 2; omega) (by show j + 2 * 0 + 1 = j + 1; omega)).symm.trans z) (by decide))]
      have z1 : i + (eaD 2 + eaD 2) = i - 2 := by show i + (-1 + -1) = i - 2; omega
      have z2 : j + (noD 2 + noD 2) = j := by show j + (0 + 0) = j; omega
      rw [e, z1, z2] at f
      have gA := Hl _ _ hA
      have x01 : i - 1 + eaD 0 = i := by show i - 1 + 1 = i; omega
      have x02 : j + noD 0 = j := by show j + 0 = j; omega
      refine fo_s (e := 0) (v0 := -1) (pi := i - 1) (pj := j) (ce := 25 * (i) + (j - 1)) Q H hl C (by omega) (by omega) (by omega) (by omega) (by omega) (fun ho hv => ?_) (fun hm => ?_)
      · rw [x01, x02] at ho; exact absurd ho (ob_n0 (ga c2 (by omega) (by omega)) (Or.inl rfl))
      have x11 : i - 1 + eaD 1 = i - 1 := by show i - 1 + 0 = i - 1; omega
      have x12 : j + noD 1 = j + 1 := by show j + 1 = j + 1; omega
      refine fo_s (e := 1) (v0 := -1) (pi := i - 1) (pj := j) (ce := 25 * (i) + (j - 1)) Q H hl C (by omega) (by omega) (by omega) (by omega) (by omega) (fun ho hv => ?_) (fun hm => ?_)
      · rw [x11, x12] at ho; exact absurd ho (ob_n1 (ga hB (by omega) (by omega)) (Or.inl rfl))
      have x21 : i - 1 + eaD 2 = i - 2 := by show i - 1 + -1 = i - 2; omega
      have x22 : j + noD 2 = j := by show j + 0 = j; omega
      refine fo_s (e := 2) (v0 := -1) (pi := i - 1) (pj := j) (ce := 25 * (i) + (j - 1)) Q H hl C (by omega) (by omega) (by omega) (by omega) (by omega) (fun ho hv => ?_) (fun hm => ?_)
      rotate_left
      · exact absurd ⟨by rw [x21, x22]; exact (Or.inr (Or.inr (Or.inl ⟨rfl, ⟨by omega, by omega⟩, ga hA (by omega) (by omega), ga hB (by omega) (by omega)⟩))), Or.inl (by omega)⟩ hm
      rw [x21, x22]
      have x31 : i - 1 + eaD 3 = i - 1 := by show i - 1 + 0 = i - 1; omega
      have x32 : j + noD 3 = j - 1 := by show j + -1 = j - 1; omega
      refine fo_s (e := 3) (v0 := 25 * (i - 2) + (j)) (pi := i - 1) (pj := j) (ce := 25 * (i) + (j - 1)) Q H hl C (by omega) (by omega) (by omega) (by omega) (by omega) (fun ho hv => ?_) (fun hm => ?_)
      · rw [x31, x32] at ho; exact absurd ho (ob_n3 rfl (Or.inr (ga hA (by omega) (by omega))))
      exact zb_le 5 (3 + 1 + 1) (fun _ => f) (fun z => absurd z (by omega))
    · have e : nD (S lv) i j 2 = 1 := by unfold nD; rw [if_neg (fun z => absurd ((ga hA (by show i + 2 * -1 + 0 = i - 2; omega) (by show j + 2 * 0 + -1 = j - 1; omega)).symm.trans z) (by decide)), if_pos (ga hB (by show i + 2 * -1 + 0 = i - 2; omega) (by show j + 2 * 0 + 1 = j + 1; omega))]; rfl
      have z1 : i + (eaD 2 + eaD 1) = i - 1 := by show i + (-1 + 0) = i - 1; omega
      have z2 : j + (noD 2 + noD 1) = j + 1 := by show j + (0 + 1) = j + 1; omega
      rw [e, z1, z2] at f
      have gA := Hl _ _ hA
      have gB := Hl _ _ hB
      have x01 : i - 1 + eaD 0 = i := by show i - 1 + 1 = i; omega
      have x02 : j + noD 0 = j := by show j + 0 = j; omega
      refine fo_s (e := 0) (v0 := -1) (pi := i - 1) (pj := j) (ce := 25 * (i) + (j - 1)) Q H hl C (by omega) (by omega) (by omega) (by omega) (by omega) (fun ho hv => ?_) (fun hm => ?_)
      · rw [x01, x02] at ho; exact absurd ho (ob_n0 (ga c2 (by omega) (by omega)) (Or.inl rfl))
      have x11 : i - 1 + eaD 1 = i - 1 := by show i - 1 + 0 = i - 1; omega
      have x12 : j + noD 1 = j + 1 := by show j + 1 = j + 1; omega
      refine fo_s (e := 1) (v0 := -1) (pi := i - 1) (pj := j) (ce := 25 * (i) + (j - 1)) Q H hl C (by omega) (by omega) (by omega) (by omega) (by omega) (fun ho hv => ?_) (fun hm => ?_)
      rotate_left
      · exact absurd ⟨by rw [x11, x12]; exact (Or.inr (Or.inl ⟨rfl, ⟨by omega, by omega⟩, ga hB (by omega) (by omega), ga c2 (by omega) (by omega)⟩)), Or.inl (by omega)⟩ hm
      rw [x11, x12]
      have x21 : i - 1 + eaD 2 = i - 2 := by show i - 1 + -1 = i - 2; omega
      have x22 : j + noD 2 = j := by show j + 0 = j; omega
      refine fo_s (e := 2) (v0 := 25 * (i - 1) + (j + 1)) (pi := i - 1) (pj := j) (ce := 25 * (i) + (j - 1)) Q H hl C (by omega) (by omega) (by omega) (by omega) (by omega) (fun ho hv => ?_) (fun hm => ?_)
      · rw [x21, x22] at ho; exact absurd ho (ob_n2 rfl (Or.inr (ga hB (by omega) (by omega))))
      have x31 : i - 1 + eaD 3 = i - 1 := by show i - 1 + 0 = i - 1; omega
      have x32 : j + noD 3 = j - 1 := by show j + -1 = j - 1; omega
      refine fo_s (e := 3) (v0 := 25 * (i - 1) + (j + 1)) (pi := i - 1) (pj := j) (ce := 25 * (i) + (j - 1)) Q H hl C (by omega) (by omega) (by omega) (by omega) (by omega) (fun ho hv => ?_) (fun hm => ?_)
      · rw [x31, x32] at ho; exact absurd ho (ob_n3 rfl (Or.inr (ga hA (by omega) (by omega))))
      exact zb_le 5 (3 + 1 + 1) (fun _ => f) (fun z => absurd z (by omega))
theorem fo_3 {post : Int32 → Prop} (Q : YP ly S) (H : HS S) {lv : Int} (hl : 0 ≤ lv ∧ lv ≤ 5) (C : clo (S lv)) {i j : Int} (o : i % 2 = 0 ∧ j % 2 = 1) (c1 : S lv (i + 1) (j) = true) (c2 : S lv (i - 1) (j) = false)
    (f : post (zI (25 * nxI (S lv) i j 3 + nxJ (S lv) i j 3))) : ∃ N, wY_following_95 post (zI lv) (zI (cL i j 3)) (zI (i + eaD 3)) (zI (j + noD 3)) c ly fi ma se px py la N (-1) 1 := by
  have Hl : Sup (S lv) := fun i j => H lv i j
  have gd := Hl _ _ c1
  have p1 : i + eaD 3 = i := by show i + 0 = i; omega
  have p2 : j + noD 3 = j - 1 := by show j + -1 = j - 1; omega
  have pc : cL i j 3 = 25 * (i + 1) + (j) := by show 25 * (i + 1) + (j + 0) = 25 * (i + 1) + (j); omega
  unfold nxI nxJ at f
  rw [p1, p2, pc]
  refine ⟨5, ?_⟩
  cases hA : S lv (i + 1) (j - 2)
  · cases hB : S lv (i - 1) (j - 2)
    · have e : nD (S lv) i j 3 = 0 := by unfold nD; rw [if_pos (ga hA (by show i + 2 * 0 + 1 = i + 1; omega) (by show j + 2 * -1 + 0 = j - 2; omega))]; rfl
      have z1 : i + (eaD 3 + eaD 0) = i + 1 := by show i + (0 + 1) = i + 1; omega
      have z2 : j + (noD 3 + noD 0) = j - 1 := by show j + (-1 + 0) = j - 1; omega
      rw [e, z1, z2] at f
      have x01 : i + eaD 0 = i + 1 := by show i + 1 = i + 1; omega
      have x02 : j - 1 + noD 0 = j - 1 := by show j - 1 + 0 = j - 1; omega
      refine fo_s (e := 0) (v0 := -1) (pi := i) (pj := j - 1) (ce := 25 * (i + 1) + (j)) Q H hl C (by omega) (by omega) (by omega) (by omega) (by omega) (fun ho hv => ?_) (fun hm => ?_)
      rotate_left
      · exact absurd ⟨by rw [x01, x02]; exact (Or.inl ⟨rfl, ⟨by omega, by omega⟩, ga c1 (by omega) (by omega), ga hA (by omega) (by omega)⟩), Or.inl (by omega)⟩ hm
      rw [x01, x02]
      have x11 : i + eaD 1 = i := by show i + 0 = i; omega
      have x12 : j - 1 + noD 1 = j := by show j - 1 + 1 = j; omega
      refine fo_s (e := 1) (v0 := 25 * (i + 1) + (j - 1)) (pi := i) (pj := j - 1) (ce := 25 * (i + 1) + (j)) Q H hl C (by omega) (by omega) (by omega) (by omega) (by omega) (fun ho hv => ?_) (fun hm => ?_)
      · rw [x11, x12] at ho; exact absurd ho (ob_n1 (ga c2 (by omega) (by omega)) (Or.inl rfl))
      have x21 : i + eaD 2 = i - 1 := by show i + -1 = i - 1; omega
      have x22 : j - 1 + noD 2 = j - 1 := by show j - 1 + 0 = j - 1; omega
      refine fo_s (e := 2) (v0 := 25 * (i + 1) + (j - 1)) (pi := i) (pj := j - 1) (ce := 25 * (i + 1) + (j)) Q H hl C (by omega) (by omega) (by omega) (by omega) (by omega) (fun ho hv => ?_) (fun hm => ?_)
      · rw [x21, x22] at ho; exact absurd ho (ob_n2 (ga hB (by omega) (by omega)) (Or.inl rfl))
      have x31 : i + eaD 3 = i := by show i + 0 = i; omega
      have x32 : j - 1 + noD 3 = j - 2 := by show j - 1 + -1 = j - 2; omega
      refine fo_s (e := 3) (v0 := 25 * (i + 1) + (j - 1)) (pi := i) (pj := j - 1) (ce := 25 * (i + 1) + (j)) Q H hl C (by omega) (by omega) (by omega) (by omega) (by omega) (fun ho hv => ?_) (fun hm => ?_)
      · rw [x31, x32] at ho; exact absurd ho (ob_n3 (ga hA (by omega) (by omega)) (Or.inl rfl))
      exact zb_le 5 (3 + 1 + 1) (fun _ => f) (fun z => absurd z (by omega))
    · have e : nD (S lv) i j 3 = 0 := by unfold nD; rw [if_pos (ga hA (by show i + 2 * 0 + 1 = i + 1; omega) (by show j + 2 * -1 + 0 = j - 2; omega))]; rfl
      have z1 : i + (eaD 3 + eaD 0) = i + 1 := by show i + (0 + 1) = i + 1; omega
      have z2 : j + (noD 3 + noD 0) = j - 1 := by show j + (-1 + 0) = j - 1; omega
      rw [e, z1, z2] at f
      have gB := Hl _ _ hB
      have x01 : i + eaD 0 = i + 1 := by show i + 1 = i + 1; omega
      have x02 : j - 1 + noD 0 = j - 1 := by show j - 1 + 0 = j - 1; omega
      refine fo_s (e := 0) (v0 := -1) (pi := i) (pj := j - 1) (ce := 25 * (i + 1) + (j)) Q H hl C (by omega) (by omega) (by omega) (by omega) (by omega) (fun ho hv => ?_) (fun hm => ?_)
      rotate_left
      · exact absurd ⟨by rw [x01, x02]; exact (Or.inl ⟨rfl, ⟨by omega, by omega⟩, ga c1 (by omega) (by omega), ga hA (by omega) (by omega)⟩), Or.inl (by omega)⟩ hm
      rw [x01, x02]
      have x11 : i + eaD 1 = i := by show i + 0 = i; omega
      have x12 : j - 1 + noD 1 = j := by show j - 1 + 1 = j; omega
      refine fo_s (e := 1) (v0 := 25 * (i + 1) + (j - 1)) (pi := i) (pj := j - 1) (ce := 25 * (i + 1) + (j)) Q H hl C (by omega) (by omega) (by omega) (by omega) (by omega) (fun ho hv => ?_) (fun hm => ?_)
      · rw [x11, x12] at ho; exact absurd ho (ob_n1 (ga c2 (by omega) (by omega)) (Or.inl rfl))
      have x21 : i + eaD 2 = i - 1 := by show i + -1 = i - 1; omega
      have x22 : j - 1 + noD 2 = j - 1 := by show j - 1 + 0 = j - 1; omega
      refine fo_s (e := 2) (v0 := 25 * (i + 1) + (j - 1)) (pi := i) (pj := j - 1) (ce := 25 * (i + 1) + (j)) Q H hl C (by omega) (by omega) (by omega) (by omega) (by omega) (fun ho hv => ?_) (fun hm => ?_)
      · rw [x21, x22] at hv
        exact hv.elim (fun w => absurd w (by omega)) (fun w => absurd (show 25 * (i - 1 + 0) + (j - 1 + -1) = 25 * (i + 1) + (j) from w) (by omega))
      have x31 : i + eaD 3 = i := by show i + 0 = i; omega
      have x32 : j - 1 + noD 3 = j - 2 := by show j - 1 + -1 = j - 2; omega
      refine fo_s (e := 3) (v0 := 25 * (i + 1) + (j - 1)) (pi := i) (pj := j - 1) (ce := 25 * (i + 1) + (j)) Q H hl C (by omega) (by omega) (by omega) (by omega) (by omega) (fun ho hv => ?_) (fun hm => ?_)
      · rw [x31, x32] at ho; exact absurd ho (ob_n3 (ga hA (by omega) (by omega)) (Or.inl rfl))
      exact zb_le 5 (3 + 1 + 1) (fun _ => f) (fun z => absurd z (by omega))
  · cases hB : S lv (i - 1) (j - 2)
    · have e : nD (S lv) i j 3 = 3 := by unfold nD; rw [if_neg (fun z => absurd ((ga hA (by show i + 2 * 0 + 1 = i + 1; omega) (by show j + 2 * -1 + 0 = j - 2; omega)).symm.trans z) (by decide)), if_neg (fun z => absurd ((ga hB (by show i + 2 * 0 + -1 = i - 1; omega) (by show j + 2 * -1 + 0 = j - 2; omega)).symm.trans z) (by decide))]
      have z1 : i + (eaD 3 + eaD 3) = i := by show i + (0 + 0) = i; omega
      have z2 : j + (noD 3 + noD 3) = j - 2 := by show j + (-1 + -1) = j - 2; omega
      rw [e, z1, z2] at f
      have gA := Hl _ _ hA
      have x01 : i + eaD 0 = i + 1 := by show i + 1 = i + 1; omega
      have x02 : j - 1 + noD 0 = j - 1 := by show j - 1 + 0 = j - 1; omega
      refine fo_s (e := 0) (v0 := -1) (pi := i) (pj := j - 1) (ce := 25 * (i + 1) + (j)) Q H hl C (by omega) (by omega) (by omega) (by omega) (by omega) (fun ho hv => ?_) (fun hm => ?_)
      · rw [x01, x02] at ho; exact absurd ho (ob_n0 rfl (Or.inr (ga hA (by omega) (by omega))))
      have x11 : i + eaD 1 = i := by show i + 0 = i; omega
      have x12 : j - 1 + noD 1 = j := by show j - 1 + 1 = j; omega
      refine fo_s (e := 1) (v0 := -1) (pi := i) (pj := j - 1) (ce := 25 * (i + 1) + (j)) Q H hl C (by omega) (by omega) (by omega) (by omega) (by omega) (fun ho hv => ?_) (fun hm => ?_)
      · rw [x11, x12] at ho; exact absurd ho (ob_n1 (ga c2 (by omega) (by omega)) (Or.inl rfl))
      have x21 : i + eaD 2 = i - 1 := by show i + -1 = i - 1; omega
      have x22 : j - 1 + noD 2 = j - 1 := by show j - 1 + 0 = j - 1; omega
      refine fo_s (e := 2) (v0 := -1) (pi := i) (pj := j - 1) (ce := 25 * (i + 1) + (j)) Q H hl C (by omega) (by omega) (by omega) (by omega) (by omega) (fun ho hv => ?_) (fun hm => ?_)
      · rw [x21, x22] at ho; exact absurd ho (ob_n2 (ga hB (by omega) (by omega)) (Or.inl rfl))
      have x31 : i + eaD 3 = i := by show i + 0 = i; omega
      have x32 : j - 1 + noD 3 = j - 2 := by show j - 1 + -1 = j - 2; omega
      refine fo_s (e := 3) (v0 := -1) (pi := i) (pj := j - 1) (ce := 25 * (i + 1) + (j)) Q H hl C (by omega) (by omega) (by omega) (by omega) (by omega) (fun ho hv => ?_) (fun hm => ?_)
      rotate_left
      · exact absurd ⟨by rw [x31, x32]; exact (Or.inr (Or.inr (Or.inr ⟨rfl, ⟨by omega, by omega⟩, ga hA (by omega) (by omega), ga hB (by omega) (by omega)⟩))), Or.inl (by omega)⟩ hm
      rw [x31, x32]
      exact zb_le 5 (3 + 1 + 1) (fun _ => f) (fun z => absurd z (by omega))
    · have e : nD (S lv) i j 3 = 2 := by unfold nD; rw [if_neg (fun z => absurd ((ga hA (by show i + 2 * 0 + 1 = i + 1; omega) (by show j + 2 * -1 + 0 = j - 2; omega)).symm.trans z) (by decide)), if_pos (ga hB (by show i + 2 * 0 + -1 = i - 1; omega) (by show j + 2 * -1 + 0 = j - 2; omega))]; rfl
      have z1 : i + (eaD 3 + eaD 2) = i - 1 := by show i + (0 + -1) = i - 1; omega
      have z2 : j + (noD 3 + noD 2) = j - 1 := by show j + (-1 + 0) = j - 1; omega
      rw [e, z1, z2] at f
      have gA := Hl _ _ hA
      have gB := Hl _ _ hB
      have x01 : i + eaD 0 = i + 1 := by show i + 1 = i + 1; omega
      have x02 : j - 1 + noD 0 = j - 1 := by show j - 1 + 0 = j - 1; omega
      refine fo_s (e := 0) (v0 := -1) (pi := i) (pj := j - 1) (ce := 25 * (i + 1) + (j)) Q H hl C (by omega) (by omega) (by omega) (by omega) (by omega) (fun ho hv => ?_) (fun hm => ?_)
      · rw [x01, x02] at ho; exact absurd ho (ob_n0 rfl (Or.inr (ga hA (by omega) (by omega))))
      have x11 : i + eaD 1 = i := by show i + 0 = i; omega
      have x12 : j - 1 + noD 1 = j := by show j - 1 + 1 = j; omega
      refine fo_s (e := 1) (v0 := -1) (pi := i) (pj := j - 1) (ce := 25 * (i + 1) + (j)) Q H hl C (by omega) (by omega) (by omega) (by omega) (by omega) (fun ho hv => ?_) (fun hm => ?_)
      · rw [x11, x12] at ho; exact absurd ho (ob_n1 (ga c2 (by omega) (by omega)) (Or.inl rfl))
      have x21 : i + eaD 2 = i - 1 := by show i + -1 = i - 1; omega
      have x22 : j - 1 + noD 2 = j - 1 := by show j - 1 + 0 = j - 1; omega
      refine fo_s (e := 2) (v0 := -1) (pi := i) (pj := j - 1) (ce := 25 * (i + 1) + (j)) Q H hl C (by omega) (by omega) (by omega) (by omega) (by omega) (fun ho hv => ?_) (fun hm => ?_)
      rotate_left
      · exact absurd ⟨by rw [x21, x22]; exact (Or.inr (Or.inr (Or.inl ⟨rfl, ⟨by omega, by omega⟩, ga hB (by omega) (by omega), ga c2 (by omega) (by omega)⟩))), Or.inl (by omega)⟩ hm
      rw [x21, x22]
      have x31 : i + eaD 3 = i := by show i + 0 = i; omega
      have x32 : j - 1 + noD 3 = j - 2 := by show j - 1 + -1 = j - 2; omega
      refine fo_s (e := 3) (v0 := 25 * (i - 1) + (j - 1)) (pi := i) (pj := j - 1) (ce := 25 * (i + 1) + (j)) Q H hl C (by omega) (by omega) (by omega) (by omega) (by omega) (fun ho hv => ?_) (fun hm => ?_)
      · rw [x31, x32] at ho; exact absurd ho (ob_n3 rfl (Or.inr (ga hB (by omega) (by omega))))
      exact zb_le 5 (3 + 1 + 1) (fun _ => f) (fun z => absurd z (by omega))
theorem yp_fol {post : Int32 → Prop} (Q : YP ly S) (H : HS S) {l n : Int} (hl : 0 ≤ l ∧ l ≤ 5) (C : clo (S l)) (hb : Bn (S l) n) (f : post (zI (fN (S l) n))) : wpY_following post (c, ly, fi, ma, se, px, py, la) (zI l) (zI n) := by
  have Hl : Sup (S l) := fun i j => H l i j
  have hn := hb.1
  have ob := bn_o hb
  have gd := ob_g Hl ob
  have dr := ob_r ob
  have ey : dY (S l) (n / 25) (n % 25) = dN (S l) n + 1 := (yd_i Hl dr.1).mpr ob
  have key : ∃ N, wY_following_95 post (zI l) (zI (cL (n / 25) (n % 25) (dN (S l) n))) (zI (n / 25 + eaD (dN (S l) n))) (zI (n % 25 + noD (dN (S l) n))) c ly fi ma se px py la N (-1) 1 := by
    unfold fN at f
    rcases ob with ⟨ed, o, c1, c2⟩ | ⟨ed, o, c1, c2⟩ | ⟨ed, o, c1, c2⟩ | ⟨ed, o, c1, c2⟩
    · rw [ed] at f ⊢; exact fo_0 Q H hl C o c1 c2 f
    · rw [ed] at f ⊢; exact fo_1 Q H hl C o c1 c2 f
    · rw [ed] at f ⊢; exact fo_2 Q H hl C o c1 c2 f
    · rw [ed] at f ⊢; exact fo_3 Q H hl C o c1 c2 f
  unfold wpY_following
  refine ⟨by decide, nm_r (zi_d25 (by omega)) ⟨by decide, nm_r (zi_r25 (by omega)) (yp_dir Q H hl C gd ?_)⟩⟩
  rw [ey]
  refine yp_cl dr ?_
  generalize dN (S l) n = d at key dr ⊢
  have k60 : ∀ u : Int, u = n / 25 + eaD d → wY_following_60 post (zI l) (zI (n % 25)) (zI (d + 1)) (zI (cL (n / 25) (n % 25) d)) (-1) (zI u) c ly fi ma se px py la := by
    intro u eu
    have go : ∀ v : Int, v = n % 25 + noD d → ∃ N, wY_following_95 post (zI l) (zI (cL (n / 25) (n % 25) d)) (zI u) (zI v) c ly fi ma se px py la N (-1) 1 := by
      intro v ev; rw [eu, ev]; exact key
    unfold wY_following_60
    refine zb_eq (d + 1) 2 (fun q => nm_r (zi_1 _) (go _ ?_)) (fun q => zb_eq (d + 1) 4 (fun q2 => nm_r (zi_s1 _) (go _ ?_)) (fun q2 => go _ ?_))
    · have : d = 1 := by omega
      subst this; rfl
    · have : d = 3 := by omega
      subst this; rfl
    · unfold noD; rw [if_neg (by omega), if_neg (by omega)]; omega
  rw [zi_1 (n / 25), zi_s1 (n / 25)]
  refine zb_eq (d + 1) 1 (fun q => k60 _ ?_) (fun q => zb_eq (d + 1) 3 (fun q2 => k60 _ ?_) (fun q2 => k60 _ ?_))
  · have : d = 0 := by omega
    subst this; rfl
  · have : d = 2 := by omega
    subst this; rfl
  · unfold eaD; rw [if_neg (by omega), if_neg (by omega)]; omega
end
end
section
/-! Y: rings -/
def mi (g : Int → Int → Bool) (cm : Int → Int) (n : Int) : Prop := Bn g n ∧ ∀ m, Bn g m → cm m = cm n → n ≤ m
noncomputable def miB (g : Int → Int → Bool) (cm : Int → Int) (n : Nat) : Bool := @decide (mi g cm n) (Classical.propDecidable _)
noncomputable def tuB (g : Int → Int → Bool) (n : Nat) : Bool := @decide (Bn g n ∧ eN g n ≠ dN g n) (Classical.propDecidable _)
theorem mib_t {g : Int → Int → Bool} {cm : Int → Int} {n : Nat} (h : mi g cm n) : miB g cm n = true := by unfold miB; exact (@decide_eq_true_iff _ (Classical.propDecidable _)).mpr h
theorem mib_f {g : Int → Int → Bool} {cm : Int → Int} {n : Nat} (h : ¬ mi g cm n) : miB g cm n = false := by unfold miB; exact (@decide_eq_false_iff_not _ (Classical.propDecidable _)).mpr h
theorem mib_i {g : Int → Int → Bool} {cm : Int → Int} {n : Nat} (h : miB g cm n = true) : mi g cm n := by unfold miB at h; exact (@decide_eq_true_iff _ (Classical.propDecidable _)).mp h
theorem tub_t {g : Int → Int → Bool} {n : Nat} (h : Bn g n ∧ eN g n ≠ dN g n) : tuB g n = true := by unfold tuB; exact (@decide_eq_true_iff _ (Classical.propDecidable _)).mpr h
theorem tub_f {g : Int → Int → Bool} {n : Nat} (h : ¬ (Bn g n ∧ eN g n ≠ dN g n)) : tuB g n = false := by unfold tuB; exact (@decide_eq_false_iff_not _ (Classical.propDecidable _)).mpr h
theorem lst (Pq : Nat → Prop) : ∀ N k, k < N → Pq k → ∃ m, Pq m ∧ ∀ j, j < m → ¬ Pq j := by
  intro N
  induction N with
  | zero => intro k h; omega
  | succ N ih =>
    intro k hk hp
    rcases Classical.em (∃ j, j < k ∧ Pq j) with ⟨j, hj, hpj⟩ | h
    · exact ih j (by omega) hpj
    · exact ⟨k, hp, fun j hj hpj => h ⟨j, hj, hpj⟩⟩
theorem mi_ex {g : Int → Int → Bool} {t : Nat} {cm : Int → Int} {len : Nat → Nat} (P : RGF g t cm len) {κ : Nat} (h : κ < t) : ∃ n : Nat, n < 625 ∧ mi g cm n ∧ cm n = κ := by
  obtain ⟨n0, b0, c0⟩ := P.2.2.2.2.1 κ h
  have r0 := b0.1
  have e0 : ((n0.toNat : Nat) : Int) = n0 := by omega
  obtain ⟨m, ⟨b, hc⟩, hm⟩ := lst (fun k => Bn g (k : Int) ∧ cm (k : Int) = κ) (n0.toNat + 1) n0.toNat (by omega) (by rw [e0]; exact ⟨b0, c0⟩)
  refine ⟨m, by have := b.1; omega, ⟨b, fun m' b' hc' => ?_⟩, hc⟩
  have r' := b'.1
  rcases Classical.em ((m : Int) ≤ m') with z | z
  · exact z
  · exfalso
    have e' : ((m'.toNat : Nat) : Int) = m' := by omega
    exact hm m'.toNat (by omega) (by rw [e']; exact ⟨b', by rw [hc', hc]⟩)
theorem mi_cnt {g : Int → Int → Bool} {t : Nat} {cm : Int → Int} {len : Nat → Nat} (P : RGF g t cm len) : cnt (miB g cm) 625 = t := by
  obtain ⟨r, hr⟩ := co_f (t := t) (Pq := fun κ n => (0 ≤ n ∧ n ≤ 624) ∧ mi g cm n ∧ cm n = κ) (fun κ hκ => by
    obtain ⟨n, h1, h2, h3⟩ := mi_ex P hκ
    exact ⟨n, by omega, h2, h3⟩)
  have e : cnt (miB g cm) 625 = cnt (fun _ => true) t := by
    refine cn_bij (P := fun _ => true) (N := 625) (fun _ => true) (fun κ => (r κ).toNat) t _ (fun κ h _ => ?_) (fun κ κ' h h' _ _ he => ?_) (fun n hn hp => ?_)
    · obtain ⟨a1, a2, a3⟩ := hr κ h
      refine ⟨by show (r κ).toNat < 625; omega, ?_⟩
      show miB g cm (r κ).toNat = true
      refine mib_t ?_
      have : (((r κ).toNat : Nat) : Int) = r κ := by omega
      rw [this]; exact a2
    · obtain ⟨a1, a2, a3⟩ := hr κ h
      obtain ⟨b1, b2, b3⟩ := hr κ' h'
      have he' : (r κ).toNat = (r κ').toNat := he
      have : r κ = r κ' := by omega
      rw [this, b3] at a3; omega
    · have hm := mib_i hp
      obtain ⟨-, c0, c1⟩ := P.1 n hm.1
      obtain ⟨a1, a2, a3⟩ := hr (cm n).toNat (by omega)
      refine ⟨(cm n).toNat, by omega, rfl, ?_⟩
      show (r (cm n).toNat).toNat = n
      have k1 := a2.2 n hm.1 (by rw [a3]; omega)
      have k2 := hm.2 (r (cm n).toNat) a2.1 (by rw [a3]; omega)
      omega
  rw [e]
  have h1 := cn_le (fun _ => true) t
  have h2 : t ≤ cnt (fun _ => true) t := cn_full.mpr (fun _ _ => rfl)
  omega
theorem lm_a {K K' : Nat → Prop} {len : Nat → Nat} {M M' κ0 : Nat} (h : LM K len M) (hM : M' = if len κ0 ≤ M then M else len κ0) (hK : ∀ κ, K' κ ↔ K κ ∨ κ = κ0) : LM K' len M' := by
  refine ⟨fun κ hκ => ?_, ?_⟩
  · rcases (hK κ).mp hκ with z | z
    · have := h.1 κ z; rw [hM]; split <;> omega
    · rw [z, hM]; split <;> omega
  · by_cases e : len κ0 ≤ M
    · rw [if_pos e] at hM
      rcases h.2 with z | ⟨κ, k1, k2⟩
      · exact Or.inl (by omega)
      · exact Or.inr ⟨κ, (hK κ).mpr (Or.inl k1), by omega⟩
    · rw [if_neg e] at hM
      exact Or.inr ⟨κ0, (hK κ0).mpr (Or.inr rfl), by omega⟩
theorem lm_c {K K' : Nat → Prop} {len : Nat → Nat} {M : Nat} (h : LM K len M) (hK : ∀ κ, K' κ ↔ K κ) : LM K' len M := by
  have : K' = K := by funext κ; exact propext (hK κ)
  rw [this]; exact h
section
variable {c : Int32} {fi ly ma se px py la : Nat → Int32} {S : Int → Int → Int → Bool}
theorem ri_95 {post : Int32 → Prop} {J : Int32 → Int32 → Int32 → Int32 → Prop} (Q : YP ly S) (H : HS S) {l w n x3 x4 x5 : Int} (hl : 0 ≤ l ∧ l ≤ 5) (C : clo (S l)) (hb : Bn (S l) n)
    (f : J (zI x3) (zI x4) (zI (x5 + bZ (tuB (S l) n.toNat))) (zI (n + 1))) : wY_rings_95 post J (zI l) (zI w) (zI x3) (zI x4) (zI x5) (zI n) (zI (dN (S l) n + 1)) c ly fi ma se px py la := by
  have Hl : Sup (S l) := fun i j => H l i j
  have en : ((n.toNat : Nat) : Int) = n := by have := hb.1; omega
  obtain ⟨fb, f1, f2, f3⟩ := fn_b Hl hb
  have fo := bn_o fb
  have r1 := ob_r (bn_o hb)
  have r2 := ob_r fo
  have ey : dY (S l) (fN (S l) n / 25) (fN (S l) n % 25) = eN (S l) n + 1 := by
    rw [← f3]; exact (yd_i Hl r2.1).mpr fo
  rw [f3] at r2
  unfold wY_rings_95
  refine yp_fol Q H hl C hb ⟨by decide, by decide, ?_⟩
  rw [zi_r25 (by have := fb.1; omega), zi_d25 (by have := fb.1; omega)]
  refine yp_dir Q H hl C (by have := fb.1; omega) ?_
  rw [ey]
  refine zb_eq (eN (S l) n + 1) (dN (S l) n + 1) (fun q => nm_r (zi_1 n) ?_) (fun q => nm_r (zi_1 x5) (nm_r (zi_1 n) ?_))
  · rw [tub_f (by rw [en]; exact fun z => z.2 (by omega))] at f
    simpa [bZ] using f
  · rw [tub_t (by rw [en]; exact ⟨hb, by omega⟩)] at f
    exact f
theorem ri_48 {post : Int32 → Prop} {J : Int32 → Int32 → Int32 → Int32 → Prop} (Q : YP ly S) (H : HS S) {l w n : Int} {x3 M : Nat} {x5 : Int} (hl : 0 ≤ l ∧ l ≤ 5) (C : clo (S l)) (hb : Bn (S l) n) {t : Nat} {cm : Int → Int} {len : Nat → Nat} (P : RGF (S l) t cm len) (hM : M ≤ 1000)
    (f1 : mi (S l) cm n → J (zI (x3 + 1 : Nat)) (zI (if len (cm n).toNat ≤ M then M else len (cm n).toNat : Nat)) (zI (x5 + bZ (tuB (S l) n.toNat))) (zI (n + 1)))
    (f2 : ¬ mi (S l) cm n → J (zI x3) (zI M) (zI (x5 + bZ (tuB (S l) n.toNat))) (zI (n + 1))) :
    ∀ (N q : Nat), q < len (cm n).toNat → 625 - q < N → (∀ s, 0 < s → s ≤ q → n < itf (S l) s n) → wY_rings_48 post J (zI l) (zI w) (zI x3) (zI M) (zI x5) (zI n) (zI (dN (S l) n + 1)) c ly fi ma se px py la N (zI q) (zI (itf (S l) q n)) := by
  have Hl : Sup (S l) := fun i j => H l i j
  obtain ⟨p1, p2, p3⟩ := P.2.2.2.2.2 n hb
  have pl := it_len Hl hb p3
  have hn := hb.1
  intro N
  induction N with
  | zero => intro q h1 h2; omega
  | succ N ih =>
    intro q h1 h2 hs
    have bq := it_b Hl hb q
    have b1 := it_b Hl hb (q + 1)
    have rq := b1.1
    have e1 : fN (S l) (itf (S l) q n) = itf (S l) (q + 1) n := rfl
    refine yp_fol Q H hl C bq ?_
    rw [e1]
    refine nm_r (zi_1 _) (zb_lt n (itf (S l) (q + 1) n) (fun y => ?_) (fun y => zb_eq (itf (S l) (q + 1) n) n (fun y2 => nm_r (zi_1 _) ?_) (fun y2 => ?_)))
    · have hlt : q + 1 < len (cm n).toNat := by
        rcases Nat.lt_or_ge (q + 1) (len (cm n).toNat) with z | z
        · exact z
        · have : q + 1 = len (cm n).toNat := by omega
          rw [this, p2] at y; omega
      refine ih (q + 1) hlt (by omega) (fun s s0 s1 => ?_)
      by_cases e : s = q + 1
      · rw [e]; exact y
      · exact hs s s0 (by omega)
    · have ep : q + 1 = len (cm n).toNat := by
        rcases Nat.lt_or_ge (q + 1) (len (cm n).toNat) with z | z
        · exact absurd y2 (p3 (q + 1) (by omega) z)
        · omega
      have hm : mi (S l) cm n := by
        refine ⟨hb, fun m bm hc => ?_⟩
        obtain ⟨r, hr⟩ := P.2.2.2.1 n m hb bm hc.symm
        obtain ⟨r', hr1, hr2⟩ := it_m p1 p2 (r + 1) r (by omega)
        rw [hr] at hr2
        by_cases z : r' = 0
        · rw [z] at hr2; have : m = n := hr2; omega
        · have := hs r' (by omega) (by omega)
          rw [hr2]; omega
      have ff := f1 hm
      unfold wY_rings_77
      refine zb_eq (itf (S l) (q + 1) n) n (fun _ => ?_) (fun z => absurd y2 z)
      have e4 : ((q : Int) + 1) = ((len (cm n).toNat : Nat) : Int) := by omega
      rw [e4]
      refine zb_le ((len (cm n).toNat : Nat) : Int) (M : Int) (fun z => ri_95 Q H hl C hb ?_) (fun z => ri_95 Q H hl C hb ?_)
      · rw [if_pos (by omega)] at ff; exact ff
      · rw [if_neg (by omega)] at ff; exact ff
    · have hm : ¬ mi (S l) cm n := by
        intro hm
        have hc : cm (itf (S l) (q + 1) n) = cm n := by
          have : ∀ s, cm (itf (S l) s n) = cm n := by
            intro s
            induction s with
            | zero => rfl
            | succ s ihs => exact ((P.2.1 _ (it_b Hl hb s)).2).trans ihs
          exact this (q + 1)
        have := hm.2 _ b1 hc
        omega
      unfold wY_rings_77
      exact zb_eq (itf (S l) (q + 1) n) n (fun z => absurd z y2) (fun _ => ri_95 Q H hl C hb (f2 hm))
theorem ri_11 {post : Int32 → Prop} (Q : YP ly S) (H : HS S) {l w : Int} (hl : 0 ≤ l ∧ l ≤ 5) (C : clo (S l)) (hw : 0 ≤ w ∧ w ≤ 2) {t : Nat} {cm : Int → Int} {len : Nat → Nat} (P : RGF (S l) t cm len)
    (f : ∀ M : Nat, LM (fun κ => κ < t) len M → post (zI (if w = 0 then (t : Int) else if w = 1 then (M : Int) else ((cnt (tuB (S l)) 625 : Nat) : Int)))) :
    ∀ (N n : Nat) (M : Nat), n ≤ 625 → 625 - n < N → M ≤ 1000 → LM (fun κ => ∃ k : Nat, k < n ∧ mi (S l) cm k ∧ (cm k).toNat = κ) len M → wY_rings_11 post (zI l) (zI w) c ly fi ma se px py la N (zI (cnt (miB (S l) cm) n)) (zI M) (zI (cnt (tuB (S l)) n)) (zI n) := by
  have Hl : Sup (S l) := fun i j => H l i j
  intro N
  induction N with
  | zero => intro n M h0 h1; omega
  | succ N ih =>
    intro n M h0 h1 hMb hM
    refine zb_le 625 (n : Int) (fun h => ?_) (fun h => ⟨by decide, by decide, ?_⟩)
    · have en : n = 625 := by omega
      subst en
      have hM2 : LM (fun κ => κ < t) len M := by
        refine lm_c hM (fun κ => ⟨fun hκ => ?_, fun ⟨k, k1, k2, k3⟩ => ?_⟩)
        · obtain ⟨m, m1, m2, m3⟩ := mi_ex P hκ
          exact ⟨m, m1, m2, by omega⟩
        · have := P.1 k k2.1; omega
      have ff := f M hM2
      rw [mi_cnt P]
      refine zb_eq w 0 (fun q => ?_) (fun q => zb_eq w 1 (fun q2 => ?_) (fun q2 => ?_))
      · rw [if_pos q] at ff; exact ff
      · rw [if_neg q, if_pos q2] at ff; exact ff
      · rw [if_neg q, if_neg q2] at ff; exact ff
    · have et : ((n : Int)).toNat = n := Int.toNat_natCast n
      have dr := yd_r (S l) ((n : Int) / 25) ((n : Int) % 25)
      have emi : cnt (miB (S l) cm) (n + 1) = cnt (miB (S l) cm) n + bN (miB (S l) cm n) := cn_s _ _
      have etu : cnt (tuB (S l)) (n + 1) = cnt (tuB (S l)) n + bN (tuB (S l) n) := cn_s _ _
      have etz : (((cnt (tuB (S l)) n + bN (tuB (S l) n) : Nat)) : Int) = (cnt (tuB (S l)) n : Int) + bZ (tuB (S l) n) := by
        cases tuB (S l) n <;> simp [bN, bZ]
      rw [zi_r25 (by omega), zi_d25 (by omega)]
      refine yp_dir Q H hl C (by omega) (zb_eq (dY (S l) ((n : Int) / 25) ((n : Int) % 25)) 0 (fun q => nm_r (zi_1 _) ?_) (fun q => ?_))
      · have nb : ¬ Bn (S l) n := by
          intro hb
          unfold dY at q
          have := yd_q (S l) ((n : Int) / 25) ((n : Int) % 25)
          rw [if_pos hb.2] at q; omega
        have w1 := ih (n + 1) M (by omega) (by omega) hMb (lm_c hM (fun κ => ⟨fun ⟨k, k1, k2, k3⟩ => ⟨k, by
          rcases Nat.lt_or_ge k n with z | z
          · exact z
          · exfalso
            have : k = n := by omega
            rw [this] at k2; exact nb k2.1, k2, k3⟩, fun ⟨k, k1, k2, k3⟩ => ⟨k, by omega, k2, k3⟩⟩))
        rw [emi, etu, mib_f (fun z => nb z.1), tub_f (fun z => nb z.1)] at w1
        exact w1
      · have hb : Bn (S l) n := by
          refine ⟨by omega, ?_⟩
          rcases Classical.em (BE (S l) ((n : Int) / 25) ((n : Int) % 25) = true) with z | z
          · exact z
          · unfold dY at q; rw [if_neg z] at q; exact absurd rfl q
        have ed : dY (S l) ((n : Int) / 25) ((n : Int) % 25) = dN (S l) n + 1 := (yd_i Hl (ob_r (bn_o hb)).1).mpr (bn_o hb)
        rw [ed]
        obtain ⟨p1, p2, p3⟩ := P.2.2.2.2.2 n hb
        have pl := it_len Hl hb p3
        refine ⟨627, ri_48 Q H hl C hb P hMb (fun hm => ?_) (fun hm => ?_) 627 0 (by omega) (by omega) (fun s s0 s1 => absurd s1 (by omega))⟩
        · have w1 := ih (n + 1) (if len (cm n).toNat ≤ M then M else len (cm n).toNat) (by omega) (by omega) (by split <;> omega) (lm_a (κ0 := (cm n).toNat) hM rfl (fun κ => ⟨fun ⟨k, k1, k2, k3⟩ => ?_, fun hh => ?_⟩))
          · rw [emi, etu, mib_t hm, etz] at w1
            rw [et]; exact w1
          · rcases Nat.lt_or_ge k n with z | z
            · exact Or.inl ⟨k, z, k2, k3⟩
            · have : k = n := by omega
              rw [this] at k3; exact Or.inr k3.symm
          · rcases hh with ⟨k, k1, k2, k3⟩ | hh
            · exact ⟨k, by omega, k2, k3⟩
            · exact ⟨n, by omega, hm, hh.symm⟩
        · have w1 := ih (n + 1) M (by omega) (by omega) hMb (lm_c hM (fun κ => ⟨fun ⟨k, k1, k2, k3⟩ => ⟨k, by
            rcases Nat.lt_or_ge k n with z | z
            · exact z
            · exfalso
              have : k = n := by omega
              rw [this] at k2; exact hm k2, k2, k3⟩, fun ⟨k, k1, k2, k3⟩ => ⟨k, by omega, k2, k3⟩⟩))
          rw [emi, etu, mib_f hm, etz] at w1
          rw [et]; exact w1
theorem yp_rings {post : Int32 → Prop} (Q : YP ly S) (H : HS S) {l w : Int} (hl : 0 ≤ l ∧ l ≤ 5) (C : clo (S l)) (hw : 0 ≤ w ∧ w ≤ 2) {t : Nat} {cm : Int → Int} {len : Nat → Nat} (P : RGF (S l) t cm len)
    (f : ∀ M : Nat, LM (fun κ => κ < t) len M → post (zI (if w = 0 then (t : Int) else if w = 1 then (M : Int) else ((cnt (tuB (S l)) 625 : Nat) : Int)))) : wpY_rings post (c, ly, fi, ma, se, px, py, la) (zI l) (zI w) := by
  unfold wpY_rings
  exact ⟨627, ri_11 Q H hl C hw P f 627 0 0 (by omega) (by omega) (by omega) ⟨fun κ ⟨k, k1, _⟩ => absurd k1 (by omega), Or.inl rfl⟩⟩
end
end
section
/-! measure: both sides -/
section
variable {c : Int32} {fi ly ma se px py la : Nat → Int32}
theorem my_bad {post : Int32 → SY → Prop} {l w : Int} (hl : Rg l) (hw : Rg w) (h : ¬ ((0 ≤ l ∧ l ≤ 5) ∧ (0 ≤ w ∧ w ≤ 8))) (f : post (-1) (c, ly, fi, ma, se, px, py, la)) : wpY_measure post (c, ly, fi, ma, se, px, py, la) (zI l) (zI w) := by
  unfold wpY_measure
  refine yg_layer l hl (fun h1 => b1_f ?_) (fun h1 => b0_t f)
  exact zb_lt w 0 (fun _ => f) (fun h0 => zb_le w 8 (fun h8 => absurd ⟨h1, h0, h8⟩ h) (fun _ => f))
theorem my_03 {post : Int32 → SY → Prop} {l w : Int} (hl : 0 ≤ l ∧ l ≤ 5) (hw : 0 ≤ w ∧ w ≤ 3) (f : ∃ N, wY_measure_77 post (zI l) (zI w) c ly fi ma se px py la N 0 0) : wpY_measure post (c, ly, fi, ma, se, px, py, la) (zI l) (zI w) := by
  unfold wpY_measure
  refine yg_layer l (by omega) (fun _ => b1_f ?_) (fun h => absurd hl h)
  exact zb_lt w 0 (fun h => absurd h (by omega)) (fun _ => zb_le w 8 (fun _ => zb_le w 5 (fun _ => zb_le w 3 (fun _ => f) (fun h => absurd h (by omega))) (fun h => absurd h (by omega))) (fun h => absurd h (by omega)))
theorem my_4 {post : Int32 → SY → Prop} {l : Int} (hl : 0 ≤ l ∧ l ≤ 5) (f : wpY_pieces (fun u => wpY_countPieces (fun r => post r u) u) (c, ly, fi, ma, se, px, py, la) (zI l) 0) : wpY_measure post (c, ly, fi, ma, se, px, py, la) (zI l) (zI 4) := by
  unfold wpY_measure
  refine yg_layer l (by omega) (fun _ => b1_f ?_) (fun h => absurd hl h)
  refine zb_lt 4 0 (fun h => absurd h (by omega)) (fun _ => zb_le 4 8 (fun _ => zb_le 4 5 (fun _ => zb_le 4 3 (fun h => absurd h (by omega)) (fun _ => zb_eq 4 5 (fun h => absurd h (by omega)) (fun _ => ?_))) (fun h => absurd h (by omega))) (fun h => absurd h (by omega)))
  unfold wY_measure_52
  have e : (fun u : SY => match u with | (f_corners_64, a_layers_65, a_filling_66, a_made_67, a_set_68, a_px_69, a_py_70, a_label_71) => ((zI 4 = 4 → (wpY_countPieces (fun r_82 => (post r_82 (f_corners_64, a_layers_65, a_filling_66, a_made_67, a_set_68, a_px_69, a_py_70, a_label_71))) (f_corners_64, a_layers_65, a_filling_66, a_made_67, a_set_68, a_px_69, a_py_70, a_label_71))) ∧ (¬ zI 4 = 4 → (wpY_countHoles (fun r_73 => (post r_73 (f_corners_64, a_layers_65, a_filling_66, a_made_67, a_set_68, a_px_69, a_py_70, a_label_71))) (f_corners_64, a_layers_65, a_filling_66, a_made_67, a_set_68, a_px_69, a_py_70, a_label_71))))) = (fun u => wpY_countPieces (fun r => post r u) u) := by
    funext u
    obtain ⟨c', ly', fi', ma', se', px', py', la'⟩ := u
    exact propext ⟨fun h => h.1 rfl, fun h => ⟨fun _ => h, fun z => absurd rfl z⟩⟩
  rw [e]; exact f
theorem my_5 {post : Int32 → SY → Prop} {l : Int} (hl : 0 ≤ l ∧ l ≤ 5) (f : wpY_pieces (fun u => wpY_countHoles (fun r => post r u) u) (c, ly, fi, ma, se, px, py, la) (zI l) 1) : wpY_measure post (c, ly, fi, ma, se, px, py, la) (zI l) (zI 5) := by
  unfold wpY_measure
  refine yg_layer l (by omega) (fun _ => b1_f ?_) (fun h => absurd hl h)
  refine zb_lt 5 0 (fun h => absurd h (by omega)) (fun _ => zb_le 5 8 (fun _ => zb_le 5 5 (fun _ => zb_le 5 3 (fun h => absurd h (by omega)) (fun _ => zb_eq 5 5 (fun _ => ?_) (fun h => absurd rfl h))) (fun h => absurd h (by omega))) (fun h => absurd h (by omega)))
  unfold wY_measure_52
  have e : (fun u : SY => match u with | (f_corners_64, a_layers_65, a_filling_66, a_made_67, a_set_68, a_px_69, a_py_70, a_label_71) => ((zI 5 = 4 → (wpY_countPieces (fun r_82 => (post r_82 (f_corners_64, a_layers_65, a_filling_66, a_made_67, a_set_68, a_px_69, a_py_70, a_label_71))) (f_corners_64, a_layers_65, a_filling_66, a_made_67, a_set_68, a_px_69, a_py_70, a_label_71))) ∧ (¬ zI 5 = 4 → (wpY_countHoles (fun r_73 => (post r_73 (f_corners_64, a_layers_65, a_filling_66, a_made_67, a_set_68, a_px_69, a_py_70, a_label_71))) (f_corners_64, a_layers_65, a_filling_66, a_made_67, a_set_68, a_px_69, a_py_70, a_label_71))))) = (fun u => wpY_countHoles (fun r => post r u) u) := by
    funext u
    obtain ⟨c', ly', fi', ma', se', px', py', la'⟩ := u
    exact propext ⟨fun h => h.2 (by decide), fun h => ⟨fun z => absurd z (by decide), fun _ => h⟩⟩
  rw [e]; exact f
theorem my_68 {post : Int32 → SY → Prop} {l w : Int} (hl : 0 ≤ l ∧ l ≤ 5) (hw : 6 ≤ w ∧ w ≤ 8) (f : wpY_rings (fun r => post r (c, ly, fi, ma, se, px, py, la)) (c, ly, fi, ma, se, px, py, la) (zI l) (zI (w - 6))) : wpY_measure post (c, ly, fi, ma, se, px, py, la) (zI l) (zI w) := by
  have e : zI w - 6 = zI (w - 6) := zi_sub w 6
  unfold wpY_measure
  refine yg_layer l (by omega) (fun _ => b1_f ?_) (fun h => absurd hl h)
  rw [e]
  exact zb_lt w 0 (fun h => absurd h (by omega)) (fun _ => zb_le w 8 (fun _ => zb_le w 5 (fun h => absurd h (by omega)) (fun _ => f)) (fun h => absurd h (by omega)))
end
theorem ms_03 {k : Nat} {rc gc lr rk : Int32} {a cx cy re st dg ly fi ma se px py la : Nat → Int32} {S : Int → Int → Int → Bool} {n : Int} {X Y : Int → Int} (P : XP a S) (Q : YP ly S) (C : CL S) (T : Pth n X Y cx cy px py) {l w : Int} (hl : 0 ≤ l ∧ l ≤ 5) (hw : 0 ≤ w ∧ w ≤ 3) (F : Int → Int → Bool) (hF : MF (S l) w = F) :
    wpY_measure (fun r' v' => r' = zI (cX F 625) ∧ i_Rel (k + 5) (zI n, rc, gc, lr, rk, a, cx, cy, re, st, dg) v') (zI n, ly, fi, ma, se, px, py, la) (zI l) (zI w) := by
  refine my_03 hl hw ⟨626, ms_77 Q P.2 hl hw ⟨?_, i_mk P Q C T⟩ 626 0 (by omega) (by omega) (by omega)⟩
  rw [hF, c_tr]
theorem i_vc_measure {k : Nat} {u : SX} {v : SY} (I : i_Rel k u v) (hk : k + 5 ≤ 2560) (v1 : Int32) (v2 : Int32) : wpX_measure (fun r u' => wpY_measure (fun r' v' => r' = r ∧ i_Rel (k + 5) u' v') v v1 v2) u v1 v2 := by
  obtain ⟨c, rc, gc, lr, rk, a, cx, cy, re, st, dg⟩ := u
  obtain ⟨c', ly, fi, ma, se, px, py, la⟩ := v
  obtain ⟨S, n, X, Y, P, Q, C, T, rfl, rfl⟩ := I
  obtain ⟨l, hl, rfl⟩ := zi_ex v1
  obtain ⟨w, hw, rfl⟩ := zi_ex v2
  have bad : ¬ ((0 ≤ l ∧ l ≤ 5) ∧ (0 ≤ w ∧ w ≤ 8)) → wpY_measure (fun r' v' => r' = -1 ∧ i_Rel (k + 5) (zI n, rc, gc, lr, rk, a, cx, cy, re, st, dg) v') (zI n, ly, fi, ma, se, px, py, la) (zI l) (zI w) :=
    fun h => my_bad hl hw h ⟨rfl, i_mk P Q C T⟩
  unfold wpX_measure
  refine xg_layer l hl (fun h1 => b1_f ?_) (fun h1 => b0_t (bad (by omega)))
  have C1 := C l h1.1 h1.2
  refine zb_lt w 0 (fun h => zb_lt w 6 (fun _ => bad (by omega)) (fun h2 => absurd h (by omega))) (fun h0 => zb_lt 5 w (fun h5 => zb_lt w 6 (fun h => absurd h (by omega)) (fun h6 => zb_le w 8 (fun h8 => ?_) (fun h8 => bad (by omega)))) (fun h5 => ?_))
  · clear bad
    refine xp_walks h1 P (fun a' S' t cm len M P' e' hF hM => ?_)
    have R2 : ∀ gc' lr' rk' : Int32, i_Rel (k + 5) (zI n, rc, gc', lr', rk', a', cx, cy, re, st, dg) (zI n, ly, fi, ma, se, px, py, la) := fun _ _ _ => i_mk P' (yp_c Q e') (cl_c C e') T
    have ecr : cR (S l) (Bn (S l)) = cnt (tuB (S l)) 625 := rfl
    refine zb_eq w 6 (fun q => ?_) (fun q => zb_eq w 7 (fun q2 => ?_) (fun q2 => ?_))
    · refine my_68 h1 (by omega) (yp_rings Q P.2 h1 C1 (by omega) hF (fun M' hM' => ⟨?_, R2 _ _ _⟩))
      rw [if_pos (by omega)]
    · refine my_68 h1 (by omega) (yp_rings Q P.2 h1 C1 (by omega) hF (fun M' hM' => ⟨?_, R2 _ _ _⟩))
      rw [if_neg (by omega), if_pos (by omega), lm_u hM' hM]
    · refine my_68 h1 (by omega) (yp_rings Q P.2 h1 C1 (by omega) hF (fun M' hM' => ⟨?_, R2 _ _ _⟩))
      rw [if_neg (by omega), if_neg (by omega), ecr]
  · clear bad
    refine zb_eq w 0 (fun q => ?_) (fun q0 => zb_eq w 1 (fun q => ?_) (fun q1 => zb_eq w 2 (fun q => ?_) (fun q2 => zb_eq w 3 (fun q => ?_) (fun q3 => zb_eq w 4 (fun q => ?_) (fun q4 => zb_eq w 5 (fun q => ?_) (fun q5 => trivial))))))
    · refine xp_cp (dm := 2) (pt := 0) P (by omega) (by omega) (by omega) (ms_03 P Q C T h1 (by omega) _ ?_)
      subst q; rfl
    · refine xp_cl P (by omega) (ms_03 P Q C T h1 (by omega) _ ?_)
      subst q; rfl
    · refine xp_cp (dm := 1) (pt := 1) P (by omega) (by omega) (by omega) (ms_03 P Q C T h1 (by omega) _ ?_)
      subst q; rfl
    · refine xp_cp (dm := 0) (pt := 1) P (by omega) (by omega) (by omega) (ms_03 P Q C T h1 (by omega) _ ?_)
      subst q; rfl
    · subst q
      refine xp_pieces P h1 (fun rc' a' re' st' S' t cm hl' P' e' hF => my_4 h1 ?_)
      refine yp_pieces (cm := cm) Q true h1 C1 (cp_inv hF) (fun la2 L A G K X2 => yp_cpc A ⟨?_, i_mk P' (yp_c Q e') (cl_c C e') T⟩)
      rw [(cp_eq hF A G K X2).1]
    · subst q
      refine xp_holes P h1 (fun rc' a' re' st' S' t cm hl' P' e' hF => my_5 h1 ?_)
      refine yp_pieces (cm := cm) Q false h1 C1 (cp_inv hF) (fun la2 L A G K X2 => yp_chl A ⟨?_, i_mk P' (yp_c Q e') (cl_c C e') T⟩)
      rw [(cp_eq hF A G K X2).2]
end
