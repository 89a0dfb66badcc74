/-! the pictures of both states, and the relation -/
abbrev Rg (z : Int) : Prop := -2147483648 ≤ z ∧ z < 2147483648
abbrev Gd (i j : Int) : Prop := 0 ≤ i ∧ i ≤ 24 ∧ 0 ≤ j ∧ j ≤ 24
def XP (a : Nat → Int32) (S : Int → Int → Int → Bool) : Prop :=
  (∀ s i j, 0 ≤ s → s ≤ 6 → Gd i j → a (s * 625 + j * 25 + i).toNat = bI (S s i j)) ∧ (∀ s i j, S s i j = true → Gd i j)
def YP (a : Nat → Int32) (S : Int → Int → Int → Bool) : Prop :=
  ∀ l i j, 0 ≤ l → l ≤ 5 → Gd i j → a (625 * l + 25 * i + j).toNat = bI (S l i j)
def clo (g : Int → Int → Bool) : Prop :=
  ∀ i j, g i j = true → (i % 2 = 1 → g (i - 1) j = true ∧ g (i + 1) j = true) ∧ (j % 2 = 1 → g i (j - 1) = true ∧ g i (j + 1) = true)
def CL (S : Int → Int → Int → Bool) : Prop := ∀ l, 0 ≤ l → l ≤ 5 → clo (S l)
def Pth (n : Int) (X Y : Int → Int) (cx cy px py : Nat → Int32) : Prop :=
  (0 ≤ n ∧ n ≤ 24) ∧ (∀ k, 0 ≤ k → k < n → (0 ≤ X k ∧ X k ≤ 12) ∧ (0 ≤ Y k ∧ Y k ≤ 12) ∧ cx k.toNat = zI (X k) ∧ cy k.toNat = zI (Y k) ∧ px k.toNat = zI (X k) ∧ py k.toNat = zI (Y k)) ∧
  (∀ k, 0 ≤ k → k + 1 < n → X k = X (k + 1) ∨ Y k = Y (k + 1))
def i_Rel (k : Nat) (u : SX) (v : SY) : Prop := match u with
  | (c, rc, gc, lr, rk, a, cx, cy, re, st, dg) => match v with
    | (c', ly, fi, ma, se, px, py, la) => ∃ (S : Int → Int → Int → Bool) (n : Int) (X Y : Int → Int), XP a S ∧ YP ly S ∧ CL S ∧ Pth n X Y cx cy px py ∧ c = zI n ∧ c' = zI n
theorem i_up {k : Nat} {u : SX} {v : SY} (h : i_Rel k u v) : i_Rel (k + 5) u v := h
theorem i_vc0 : wpX_init (fun u => wpY_init (fun v => i_Rel 0 u v)) := by
  refine ⟨fun _ _ _ => false, 0, fun _ => 0, fun _ => 0, ⟨fun _ _ _ _ _ _ => rfl, (fun _ _ _ h => nomatch h)⟩, fun _ _ _ _ _ _ => rfl, (fun _ _ _ _ _ h => nomatch h), ⟨⟨by omega, by omega⟩, fun k h1 h2 => absurd h2 (by omega), fun k h1 h2 => absurd h2 (by omega)⟩, rfl, rfl⟩
theorem i_mk {k : Nat} {rc gc lr rk : Int32} {a cx cy re st dg ly fi ma se px py la : Nat → Int32} {S : Int → Int → Int → Bool} {n : Int} {X Y : Int → Int} (P : XP a S) (Q : YP ly S) (C : CL S) (T : Pth n X Y cx cy px py) : i_Rel k (zI n, rc, gc, lr, rk, a, cx, cy, re, st, dg) (zI n, ly, fi, ma, se, px, py, la) :=
  ⟨S, n, X, Y, P, Q, C, T, rfl, rfl⟩
theorem px_c {a : Nat → Int32} {S S' : Int → Int → Int → Bool} (P : XP a S) (h : ∀ s i j, S s i j = S' s i j) : XP a S' := by
  have e : S = S' := funext fun s => funext fun i => funext fun j => h s i j
  subst e; exact P
theorem px_no {a : Nat → Int32} {S : Int → Int → Int → Bool} (P : XP a S) {s i j : Int} (h : ¬ Gd i j) : S s i j = false := by
  cases e : S s i j
  · rfl
  · exact absurd (P.2 s i j e) h
theorem zi_ix (s j i : Int) : ((zI s * 625) + (zI j * 25)) + zI i = zI (s * 625 + j * 25 + i) := by
  have h1 : zI s * 625 = zI (s * 625) := zi_mul s 625
  have h2 : zI j * 25 = zI (j * 25) := zi_mul j 25
  rw [h1, h2, zi_add, zi_add]
theorem zi_iy (l i j : Int) : ((625 * zI l) + (25 * zI i)) + zI j = zI (625 * l + 25 * i + j) := by
  have h1 : 625 * zI l = zI (625 * l) := zi_mul 625 l
  have h2 : 25 * zI i = zI (25 * i) := zi_mul 25 i
  rw [h1, h2, zi_add, zi_add]
theorem zi_in1 (s n : Int) : (zI s * 625) + zI n = zI (s * 625 + n) := by
  have h1 : zI s * 625 = zI (s * 625) := zi_mul s 625
  rw [h1, zi_add]
theorem zi_in2 (s n : Int) : (625 * zI s) + zI n = zI (625 * s + n) := by
  have h1 : 625 * zI s = zI (625 * s) := zi_mul 625 s
  rw [h1, zi_add]
theorem b1_f {A B : Prop} (h : B) : ((1 : Int32) = 0 → A) ∧ (¬ (1 : Int32) = 0 → B) := ⟨fun h => absurd h (by decide), fun _ => h⟩
theorem b0_t {A B : Prop} (h : A) : ((0 : Int32) = 0 → A) ∧ (¬ (0 : Int32) = 0 → B) := ⟨fun _ => h, fun h => absurd rfl h⟩
/-! X: has and write -/
theorem xp_has {post : Int32 → Prop} {c rc gc lr rk : Int32} {a cx cy re st dg : Nat → Int32} {S : Int → Int → Int → Bool} (P : XP a S) (s i j : Int) (hs : 0 ≤ s ∧ s ≤ 6) (hi : Rg i) (hj : Rg j) (h : post (bI (S s i j))) : wpX_has post (c, rc, gc, lr, rk, a, cx, cy, re, st, dg) (zI s) (zI i) (zI j) := by
  have z : ¬ Gd i j → post 0 := fun q => by rw [px_no P q] at h; exact h
  refine zb_lt i 0 (fun h1 => z (by omega)) (fun h1 => zb_lt 24 i (fun h2 => z (by omega)) fun h2 => zb_lt j 0 (fun h3 => z (by omega)) fun h3 => zb_le j 24 (fun h4 => ?_) (fun h4 => z (by omega)))
  have e := zi_ix s j i
  have e2 : (((zI s * 625) + (zI j * 25)) + zI i).toNatClampNeg = (s * 625 + j * 25 + i).toNat := zv_cl _ e
  refine ⟨zv_in _ (by omega) e, ?_, ?_⟩
  · rw [e2, P.1 s i j hs.1 hs.2 ⟨h1, h2, h3, h4⟩]; exact bi_n _
  · rw [e2, P.1 s i j hs.1 hs.2 ⟨h1, h2, h3, h4⟩]; exact h
def sto (S : Int → Int → Int → Bool) (s i j : Int) (b : Bool) : Int → Int → Int → Bool :=
  fun s' i' j' => if s' = s ∧ i' = i ∧ j' = j then b else S s' i' j'
theorem px_sto {a : Nat → Int32} {S : Int → Int → Int → Bool} (P : XP a S) {s i j : Int} {b : Bool} (hs : 0 ≤ s ∧ s ≤ 6) (hg : Gd i j) : XP (upd a (s * 625 + j * 25 + i).toNat (bI b)) (sto S s i j b) := by
  refine ⟨fun s' i' j' h0 h6 g => ?_, fun s' i' j' h => ?_⟩
  · unfold upd sto
    by_cases q : s' = s ∧ i' = i ∧ j' = j
    · obtain ⟨rfl, rfl, rfl⟩ := q
      simp
    · rw [if_neg q, if_neg (by omega)]; exact P.1 s' i' j' h0 h6 g
  · unfold sto at h
    by_cases q : s' = s ∧ i' = i ∧ j' = j
    · obtain ⟨rfl, rfl, rfl⟩ := q; exact hg
    · rw [if_neg q] at h; exact P.2 s' i' j' h
theorem xp_write {post : SX → Prop} {c rc gc lr rk : Int32} {a cx cy re st dg : Nat → Int32} {S : Int → Int → Int → Bool} (P : XP a S) (s i j : Int) (b : Bool) (hs : 0 ≤ s ∧ s ≤ 6) (hg : Gd i j) (h : ∀ a', XP a' (sto S s i j b) → post (c, rc, gc, lr, rk, a', cx, cy, re, st, dg)) : wpX_write post (c, rc, gc, lr, rk, a, cx, cy, re, st, dg) (zI s) (zI i) (zI j) (bI b) := by
  refine zb_lt i 0 (fun h1 => absurd h1 (by omega)) (fun h1 => zb_lt 24 i (fun h2 => absurd h2 (by omega)) fun h2 => zb_lt j 0 (fun h3 => absurd h3 (by omega)) fun h3 => zb_le j 24 (fun h4 => ?_) (fun h4 => absurd h4 (by omega)))
  have e := zi_ix s j i
  have e2 : (((zI s * 625) + (zI j * 25)) + zI i).toNatClampNeg = (s * 625 + j * 25 + i).toNat := zv_cl _ e
  refine ⟨zv_in _ (by omega) e, fun a' ea => ?_⟩
  rw [e2, bi_v] at ea
  rw [ea]
  exact h _ (px_sto P hs hg)
/-! a set written whole, row by row -/
def swp (S : Int → Int → Int → Bool) (s : Int) (F : Int → Int → Bool) (i j : Int) : Int → Int → Int → Bool :=
  fun s' i' j' => if s' = s ∧ Gd i' j' ∧ (j' < j ∨ (j' = j ∧ i' < i)) then F i' j' else S s' i' j'
def put (S : Int → Int → Int → Bool) (s : Int) (F : Int → Int → Bool) : Int → Int → Int → Bool :=
  fun s' i' j' => if s' = s ∧ Gd i' j' then F i' j' else S s' i' j'
theorem sw_0 {S : Int → Int → Int → Bool} {s : Int} {F : Int → Int → Bool} : ∀ s' i' j', S s' i' j' = swp S s F 0 0 s' i' j' := by
  intro s' i' j'; unfold swp; rw [if_neg (by omega)]
theorem sw_w {S : Int → Int → Int → Bool} {s : Int} {F : Int → Int → Bool} {i j : Int} (hg : Gd i j) : ∀ s' i' j', sto (swp S s F i j) s i j (F i j) s' i' j' = swp S s F (i + 1) j s' i' j' := by
  intro s' i' j'; unfold sto swp
  by_cases q : s' = s ∧ i' = i ∧ j' = j
  · obtain ⟨rfl, rfl, rfl⟩ := q
    rw [if_pos ⟨rfl, rfl, rfl⟩, if_pos ⟨rfl, hg, Or.inr ⟨rfl, by omega⟩⟩]
  · rw [if_neg q]
    by_cases q2 : s' = s ∧ Gd i' j' ∧ (j' < j ∨ (j' = j ∧ i' < i))
    · rw [if_pos q2, if_pos (by omega)]
    · rw [if_neg q2, if_neg (by omega)]
theorem sw_r {S : Int → Int → Int → Bool} {s : Int} {F : Int → Int → Bool} {j : Int} : ∀ s' i' j', swp S s F 25 j s' i' j' = swp S s F 0 (j + 1) s' i' j' := by
  intro s' i' j'; unfold swp
  by_cases q2 : s' = s ∧ Gd i' j' ∧ (j' < j ∨ (j' = j ∧ i' < 25))
  · rw [if_pos q2, if_pos (by omega)]
  · rw [if_neg q2, if_neg (by omega)]
theorem sw_e {S : Int → Int → Int → Bool} {s : Int} {F : Int → Int → Bool} : ∀ s' i' j', swp S s F 0 25 s' i' j' = put S s F s' i' j' := by
  intro s' i' j'; unfold swp put
  by_cases q2 : s' = s ∧ Gd i' j'
  · rw [if_pos (by omega), if_pos q2]
  · rw [if_neg (by omega), if_neg q2]
theorem sw_o {S : Int → Int → Int → Bool} {s : Int} {F : Int → Int → Bool} {i j s' : Int} (h : s' ≠ s) : swp S s F i j s' = S s' := by
  funext i' j'; unfold swp; rw [if_neg (by omega)]
theorem pu_o {S : Int → Int → Int → Bool} {s : Int} {F : Int → Int → Bool} {s' : Int} (h : s' ≠ s) : put S s F s' = S s' := by
  funext i' j'; unfold put; rw [if_neg (by omega)]
/-! guards -/
theorem xg_layer {post : Int32 → Prop} (z : Int) (hz : Rg z) (f : 0 ≤ z ∧ z ≤ 5 → post 1) (g : ¬ (0 ≤ z ∧ z ≤ 5) → post 0) : wpX_isLayer post (zI z) :=
  zb_lt z 0 (fun h => g (by omega)) (fun h => zb_le 6 z (fun h' => g (by omega)) (fun h' => f (by omega)))
theorem xg_coord {post : Int32 → Prop} (z : Int) (hz : Rg z) (f : 0 ≤ z ∧ z ≤ 12 → post 1) (g : ¬ (0 ≤ z ∧ z ≤ 12) → post 0) : wpX_isCoordinate post (zI z) :=
  zb_lt z 0 (fun h => g (by omega)) (fun h => zb_lt 12 z (fun h' => g (by omega)) (fun h' => f (by omega)))
theorem xg_op {post : Int32 → Prop} (z : Int) (hz : Rg z) (f : 0 ≤ z ∧ z ≤ 3 → post 1) (g : ¬ (0 ≤ z ∧ z ≤ 3) → post 0) : wpX_isOp post (zI z) :=
  zb_lt z 0 (fun h => g (by omega)) (fun h => zb_lt 3 z (fun h' => g (by omega)) (fun h' => f (by omega)))
theorem yg_layer {post : Int32 → Prop} {v : SY} (z : Int) (hz : Rg z) (f : 0 ≤ z ∧ z ≤ 5 → post 1) (g : ¬ (0 ≤ z ∧ z ≤ 5) → post 0) : wpY_layer post v (zI z) :=
  zb_lt z 0 (fun h => g (by omega)) (fun h => zb_le 6 z (fun h' => g (by omega)) (fun h' => f (by omega)))
theorem yg_coord {post : Int32 → Prop} {v : SY} (x y : Int) (hx : Rg x) (hy : Rg y) (f : (0 ≤ x ∧ x ≤ 12) ∧ (0 ≤ y ∧ y ≤ 12) → post 1) (g : ¬ ((0 ≤ x ∧ x ≤ 12) ∧ (0 ≤ y ∧ y ≤ 12)) → post 0) : wpY_coordinates post v (zI x) (zI y) :=
  zb_lt x 0 (fun h => g (by omega)) (fun h => zb_lt 12 x (fun h' => g (by omega)) (fun h' => zb_lt y 0 (fun h => g (by omega)) (fun h => zb_lt 12 y (fun h' => g (by omega)) (fun h' => f (by omega)))))
theorem yg_atom {post : Int32 → Prop} {v : SY} (x y : Int) (hx : Rg x) (hy : Rg y) (f : Gd x y → post 1) (g : ¬ Gd x y → post 0) : wpY_atom post v (zI x) (zI y) :=
  zb_lt x 0 (fun h => g (by omega)) (fun h => zb_le 25 x (fun h' => g (by omega)) (fun h' => zb_lt y 0 (fun h => g (by omega)) (fun h => zb_le 25 y (fun h' => g (by omega)) (fun h' => f (by omega)))))
/-! Y: in -/
theorem yp_in {post : Int32 → Prop} {c : Int32} {ly fi ma se px py la : Nat → Int32} {S : Int → Int → Int → Bool} (Q : YP ly S) (H : ∀ s i j, S s i j = true → Gd i j) (l i j : Int) (hl : 0 ≤ l ∧ l ≤ 5) (hi : Rg i) (hj : Rg j) (h : post (bI (S l i j))) : wpY_in post (c, ly, fi, ma, se, px, py, la) (zI l) (zI i) (zI j) := by
  unfold wpY_in
  refine yg_atom i j hi hj (fun g => b1_f ?_) (fun g => b0_t ?_)
  · have e := zi_iy l i j
    have e2 : (((625 * zI l) + (25 * zI i)) + zI j).toNatClampNeg = (625 * l + 25 * i + j).toNat := zv_cl _ e
    refine ⟨zv_in _ (by omega) e, ?_⟩
    rw [e2, Q l i j hl.1 hl.2 g]
    refine bb_0 (fun q => ?_) (fun q => ?_)
    · rw [q] at h; exact h
    · rw [q] at h; exact h
  · have : S l i j = false := by
      cases e : S l i j
      · rfl
      · exact absurd (H l i j e) g
    rw [this] at h; exact h
