/-! fill -/
def fo (p : Nat → Bool) : Nat → Bool
  | 0 => false
  | m + 1 => fo p m != p m
theorem fo_c (p : Nat → Bool) : ∀ m, fo p m = decide (cnt p m % 2 = 1)
  | 0 => rfl
  | m + 1 => by
    simp only [fo, cnt]
    rw [fo_c p m]
    by_cases h : p m = true
    · rcases Nat.mod_two_eq_zero_or_one (cnt p m) with e | e
      · have : (cnt p m + 1) % 2 = 1 := by omega
        simp [h, e, this]
      · have : (cnt p m + 1) % 2 = 0 := by omega
        simp [h, e, this]
    · have h' : p m = false := by simpa using h
      simp [h']
def nxr (n k : Int) : Int := if k + 1 < n then k + 1 else 0
def psX (n : Int) (X Y : Int → Int) (i j : Int) (k : Nat) : Bool := (decide (2 * Y k < j) != decide (2 * Y (nxr n k) < j)) && decide (2 * X k < i)
def crs (x1 y1 x2 y2 i j : Int) : Bool := decide (x1 = x2) && (decide (2 * x1 < i) && decide ((2 * y1 ≤ j ∧ j ≤ 2 * y2) ∨ (2 * y2 ≤ j ∧ j ≤ 2 * y1)))
def psY (X Y : Int → Int) (i j : Int) (k : Nat) : Bool := crs (X k) (Y k) (X (k + 1)) (Y (k + 1)) i j
theorem ne_i (b : Bool) : (b != false) = b := by cases b <;> rfl
section
variable {rc gc lr rk : Int32} {a cx cy re st dg px py : Nat → Int32}
theorem ir_79 {post : Int32 → Prop} {J : Int32 → Int32 → Prop} {c : Int32} {i j k x : Int} {b z : Bool} (hi : 0 ≤ i ∧ i ≤ 24) (hk : 0 ≤ k ∧ k ≤ 23) (hx : 0 ≤ x ∧ x ≤ 12) (e1 : cx k.toNat = zI x)
    (h : J (bI (b != (z && decide (2 * x < i)))) (zI (k + 1))) : wX_isInsideRing_79 post J (zI i) (zI j) (bI b) (zI k) (bI z) c rc gc lr rk a cx cy re st dg := by
  refine bb_0 (fun ez => nm_r (zi_1 k) ?_) (fun ez => ⟨zv_in k (by omega), ?_⟩)
  · rw [ez, Bool.false_and, ne_i] at h; exact h
  · rw [zi_cl (by omega), e1, zi_dbl]
    rw [ez, Bool.true_and] at h
    refine zb_le i (2 * x) (fun q => nm_r (zi_1 k) ?_) (fun q => ?_)
    · have : decide (2 * x < i) = false := by simp; omega
      rw [this, ne_i] at h; exact h
    · have : decide (2 * x < i) = true := by simp; omega
      rw [this] at h
      refine bb_0 (fun eb => nm_r (zi_1 k) ?_) (fun eb => nm_r (zi_1 k) ?_)
      · rw [eb] at h; exact h
      · rw [eb] at h; exact h
theorem ir_33 {post : Int32 → Prop} {J : Int32 → Int32 → Prop} {c : Int32} {i j k x y k2 y2 : Int} {b : Bool} (hi : 0 ≤ i ∧ i ≤ 24) (hj : 0 ≤ j ∧ j ≤ 24) (hk : 0 ≤ k ∧ k ≤ 23) (hk2 : 0 ≤ k2 ∧ k2 ≤ 23) (hx : 0 ≤ x ∧ x ≤ 12) (hy : 0 ≤ y ∧ y ≤ 12) (hy2 : 0 ≤ y2 ∧ y2 ≤ 12) (e1 : cx k.toNat = zI x) (e2 : cy k.toNat = zI y) (e3 : cy k2.toNat = zI y2)
    (h : J (bI (b != ((decide (2 * y < j) != decide (2 * y2 < j)) && decide (2 * x < i)))) (zI (k + 1))) : wX_isInsideRing_33 post J (zI i) (zI j) (bI b) (zI k) (zI k2) c rc gc lr rk a cx cy re st dg := by
  have s71 : ∀ p q : Bool, p = decide (2 * y < j) → q = decide (2 * y2 < j) → wX_isInsideRing_71 post J (zI i) (zI j) (bI b) (zI k) (bI q) (bI p) c rc gc lr rk a cx cy re st dg := by
    intro p q ep eq
    rw [← ep, ← eq] at h
    refine bb_e (fun e => ir_79 (z := false) hi hk hx e1 ?_) (fun e => ir_79 (z := true) hi hk hx e1 ?_)
    · rw [e] at h; simpa using h
    · have : (p != q) = true := by cases p <;> cases q <;> first | exact absurd rfl e | rfl
      rw [this] at h; exact h
  have s53 : ∀ p : Bool, p = decide (2 * y < j) → wX_isInsideRing_53 post J (zI i) (zI j) (bI b) (zI k) (zI k2) (bI p) c rc gc lr rk a cx cy re st dg := by
    intro p ep
    unfold wX_isInsideRing_53
    rw [zi_cl (by omega), e3, zi_dbl]
    refine ⟨zv_in k2 (by omega), zb_le j (2 * y2) (fun q => s71 p false ep ?_) (fun q => s71 p true ep ?_)⟩
    · simp; omega
    · simp; omega
  unfold wX_isInsideRing_33
  rw [zi_cl (by omega), e2, zi_dbl]
  refine ⟨zv_in k (by omega), zb_le j (2 * y) (fun q => s53 false ?_) (fun q => s53 true ?_)⟩
  · simp; omega
  · simp; omega
theorem ir_5 {post : Int32 → Prop} {n i j : Int} {X Y : Int → Int} (T : Pth n X Y cx cy px py) (hi : 0 ≤ i ∧ i ≤ 24) (hj : 0 ≤ j ∧ j ≤ 24) (f : post (bI (fo (psX n X Y i j) n.toNat))) :
    ∀ (N : Nat) (k : Int), 0 ≤ k → k ≤ n → (n - k).toNat < N → wX_isInsideRing_5 post (zI i) (zI j) (zI n) rc gc lr rk a cx cy re st dg N (bI (fo (psX n X Y i j) k.toNat)) (zI k) := by
  have hn := T.1
  intro N
  induction N with
  | zero => intro k h0 h1; omega
  | succ N ih =>
    intro k h0 h1 h2
    refine zb_le n k (fun h => ?_) (fun h => ?_)
    · have e : k = n := by omega
      subst e; exact ⟨bi_n _, f⟩
    · have key : ∀ z : Int, z = nxr n k → wX_isInsideRing_33 post (wX_isInsideRing_5 post (zI i) (zI j) (zI n) rc gc lr rk a cx cy re st dg N) (zI i) (zI j) (bI (fo (psX n X Y i j) k.toNat)) (zI k) (zI z) (zI n) rc gc lr rk a cx cy re st dg := by
        intro z ez
        have hz : 0 ≤ z ∧ z < n := by rw [ez]; unfold nxr; split <;> omega
        obtain ⟨b1, b2, b3, b4, -, -⟩ := T.2.1 k h0 h
        obtain ⟨d1, d2, d3, d4, -, -⟩ := T.2.1 z hz.1 hz.2
        refine ir_33 hi hj (by omega) (by omega) b1 b2 d2 b3 b4 d4 ?_
        have e := ih (k + 1) (by omega) (by omega) (by omega)
        have e2 : (k + 1).toNat = k.toNat + 1 := by omega
        have e3 : ((k.toNat : Nat) : Int) = k := by omega
        rw [e2] at e
        simp only [fo, psX] at e
        rw [e3, ← ez] at e
        exact e
      refine zb_le n (k + 1) (fun h3 => key 0 ?_) (fun h3 => ?_) rfl (zi_1 k)
      · unfold nxr; rw [if_neg (by omega)]
      · rw [zi_1]
        refine key (k + 1) ?_
        unfold nxr; rw [if_pos (by omega)]
def FX (n : Int) (X Y : Int → Int) (i j : Int) : Bool := decide (Gd i j ∧ i % 2 = 1 ∧ j % 2 = 1) && fo (psX n X Y i j) n.toNat
theorem fx_s {n : Int} {X Y : Int → Int} : Sup (FX n X Y) := by
  intro i j h
  unfold FX at h
  rw [Bool.and_eq_true, decide_eq_true_eq] at h
  exact h.1.1
theorem fa_i {post : SX → Prop} {J : Int32 → Int32 → Int32 → Int32 → Int32 → Int32 → (Nat → Int32) → (Nat → Int32) → (Nat → Int32) → (Nat → Int32) → (Nat → Int32) → (Nat → Int32) → Prop} {n j : Int} {X Y : Int → Int} {S : Int → Int → Int → Bool} (T : Pth n X Y cx cy px py) (hj : 0 ≤ j ∧ j ≤ 24)
    (hJ : ∀ a', XP a' (swp S 6 (FX n X Y) 0 (j + 1)) → J (zI (j + 1)) (zI n) rc gc lr rk a' cx cy re st dg) :
    ∀ (N : Nat) (i : Int) (a : Nat → Int32), 0 ≤ i → i ≤ 25 → (25 - i).toNat < N → XP a (swp S 6 (FX n X Y) i j) → wX_setFillingAside_10 post J (zI j) N (zI i) (zI n) rc gc lr rk a cx cy re st dg := by
  intro N
  induction N with
  | zero => intro i a h0 h1; omega
  | succ N ih =>
    intro i a h0 h1 h2 P
    refine zb_le 25 i (fun h => ?_) (fun h => ?_)
    · have e : i = 25 := by omega
      subst e; exact nm_r (zi_1 j) (hJ a (px_c P sw_r))
    · have w39 : ∀ b : Bool, b = FX n X Y i j → wX_setFillingAside_39 post J (wX_setFillingAside_10 post J (zI j) N) (zI j) (zI i) (bI b) (zI n) rc gc lr rk a cx cy re st dg := by
        intro b eb
        unfold wX_setFillingAside_39
        refine xp_write P 6 i j b (by omega) (by omega) (fun a' P' => nm_r (zi_1 i) (ih (i + 1) a' (by omega) (by omega) (by omega) ?_))
        rw [eb] at P'
        exact px_c P' (sw_w (by omega))
      refine xp_dim i j (by omega) (by omega) (zb_eq (i % 2 + j % 2) 2 (fun e => ?_) (fun e => ?_))
      · have eF : FX n X Y i j = fo (psX n X Y i j) n.toNat := by
          unfold FX
          have : decide (Gd i j ∧ i % 2 = 1 ∧ j % 2 = 1) = true := by rw [decide_eq_true_eq]; omega
          rw [this, Bool.true_and]
        unfold wpX_isInsideRing
        refine ⟨26, ir_5 T (by omega) (by omega) ?_ 26 0 (by omega) T.1.1 (by have := T.1; omega)⟩
        refine bb_0 (fun e => w39 false ?_) (fun e => w39 true ?_)
        · rw [eF, e]
        · rw [eF, e]
      · refine w39 false ?_
        unfold FX
        have : decide (Gd i j ∧ i % 2 = 1 ∧ j % 2 = 1) = false := by rw [decide_eq_false_iff_not]; omega
        rw [this, Bool.false_and]
theorem fa_o {post : SX → Prop} {n : Int} {X Y : Int → Int} {S : Int → Int → Int → Bool} (T : Pth n X Y cx cy px py)
    (f : ∀ a', XP a' (setl S 6 (clos (FX n X Y))) → post (zI n, rc, gc, lr, rk, a', cx, cy, re, st, dg)) (HH : HS S) :
    ∀ (N : Nat) (j : Int) (a : Nat → Int32), 0 ≤ j → j ≤ 25 → (25 - j).toNat < N → XP a (swp S 6 (FX n X Y) 0 j) → wX_setFillingAside_2 post N (zI j) (zI n) rc gc lr rk a cx cy re st dg := by
  intro N
  induction N with
  | zero => intro i a h0 h1; omega
  | succ N ih =>
    intro j a h0 h1 h2 P
    refine zb_le 25 j (fun h => ?_) (fun h => ⟨26, fa_i T (by omega) (fun a' P' => ih (j + 1) a' (by omega) (by omega) (by omega) P') 26 0 a (by omega) (by omega) (by omega) P⟩)
    have e : j = 25 := by omega
    subst e
    have P' : XP a (setl S 6 (FX n X Y)) := by
      refine px_c P (fun s i j => ?_)
      rw [sw_e]
      unfold put setl
      by_cases e : s = 6
      · rw [if_pos e]
        by_cases gd : Gd i j
        · rw [if_pos ⟨e, gd⟩]
        · rw [if_neg (fun h => gd h.2)]
          have n1 : S s i j = false := by
            cases z : S s i j
            · rfl
            · exact absurd (HH _ _ _ z) gd
          have n2 : FX n X Y i j = false := by
            cases z : FX n X Y i j
            · rfl
            · exact absurd (fx_s _ _ z) gd
          rw [n1, n2]
      · rw [if_neg (fun h => e h.1), if_neg e]
    refine xp_close P' 6 (by omega) (fun a' P2 => f a' (px_c P2 (fun s i j => ?_)))
    unfold setl
    by_cases e : s = 6
    · rw [if_pos e, if_pos e, if_pos rfl]
    · rw [if_neg e, if_neg e, if_neg e]
theorem xp_fa {post : SX → Prop} {n : Int} {X Y : Int → Int} {S : Int → Int → Int → Bool} (P : XP a S) (T : Pth n X Y cx cy px py)
    (f : ∀ a', XP a' (setl S 6 (clos (FX n X Y))) → post (zI n, rc, gc, lr, rk, a', cx, cy, re, st, dg)) : wpX_setFillingAside post (zI n, rc, gc, lr, rk, a, cx, cy, re, st, dg) := by
  unfold wpX_setFillingAside
  exact ⟨26, fa_o T f P.2 26 0 a (by omega) (by omega) (by omega) (px_c P sw_0)⟩
theorem xp_ring {post : Int32 → Prop} {n : Int} {X Y : Int → Int} (T : Pth n X Y cx cy px py)
    (f : 1 ≤ n → X (n - 1) = X 0 ∨ Y (n - 1) = Y 0 → post 1) (g : ¬ (1 ≤ n ∧ (X (n - 1) = X 0 ∨ Y (n - 1) = Y 0)) → post 0) : wpX_hasRing post (zI n, rc, gc, lr, rk, a, cx, cy, re, st, dg) := by
  have hn := T.1
  unfold wpX_hasRing
  refine zb_le n 0 (fun h => g (by omega)) (fun h => ?_)
  obtain ⟨b1, b2, b3, b4, -, -⟩ := T.2.1 (n - 1) (by omega) (by omega)
  obtain ⟨d1, d2, d3, d4, -, -⟩ := T.2.1 0 (by omega) (by omega)
  have d3' : cx 0 = zI (X 0) := d3
  have d4' : cy 0 = zI (Y 0) := d4
  have vi : vp_in (zI n - 1) 24 := zv_in (n - 1) (by omega) (zi_s1 n)
  have ec : (zI n - 1).toNatClampNeg = (n - 1).toNat := zv_cl (n - 1) (zi_s1 n)
  rw [ec, b3, b4, d3', d4']
  refine ⟨vi, zb_eq (X 0) (X (n - 1)) (fun e => f (by omega) (Or.inl e.symm)) (fun e => ⟨vi, zb_eq (Y 0) (Y (n - 1)) (fun e2 => f (by omega) (Or.inr e2.symm)) (fun e2 => g (by omega))⟩)⟩
end
