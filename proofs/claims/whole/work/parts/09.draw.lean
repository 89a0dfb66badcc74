/-! draw -/
def rct (x1 y1 x2 y2 i j : Int) : Prop := ((2 * x1 ≤ i ∧ i ≤ 2 * x2) ∨ (2 * x2 ≤ i ∧ i ≤ 2 * x1)) ∧ ((2 * y1 ≤ j ∧ j ≤ 2 * y2) ∨ (2 * y2 ≤ j ∧ j ≤ 2 * y1))
def Mk (S : Int → Int → Int → Bool) (l : Int) (R : Int → Int → Prop) (S' : Int → Int → Int → Bool) : Prop :=
  (∀ s, s ≠ l → S' s = S s) ∧ ∀ i j, (S' l i j = true ↔ S l i j = true ∨ R i j)
theorem mk_0 {S : Int → Int → Int → Bool} {l : Int} {R : Int → Int → Prop} (h : ∀ i j, ¬ R i j) : Mk S l R S :=
  ⟨fun _ _ => rfl, fun i j => ⟨Or.inl, fun q => q.elim id (fun r => absurd r (h i j))⟩⟩
theorem mk_c {S S' : Int → Int → Int → Bool} {l : Int} {R R' : Int → Int → Prop} (m : Mk S l R S') (h : ∀ i j, R i j ↔ R' i j) : Mk S l R' S' :=
  ⟨m.1, fun i j => by rw [m.2 i j, h i j]⟩
theorem mk_w {S S' : Int → Int → Int → Bool} {l : Int} {R R' : Int → Int → Prop} {i0 j0 : Int} (m : Mk S l R S') (h : ∀ i j, R' i j ↔ R i j ∨ (i = i0 ∧ j = j0)) : Mk S l R' (sto S' l i0 j0 true) := by
  refine ⟨fun s hs => ?_, fun i j => ?_⟩
  · rw [← m.1 s hs]; funext i j; unfold sto; rw [if_neg (fun q => hs q.1)]
  · unfold sto
    by_cases q : l = l ∧ i = i0 ∧ j = j0
    · rw [if_pos q]; exact ⟨fun _ => Or.inr ((h i j).mpr (Or.inr q.2)), fun _ => rfl⟩
    · rw [if_neg q, m.2 i j, h i j]
      exact ⟨fun z => z.elim Or.inl (fun z => Or.inr (Or.inl z)), fun z => z.elim Or.inl (fun z => z.elim Or.inr (fun z => absurd ⟨rfl, z⟩ q))⟩
theorem mk_t {S S' S'' : Int → Int → Int → Bool} {l : Int} {R R' R'' : Int → Int → Prop} (m : Mk S l R S') (m' : Mk S' l R' S'') (h : ∀ i j, R'' i j ↔ R i j ∨ R' i j) : Mk S l R'' S'' := by
  refine ⟨fun s hs => (m'.1 s hs).trans (m.1 s hs), fun i j => ?_⟩
  rw [m'.2 i j, m.2 i j, h i j, or_assoc]
theorem mk_u {S S' S'' : Int → Int → Int → Bool} {l : Int} {R R' : Int → Int → Prop} (m : Mk S l R S') (m' : Mk S l R' S'') (h : ∀ i j, R i j ↔ R' i j) : S' = S'' := by
  funext s
  by_cases e : s = l
  · subst e
    funext i j
    have h1 := m.2 i j
    have h2 := m'.2 i j
    rw [h i j, ← h2] at h1
    cases e1 : S' s i j <;> cases e2 : S'' s i j
    · rfl
    · exact absurd (h1.mpr e2) (by rw [e1]; decide)
    · exact absurd (h1.mp e1) (by rw [e2]; decide)
    · rfl
  · rw [m.1 s e, m'.1 s e]
section
variable {c rc gc lr rk : Int32} {a cx cy re st dg : Nat → Int32} {S S' : Int → Int → Int → Bool}
theorem dx_i {post : SX → Prop} {J : Int32 → Int32 → Int32 → Int32 → Int32 → Int32 → (Nat → Int32) → (Nat → Int32) → (Nat → Int32) → (Nat → Int32) → (Nat → Int32) → (Nat → Int32) → Prop} {l p q y0 y1 j : Int} (hl : 0 ≤ l ∧ l ≤ 5) (hp : 0 ≤ p ∧ p ≤ q) (hq : q ≤ 12) (hy : 0 ≤ y0 ∧ y1 ≤ 12) (hj : 2 * y0 ≤ j ∧ j ≤ 2 * y1)
    (hJ : ∀ a' S', XP a' S' → Mk S l (fun i' j' => (2 * p ≤ i' ∧ i' ≤ 2 * q) ∧ 2 * y0 ≤ j' ∧ j' < j + 1) S' → J (zI (j + 1)) c rc gc lr rk a' cx cy re st dg) :
    ∀ (N : Nat) (i : Int) (a : Nat → Int32) (S' : Int → Int → Int → Bool), 2 * p ≤ i → i ≤ 2 * q + 1 → (2 * q + 1 - i).toNat < N → XP a S' → Mk S l (fun i' j' => (2 * p ≤ i' ∧ i' ≤ 2 * q) ∧ 2 * y0 ≤ j' ∧ (j' < j ∨ (j' = j ∧ i' < i))) S' → wX_addStep_125 post J (zI l) (zI p) (zI q) (zI y1) (zI j) N (zI i) c rc gc lr rk a cx cy re st dg := by
  intro N
  induction N with
  | zero => intro i a S' h0 h1 h2; omega
  | succ N ih =>
    intro i a S' h0 h1 h2 P m
    refine zb_lt (2 * q) i (fun h => nm_r (zi_1 j) (hJ a S' P (mk_c m (fun i j => by omega)))) (fun h => ?_) (zi_dbl q)
    refine xp_write P l i j true (by omega) (by omega) (fun a' P' => nm_r (zi_1 i) ?_)
    exact ih (i + 1) a' _ (by omega) (by omega) (by omega) P' (mk_w m (fun i' j' => by omega))
theorem dx_o {post : SX → Prop} {l p q y0 y1 : Int} (hl : 0 ≤ l ∧ l ≤ 5) (hp : 0 ≤ p ∧ p ≤ q) (hq : q ≤ 12) (hy : 0 ≤ y0 ∧ y0 ≤ y1 ∧ y1 ≤ 12)
    (f : ∀ a' S', XP a' S' → Mk S l (fun i' j' => (2 * p ≤ i' ∧ i' ≤ 2 * q) ∧ 2 * y0 ≤ j' ∧ j' ≤ 2 * y1) S' → post (c, rc, gc, lr, rk, a', cx, cy, re, st, dg)) :
    ∀ (N : Nat) (j : Int) (a : Nat → Int32) (S' : Int → Int → Int → Bool), 2 * y0 ≤ j → j ≤ 2 * y1 + 1 → (2 * y1 + 1 - j).toNat < N → XP a S' → Mk S l (fun i' j' => (2 * p ≤ i' ∧ i' ≤ 2 * q) ∧ 2 * y0 ≤ j' ∧ j' < j) S' → wX_addStep_110 post (zI l) (zI p) (zI q) (zI y1) N (zI j) c rc gc lr rk a cx cy re st dg := by
  intro N
  induction N with
  | zero => intro i a S' h0 h1 h2; omega
  | succ N ih =>
    intro j a S' h0 h1 h2 P m
    refine zb_lt (2 * y1) j (fun h => f a S' P (mk_c m (fun i j => by omega))) (fun h => nm_r (zi_dbl p) ⟨26, ?_⟩) (zi_dbl y1)
    exact dx_i hl hp hq ⟨hy.1, hy.2.2⟩ ⟨h0, by omega⟩ (fun a' S'' P' m' => ih (j + 1) a' S'' (by omega) (by omega) (by omega) P' m') 26 (2 * p) a S' (by omega) (by omega) (by omega) P (mk_c m (fun i j => by omega))
theorem dx_s {post : SX → Prop} (P : XP a S) {l p q x1 y1 x2 y2 : Int} (hl : 0 ≤ l ∧ l ≤ 5) (hp : 0 ≤ p ∧ p ≤ 23) (hq : 0 ≤ q ∧ q ≤ 23) (r1 : 0 ≤ x1 ∧ x1 ≤ 12) (r2 : 0 ≤ y1 ∧ y1 ≤ 12) (r3 : 0 ≤ x2 ∧ x2 ≤ 12) (r4 : 0 ≤ y2 ∧ y2 ≤ 12) (e1 : cx p.toNat = zI x1) (e2 : cy p.toNat = zI y1) (e3 : cx q.toNat = zI x2) (e4 : cy q.toNat = zI y2)
    (f : ∀ a' S', XP a' S' → Mk S l (rct x1 y1 x2 y2) S' → post (c, rc, gc, lr, rk, a', cx, cy, re, st, dg)) : wpX_addStep post (c, rc, gc, lr, rk, a, cx, cy, re, st, dg) (zI l) (zI p) (zI q) := by
  have v1 : vp_in (zI p) 24 := zv_in p (by omega)
  have v2 : vp_in (zI q) 24 := zv_in q (by omega)
  have c1 : (zI p).toNatClampNeg = p.toNat := zi_cl (by omega)
  have c2 : (zI q).toNatClampNeg = q.toNat := zi_cl (by omega)
  have k62 : ∀ lx ly : Int, lx = (if x1 < x2 then x1 else x2) → ly = (if y1 < y2 then y1 else y2) → wX_addStep_62 post (zI l) (zI p) (zI q) (zI lx) (zI ly) c rc gc lr rk a cx cy re st dg := by
    intro lx ly ex ey
    unfold wX_addStep_62
    rw [c1, c2, e1, e2, e3, e4]
    have hx : lx ≤ lx + ds x1 x2 ∧ lx + ds x1 x2 ≤ 12 ∧ 0 ≤ lx := by rw [ex]; unfold ds; split <;> omega
    have hy : ly ≤ ly + ds y1 y2 ∧ ly + ds y1 y2 ≤ 12 ∧ 0 ≤ ly := by rw [ey]; unfold ds; split <;> omega
    refine ⟨v1, v2, xp_gap x1 x2 (by omega) (by omega) (nm_r (zi_add _ _) ⟨v1, v2, xp_gap y1 y2 (by omega) (by omega) (nm_r (zi_add _ _) (nm_r (zi_dbl ly) ⟨26, ?_⟩))⟩)⟩
    refine dx_o (y0 := ly) hl (by omega) (by omega) (by omega) (fun a' S' P' m' => f a' S' P' (mk_c m' (fun i j => ?_))) 26 (2 * ly) a S (by omega) (by omega) (by omega) P (mk_0 (fun i j => by omega))
    unfold rct
    rw [ex, ey]
    unfold ds
    split <;> split <;> omega
  have k30 : ∀ lx : Int, lx = (if x1 < x2 then x1 else x2) → wX_addStep_30 post (zI l) (zI p) (zI q) (zI lx) c rc gc lr rk a cx cy re st dg := by
    intro lx ex
    unfold wX_addStep_30
    rw [c1, c2, e2, e4]
    refine ⟨v1, v2, zb_le y2 y1 (fun h => ⟨v2, k62 lx _ ex ?_⟩) (fun h => ⟨v1, k62 lx _ ex ?_⟩)⟩
    · rw [if_neg (by omega)]
    · rw [if_pos (by omega)]
  unfold wpX_addStep
  dsimp only
  rw [c1, c2, e1, e3]
  refine ⟨v1, v2, zb_le x2 x1 (fun h => ⟨v2, k30 _ ?_⟩) (fun h => ⟨v1, k30 _ ?_⟩)⟩
  · rw [if_neg (by omega)]
  · rw [if_pos (by omega)]
end
def nxt (n k : Int) : Int := if k + 1 < n then k + 1 else k
def onX (n : Int) (X Y : Int → Int) (m i j : Int) : Prop := ∃ k, 0 ≤ k ∧ k < m ∧ rct (X k) (Y k) (X (nxt n k)) (Y (nxt n k)) i j
def onY (X Y : Int → Int) (m i j : Int) : Prop := (i = 2 * X 0 ∧ j = 2 * Y 0) ∨ ∃ k, 0 ≤ k ∧ k < m ∧ rct (X k) (Y k) (X (k + 1)) (Y (k + 1)) i j
theorem on_s {n : Int} {X Y : Int → Int} {m i j : Int} (h : 0 ≤ m) : onX n X Y (m + 1) i j ↔ onX n X Y m i j ∨ rct (X m) (Y m) (X (nxt n m)) (Y (nxt n m)) i j := by
  constructor
  · rintro ⟨k, k0, k1, hr⟩
    by_cases e : k = m
    · subst e; exact Or.inr hr
    · exact Or.inl ⟨k, k0, by omega, hr⟩
  · rintro (⟨k, k0, k1, hr⟩ | hr)
    · exact ⟨k, k0, by omega, hr⟩
    · exact ⟨m, h, by omega, hr⟩
theorem on_e {n : Int} {X Y : Int → Int} {i j : Int} (hn : 1 ≤ n) : onX n X Y n i j ↔ onY X Y (n - 1) i j := by
  constructor
  · rintro ⟨k, k0, k1, hr⟩
    by_cases e : k + 1 < n
    · unfold nxt at hr; rw [if_pos e] at hr
      exact Or.inr ⟨k, k0, by omega, hr⟩
    · unfold nxt at hr; rw [if_neg e] at hr
      by_cases e2 : k = 0
      · subst e2
        left
        unfold rct at hr; omega
      · right
        refine ⟨k - 1, by omega, by omega, ?_⟩
        have e3 : k - 1 + 1 = k := by omega
        rw [e3]
        unfold rct at hr ⊢; omega
  · rintro (h | ⟨k, k0, k1, hr⟩)
    · refine ⟨0, by omega, by omega, ?_⟩
      unfold rct; omega
    · refine ⟨k, k0, by omega, ?_⟩
      unfold nxt; rw [if_pos (by omega)]; exact hr
section
variable {rc gc lr rk : Int32} {cx cy re st dg px py : Nat → Int32} {S : Int → Int → Int → Bool}
theorem dx_d {post : Int32 → SX → Prop} {l n : Int} {X Y : Int → Int} (hl : 0 ≤ l ∧ l ≤ 5) (T : Pth n X Y cx cy px py)
    (f : ∀ a' S', XP a' S' → Mk S l (onX n X Y n) S' → post 1 (zI n, rc, gc, lr, rk, a', cx, cy, re, st, dg)) :
    ∀ (N : Nat) (k : Int) (a : Nat → Int32) (S' : Int → Int → Int → Bool), 0 ≤ k → k ≤ n → (n - k).toNat < N → XP a S' → Mk S l (onX n X Y k) S' → wX_draw_18 post (zI l) N (zI k) (zI n) rc gc lr rk a cx cy re st dg := by
  have hn := T.1
  intro N
  induction N with
  | zero => intro i a S' h0 h1 h2; omega
  | succ N ih =>
    intro k a S' h0 h1 h2 P m
    refine zb_le n k (fun h => ?_) (fun h => ?_)
    · have e : k = n := by omega
      subst e; exact f a S' P m
    · have key : ∀ z : Int, z = nxt n k → wX_draw_43 post (wX_draw_18 post (zI l) N) (zI l) (zI k) (zI z) (zI n) rc gc lr rk a cx cy re st dg := by
        intro z ez
        have hz : 0 ≤ z ∧ z < n := by rw [ez]; unfold nxt; split <;> omega
        obtain ⟨b1, b2, b3, b4, -, -⟩ := T.2.1 k h0 h
        obtain ⟨d1, d2, d3, d4, -, -⟩ := T.2.1 z hz.1 hz.2
        unfold wX_draw_43
        refine dx_s P hl (by omega) (by omega) b1 b2 d1 d2 b3 b4 d3 d4 (fun a' S'' P' m' => nm_r (zi_1 k) ?_)
        refine ih (k + 1) a' S'' (by omega) (by omega) (by omega) P' (mk_t m m' (fun i j => ?_))
        rw [on_s h0, ez]
      refine zb_le n (k + 1) (fun h3 => key k ?_) (fun h3 => ?_) rfl (zi_1 k)
      · unfold nxt; rw [if_neg (by omega)]
      · rw [zi_1]
        refine key (k + 1) ?_
        unfold nxt; rw [if_pos (by omega)]
end
theorem bi_or (b b' : Bool) : bI b ||| bI b' = bI (b || b') := by cases b <;> cases b' <;> decide
section
variable {fi ma se px py la cx cy : Nat → Int32} {S : Int → Int → Int → Bool}
theorem yp_step {post : Int32 → Prop} {c : Int32} {ly : Nat → Int32} {i j k x1 y1 x2 y2 : Int} (hi : -10 ≤ i ∧ i ≤ 100) (hj : -10 ≤ j ∧ j ≤ 100) (hk : 0 ≤ k ∧ k ≤ 23) (r1 : 0 ≤ x1 ∧ x1 ≤ 12) (r2 : 0 ≤ y1 ∧ y1 ≤ 12) (r3 : 0 ≤ x2 ∧ x2 ≤ 12) (r4 : 0 ≤ y2 ∧ y2 ≤ 12) (e1 : px k.toNat = zI x1) (e2 : py k.toNat = zI y1) (e3 : px (k + 1).toNat = zI x2) (e4 : py (k + 1).toNat = zI y2)
    (f : rct x1 y1 x2 y2 i j → post 1) (g : ¬ rct x1 y1 x2 y2 i j → post 0) : wpY_onStep post (c, ly, fi, ma, se, px, py, la) (zI i) (zI j) (zI k) := by
  have v1 : vp_in (zI k) 25 := zv_in k (by omega)
  have v2 : vp_in (zI k + 1) 25 := zv_in (k + 1) (by omega) (zi_1 k)
  have c1 : (zI k).toNatClampNeg = k.toNat := zi_cl (by omega)
  have c2 : (zI k + 1).toNatClampNeg = (k + 1).toNat := zv_cl (k + 1) (zi_1 k)
  have s80 : (2 * x1 ≤ i ∧ i ≤ 2 * x2) ∨ (2 * x2 ≤ i ∧ i ≤ 2 * x1) → ¬ (2 * y1 ≤ j ∧ j ≤ 2 * y2) → wY_onStep_80 post (zI j) (zI (2 * y1)) (zI (2 * y2)) c ly fi ma se px py la := by
    intro hx hy
    refine zb_lt j (2 * y2) (fun h => g (by unfold rct; omega)) (fun h => zb_lt (2 * y1) j (fun h2 => g (by unfold rct; omega)) (fun h2 => f (by unfold rct; omega)))
  have s68 : (2 * x1 ≤ i ∧ i ≤ 2 * x2) ∨ (2 * x2 ≤ i ∧ i ≤ 2 * x1) → wY_onStep_68 post (zI j) (zI (2 * y1)) (zI (2 * y2)) c ly fi ma se px py la := by
    intro hx
    refine zb_lt j (2 * y1) (fun h => s80 hx (by omega)) (fun h => zb_le j (2 * y2) (fun h2 => f (by unfold rct; omega)) (fun h2 => s80 hx (by omega)))
  have s56 : ¬ (2 * x1 ≤ i ∧ i ≤ 2 * x2) → wY_onStep_56 post (zI i) (zI j) (zI (2 * x1)) (zI (2 * x2)) (zI (2 * y1)) (zI (2 * y2)) c ly fi ma se px py la := by
    intro hx
    refine zb_lt i (2 * x2) (fun h => g (by unfold rct; omega)) (fun h => zb_lt (2 * x1) i (fun h2 => g (by unfold rct; omega)) (fun h2 => s68 (by omega)))
  unfold wpY_onStep
  dsimp only
  rw [c1, c2, e1, e2, e3, e4]
  refine ⟨v1, nm_r (zi_dbl x1) ⟨v2, nm_r (zi_dbl x2) ⟨v1, nm_r (zi_dbl y1) ⟨v2, nm_r (zi_dbl y2) ?_⟩⟩⟩⟩
  exact zb_lt i (2 * x1) (fun h => s56 (by omega)) (fun h => zb_le i (2 * x2) (fun h2 => s68 (by omega)) (fun h2 => s56 (by omega)))
theorem dy_i {post : Int32 → SY → Prop} {J : Int32 → (Nat → Int32) → (Nat → Int32) → (Nat → Int32) → (Nat → Int32) → (Nat → Int32) → (Nat → Int32) → (Nat → Int32) → Prop} {ly : Nat → Int32} {l n q : Int} {X Y : Int → Int} (hl : 0 ≤ l ∧ l ≤ 5) (T : Pth n X Y cx cy px py) (hn : 1 ≤ n) (hq : 0 ≤ q ∧ q ≤ 624)
    (hJ : onY X Y (n - 1) (q / 25) (q % 25) → J (zI (q + 1)) (upd ly (625 * l + q).toNat (bI true)) fi ma se px py la) (hJ' : ¬ onY X Y (n - 1) (q / 25) (q % 25) → J (zI (q + 1)) ly fi ma se px py la) :
    ∀ (N : Nat) (k : Int) (b : Bool), 0 ≤ k → k + 1 ≤ n → (n - k).toNat < N → (b = true ↔ onY X Y k (q / 25) (q % 25)) → wY_draw_72 post J (zI l) (zI q) (zI (q / 25)) (zI (q % 25)) (zI n) ly fi ma se px py la N (bI b) (zI k) := by
  have hn4 := T.1
  intro N
  induction N with
  | zero => intro i a S' h0 h1; omega
  | succ N ih =>
    intro k b h0 h1 h2 hb
    refine zb_le n (k + 1) (fun h => ?_) (fun h => ?_) rfl (zi_1 k)
    · have e : k = n - 1 := by omega
      subst e
      refine bb_0 (fun e => nm_r (zi_1 q) (hJ' (fun hh => ?_))) (fun e => ?_)
      · rw [e] at hb; exact absurd (hb.mpr hh) (by decide)
      · have e1 := zi_in2 l q
        refine ⟨zv_in (625 * l + q) (by omega) e1, nm_e (nm_r (zi_1 q) ?_)⟩
        rw [zv_cl _ e1]
        exact hJ (hb.mp e)
    · obtain ⟨b1, b2, -, -, b3, b4⟩ := T.2.1 k h0 (by omega)
      obtain ⟨d1, d2, -, -, d3, d4⟩ := T.2.1 (k + 1) (by omega) (by omega)
      refine yp_step (by omega) (by omega) (by omega) b1 b2 d1 d2 b3 b4 d3 d4 (fun hr => nm_r (bi_or b true) (nm_r (zi_1 k) (ih (k + 1) _ (by omega) (by omega) (by omega) ?_))) (fun hr => nm_r (bi_or b false) (nm_r (zi_1 k) (ih (k + 1) _ (by omega) (by omega) (by omega) ?_)))
      · refine ⟨fun _ => Or.inr ⟨k, h0, by omega, hr⟩, fun _ => by simp⟩
      · have e : (b || false) = b := by simp
        rw [e, hb]
        constructor
        · rintro (h | ⟨k', h3, h4, h5⟩)
          · exact Or.inl h
          · exact Or.inr ⟨k', h3, by omega, h5⟩
        · rintro (h | ⟨k', h3, h4, h5⟩)
          · exact Or.inl h
          · by_cases e : k' = k
            · subst e; exact absurd h5 hr
            · exact Or.inr ⟨k', h3, by omega, h5⟩
theorem dy_o {post : Int32 → SY → Prop} {l n : Int} {X Y : Int → Int} (hl : 0 ≤ l ∧ l ≤ 5) (T : Pth n X Y cx cy px py) (hn : 1 ≤ n)
    (f : ∀ ly' S', YP ly' S' → Mk S l (fun i j => Gd i j ∧ onY X Y (n - 1) i j) S' → post 1 (zI n, ly', fi, ma, se, px, py, la)) :
    ∀ (N : Nat) (q : Int) (ly : Nat → Int32) (S' : Int → Int → Int → Bool), 0 ≤ q → q ≤ 625 → (625 - q).toNat < N → YP ly S' → Mk S l (fun i j => 25 * i + j < q ∧ Gd i j ∧ onY X Y (n - 1) i j) S' → wY_draw_19 post (zI l) (zI n) N (zI q) ly fi ma se px py la := by
  have hn4 := T.1
  obtain ⟨b1, b2, -, -, b3, b4⟩ := T.2.1 0 (by omega) (by omega)
  intro N
  induction N with
  | zero => intro i a S' h0 h1; omega
  | succ N ih =>
    intro q ly S' h0 h1 h2 Q m
    refine zb_le 625 q (fun h => f ly S' Q (mk_c m (fun i j => ⟨fun z => z.2, fun z => ⟨by omega, z⟩⟩))) (fun h => ?_)
    refine ⟨by decide, nm_r (zi_d25 (by omega)) ⟨by decide, nm_r (zi_r25 (by omega)) ?_⟩⟩
    have gq : Gd (q / 25) (q % 25) := by omega
    have ei : 625 * l + q = 625 * l + 25 * (q / 25) + q % 25 := by omega
    have go : ∀ b : Bool, (b = true ↔ onY X Y 0 (q / 25) (q % 25)) → ∃ n72 : Nat, wY_draw_72 post (wY_draw_19 post (zI l) (zI n) N) (zI l) (zI q) (zI (q / 25)) (zI (q % 25)) (zI n) ly fi ma se px py la n72 (bI b) 0 := by
      intro b hb
      refine ⟨26, dy_i hl T hn (by omega) (fun hh => ?_) (fun hh => ?_) 26 0 b (by omega) (by omega) (by omega) hb⟩
      · rw [ei]
        refine ih (q + 1) _ _ (by omega) (by omega) (by omega) (yp_sto Q hl gq) (mk_w m (fun i j => ?_))
        constructor
        · rintro ⟨z1, z2, z3⟩
          by_cases e : 25 * i + j < q
          · exact Or.inl ⟨e, z2, z3⟩
          · exact Or.inr (by omega)
        · rintro (⟨z1, z2, z3⟩ | ⟨rfl, rfl⟩)
          · exact ⟨by omega, z2, z3⟩
          · exact ⟨by omega, gq, hh⟩
      · refine ih (q + 1) _ _ (by omega) (by omega) (by omega) Q (mk_c m (fun i j => ?_))
        constructor
        · rintro ⟨z1, z2, z3⟩
          exact ⟨by omega, z2, z3⟩
        · rintro ⟨z1, z2, z3⟩
          by_cases e : 25 * i + j < q
          · exact ⟨e, z2, z3⟩
          · have e1 : i = q / 25 := by omega
            have e2 : j = q % 25 := by omega
            rw [e1, e2] at z3; exact absurd z3 hh
    have b3' : px 0 = zI (X 0) := b3
    have b4' : py 0 = zI (Y 0) := b4
    rw [b3', b4', zi_dbl, zi_dbl]
    refine zb_eq (q / 25) (2 * X 0) (fun e1 => zb_eq (q % 25) (2 * Y 0) (fun e2 => go true ?_) (fun e2 => go false ?_)) (fun e1 => go false ?_)
    · exact ⟨fun _ => Or.inl ⟨e1, e2⟩, fun _ => rfl⟩
    · exact ⟨fun z => (nomatch z), fun z => by rcases z with z | ⟨k, k0, k1, _⟩ <;> omega⟩
    · exact ⟨fun z => (nomatch z), fun z => by rcases z with z | ⟨k, k0, k1, _⟩ <;> omega⟩
end
theorem mk_clo {S S' : Int → Int → Int → Bool} {l : Int} {R : Int → Int → Prop} (C : CL S) (m : Mk S l R S') (h : ∀ i j, R i j → (i % 2 = 1 → R (i - 1) j ∧ R (i + 1) j) ∧ (j % 2 = 1 → R i (j - 1) ∧ R i (j + 1))) : CL S' := by
  intro s s0 s5
  by_cases e : s = l
  · subst e
    intro i j hh
    rcases (m.2 i j).mp hh with h1 | h1
    · have := C s s0 s5 i j h1
      exact ⟨fun o => ⟨(m.2 _ _).mpr (Or.inl (this.1 o).1), (m.2 _ _).mpr (Or.inl (this.1 o).2)⟩, fun o => ⟨(m.2 _ _).mpr (Or.inl (this.2 o).1), (m.2 _ _).mpr (Or.inl (this.2 o).2)⟩⟩
    · have := h i j h1
      exact ⟨fun o => ⟨(m.2 _ _).mpr (Or.inr (this.1 o).1), (m.2 _ _).mpr (Or.inr (this.1 o).2)⟩, fun o => ⟨(m.2 _ _).mpr (Or.inr (this.2 o).1), (m.2 _ _).mpr (Or.inr (this.2 o).2)⟩⟩
  · rw [m.1 s e]; exact C s s0 s5
theorem i_vc_draw {k : Nat} {u : SX} {v : SY} (I : i_Rel k u v) (hk : k + 5 ≤ 2560) (v1 : Int32) : wpX_draw (fun r u' => wpY_draw (fun r' v' => r' = r ∧ i_Rel (k + 5) u' v') v v1) u v1 := by
  obtain ⟨c, rc, gc, lr, rk, a, cx, cy, re, st, dg⟩ := u
  obtain ⟨c', ly, fi, ma, se, px, py, la⟩ := v
  obtain ⟨S, n, X, Y, P, Q, C, T, rfl, rfl⟩ := I
  obtain ⟨l, hl, rfl⟩ := zi_ex v1
  have hn := T.1
  have R0 : i_Rel (k + 5) (zI n, rc, gc, lr, rk, a, cx, cy, re, st, dg) (zI n, ly, fi, ma, se, px, py, la) := i_mk P Q C T
  unfold wpX_draw
  refine xg_layer l hl (fun h1 => b1_f (zb_eq n 0 (fun h2 => ?_) (fun h2 => ?_))) (fun h1 => b0_t ?_)
  · unfold wpY_draw
    exact yg_layer l hl (fun _ => b1_f (zb_eq n 0 (fun _ => ⟨rfl, R0⟩) (fun h => absurd h2 h))) (fun h => absurd h1 h)
  · refine ⟨26, dx_d h1 T (fun a' S' P' m' => ?_) 26 0 a S (by omega) (by omega) (by omega) P (mk_0 (fun i j => fun ⟨k, k0, k1, _⟩ => by omega))⟩
    unfold wpY_draw
    refine yg_layer l hl (fun _ => b1_f (zb_eq n 0 (fun h => absurd h h2) (fun _ => ?_))) (fun h => absurd h1 h)
    refine ⟨626, dy_o h1 T (by omega) (fun ly' S'' Q' m'' => ⟨rfl, ?_⟩) 626 0 ly S (by omega) (by omega) (by omega) Q (mk_0 (fun i j z => by omega))⟩
    have rr : ∀ i j, onX n X Y n i j → Gd i j := by
      rintro i j ⟨q, q0, q1, hr⟩
      obtain ⟨d1, d2, -⟩ := T.2.1 q q0 q1
      obtain ⟨d3, d4, -⟩ := T.2.1 (nxt n q) (by unfold nxt; split <;> omega) (by unfold nxt; split <;> omega)
      unfold rct at hr; omega
    have e : S' = S'' := mk_u m' m'' (fun i j => ⟨fun z => ⟨rr i j z, (on_e (by omega)).mp z⟩, fun z => (on_e (by omega)).mpr z.2⟩)
    subst e
    refine i_mk P' Q' (mk_clo C m' (fun i j => ?_)) T
    rintro ⟨q, q0, q1, hr⟩
    unfold rct at hr
    refine ⟨fun o => ⟨⟨q, q0, q1, ?_⟩, ⟨q, q0, q1, ?_⟩⟩, fun o => ⟨⟨q, q0, q1, ?_⟩, ⟨q, q0, q1, ?_⟩⟩⟩ <;> (unfold rct; omega)
  · unfold wpY_draw
    exact yg_layer l hl (fun h => absurd h h1) (fun _ => b0_t ⟨rfl, R0⟩)
