/-! begin, go, point -/
theorem i_vc_begin {k : Nat} {u : SX} {v : SY} (I : i_Rel k u v) (hk : k + 5 ≤ 2560) (v1 : Int32) (v2 : Int32) : wpX_begin (fun r u' => wpY_begin (fun r' v' => r' = r ∧ i_Rel (k + 5) u' v') v v1 v2) u v1 v2 := by
  obtain ⟨c, rc, gc, lr, rk, a, cx, cy, re, st, dg⟩ := u
  obtain ⟨c', ly, fi, ma, se, px, py, la⟩ := v
  obtain ⟨S, n, X, Y, P, Q, C, T, rfl, rfl⟩ := I
  obtain ⟨x, hx, rfl⟩ := zi_ex v1
  obtain ⟨y, hy, rfl⟩ := zi_ex v2
  have bad : ¬ ((0 ≤ x ∧ x ≤ 12) ∧ (0 ≤ y ∧ y ≤ 12)) → wpY_begin (fun r' v' => r' = 0 ∧ i_Rel (k + 5) (zI n, rc, gc, lr, rk, a, cx, cy, re, st, dg) v') (zI n, ly, fi, ma, se, px, py, la) (zI x) (zI y) := by
    intro h
    unfold wpY_begin
    exact yg_coord x y hx hy (fun h' => absurd h' h) (fun _ => b0_t ⟨rfl, i_mk P Q C T⟩)
  unfold wpX_begin
  refine xg_coord x hx (fun h1 => b1_f ?_) (fun h1 => b0_t (bad (fun h => h1 h.1)))
  refine xg_coord y hy (fun h2 => b1_f ?_) (fun h2 => b0_t (bad (fun h => h2 h.2)))
  refine nm_e (nm_e ?_)
  unfold wpY_begin
  refine yg_coord x y hx hy (fun _ => b1_f (nm_e (nm_e ⟨rfl, ?_⟩))) (fun h => absurd ⟨h1, h2⟩ h)
  refine i_mk (n := 1) (X := fun _ => x) (Y := fun _ => y) P Q C ⟨by omega, fun q q0 q1 => ?_, fun q q0 q1 => absurd q1 (by omega)⟩
  have e : q = 0 := by omega
  subst e
  exact ⟨h1, h2, rfl, rfl, rfl, rfl⟩
theorem yp_apart {post : Int32 → Prop} {v : SY} (x y p q : Int) (hx : Rg x) (hy : Rg y) (hp : Rg p) (hq : Rg q) (f : (x ≠ p ∧ y = q) ∨ (x = p ∧ y ≠ q) → post 1) (g : ¬ ((x ≠ p ∧ y = q) ∨ (x = p ∧ y ≠ q)) → post 0) : wpY_oneApart post v (zI x) (zI y) (zI p) (zI q) := by
  unfold wpY_oneApart
  refine zb_eq x p (fun h => zb_eq y q (fun h' => ?_) (fun h' => ?_)) (fun h => zb_eq y q (fun h' => ?_) (fun h' => ?_))
  · exact br_t rfl (g (by omega))
  · exact br_f (by decide) (f (by omega))
  · exact br_f (by decide) (f (by omega))
  · exact br_t rfl (g (by omega))
theorem pt_push {n : Int} {X Y : Int → Int} {cx cy px py : Nat → Int32} (T : Pth n X Y cx cy px py) {x y : Int} (hx : 0 ≤ x ∧ x ≤ 12) (hy : 0 ≤ y ∧ y ≤ 12) (hn : 1 ≤ n ∧ n < 24) (h : x = X (n - 1) ∨ y = Y (n - 1)) : Pth (n + 1) (fun k => if k = n then x else X k) (fun k => if k = n then y else Y k) (upd cx n.toNat (zI x)) (upd cy n.toNat (zI y)) (upd px n.toNat (zI x)) (upd py n.toNat (zI y)) := by
  refine ⟨by omega, fun q q0 q1 => ?_, fun q q0 q1 => ?_⟩
  · by_cases e : q = n
    · subst e
      simp only [if_pos, upd]
      exact ⟨hx, hy, trivial, trivial, trivial, trivial⟩
    · have e2 : q.toNat ≠ n.toNat := by omega
      simp only [if_neg e, upd, if_neg e2]
      exact T.2.1 q q0 (by omega)
  · have e : q ≠ n := by omega
    simp only [if_neg e]
    by_cases e2 : q + 1 = n
    · rw [if_pos e2, if_pos e2]
      have e3 : q = n - 1 := by omega
      subst e3
      rcases h with h | h
      · exact Or.inl h.symm
      · exact Or.inr h.symm
    · rw [if_neg e2, if_neg e2]; exact T.2.2 q q0 (by omega)
theorem i_vc_go {k : Nat} {u : SX} {v : SY} (I : i_Rel k u v) (hk : k + 5 ≤ 2560) (v1 : Int32) (v2 : Int32) : wpX_go (fun r u' => wpY_go (fun r' v' => r' = r ∧ i_Rel (k + 5) u' v') v v1 v2) u v1 v2 := by
  obtain ⟨c, rc, gc, lr, rk, a, cx, cy, re, st, dg⟩ := u
  obtain ⟨c', ly, fi, ma, se, px, py, la⟩ := v
  obtain ⟨S, n, X, Y, P, Q, C, T, rfl, rfl⟩ := I
  obtain ⟨x, hx, rfl⟩ := zi_ex v1
  obtain ⟨y, hy, rfl⟩ := zi_ex v2
  have hn := T.1
  have K := T.2.1
  have R0 : i_Rel (k + 5) (zI n, rc, gc, lr, rk, a, cx, cy, re, st, dg) (zI n, ly, fi, ma, se, px, py, la) := i_mk P Q C T
  have ec : 1 ≤ n → (zI n - 1).toNatClampNeg = (n - 1).toNat := fun h => zv_cl (n - 1) (zi_s1 n)
  have ey : ∀ (post : Int32 → SY → Prop), (((0 ≤ x ∧ x ≤ 12) ∧ (0 ≤ y ∧ y ≤ 12)) ∧ (1 ≤ n ∧ n < 24) ∧ ((x ≠ X (n - 1) ∧ y = Y (n - 1)) ∨ (x = X (n - 1) ∧ y ≠ Y (n - 1))) → post 1 (zI (n + 1), ly, fi, ma, se, upd px n.toNat (zI x), upd py n.toNat (zI y), la)) → (¬ (((0 ≤ x ∧ x ≤ 12) ∧ (0 ≤ y ∧ y ≤ 12)) ∧ (1 ≤ n ∧ n < 24) ∧ ((x ≠ X (n - 1) ∧ y = Y (n - 1)) ∨ (x = X (n - 1) ∧ y ≠ Y (n - 1)))) → post 0 (zI n, ly, fi, ma, se, px, py, la)) → wpY_go post (zI n, ly, fi, ma, se, px, py, la) (zI x) (zI y) := by
    intro post f g
    unfold wpY_go
    refine yg_coord x y hx hy (fun h1 => b1_f ?_) (fun h1 => b0_t (g (fun h => h1 h.1)))
    refine zb_eq n 0 (fun h2 => g (fun h => by omega)) (fun h2 => zb_eq n 24 (fun h3 => g (fun h => by omega)) (fun h3 => ?_))
    have kk := K (n - 1) (by omega) (by omega)
    refine ⟨zv_in (n - 1) (by omega) (zi_s1 n), zv_in (n - 1) (by omega) (zi_s1 n), ?_⟩
    rw [ec (by omega), kk.2.2.2.2.1, kk.2.2.2.2.2]
    refine yp_apart x y _ _ hx hy (by omega) (by omega) (fun h4 => b1_f ?_) (fun h4 => b0_t (g (fun h => h4 h.2.2)))
    refine ⟨zv_in n (by omega), nm_e ⟨zv_in n (by omega), nm_e (nm_r (zi_1 n) ?_)⟩⟩
    rw [zi_cl (by omega)]
    exact f ⟨h1, by omega, h4⟩
  unfold wpX_go
  refine xg_coord x hx (fun h1 => b1_f ?_) (fun h1 => b0_t (ey _ (fun h => absurd h.1.1 h1) (fun _ => ⟨rfl, R0⟩)))
  refine xg_coord y hy (fun h2 => b1_f ?_) (fun h2 => b0_t (ey _ (fun h => absurd h.1.2 h2) (fun _ => ⟨rfl, R0⟩)))
  refine zb_lt n 1 (fun h3 => ey _ (fun h => absurd h3 (by omega)) (fun _ => ⟨rfl, R0⟩)) (fun h3 => zb_lt n 24 (fun h4 => ?_) (fun h4 => ey _ (fun h => absurd h4 (by omega)) (fun _ => ⟨rfl, R0⟩)))
  have kk := K (n - 1) (by omega) (by omega)
  have vi : vp_in (zI n - 1) 24 := zv_in (n - 1) (by omega) (zi_s1 n)
  have go : ((x ≠ X (n - 1) ∧ y = Y (n - 1)) ∨ (x = X (n - 1) ∧ y ≠ Y (n - 1))) → ∀ p q : Int32, ¬ p = q → wX_go_74 (fun r u' => wpY_go (fun r' v' => r' = r ∧ i_Rel (k + 5) u' v') (zI n, ly, fi, ma, se, px, py, la) (zI x) (zI y)) (zI x) (zI y) p q (zI n) rc gc lr rk a cx cy re st dg := by
    intro h p q hpq
    refine br_f hpq ⟨zv_in n (by omega), nm_e ⟨zv_in n (by omega), nm_e (nm_r (zi_1 n) ?_)⟩⟩
    rw [zi_cl (by omega)]
    exact ey _ (fun _ => ⟨rfl, i_mk P Q C (pt_push T h1 h2 (by omega) (by omega))⟩) (fun h' => absurd ⟨⟨h1, h2⟩, ⟨by omega, by omega⟩, h⟩ h')
  have st : ¬ ((x ≠ X (n - 1) ∧ y = Y (n - 1)) ∨ (x = X (n - 1) ∧ y ≠ Y (n - 1))) → ∀ p q : Int32, p = q → wX_go_74 (fun r u' => wpY_go (fun r' v' => r' = r ∧ i_Rel (k + 5) u' v') (zI n, ly, fi, ma, se, px, py, la) (zI x) (zI y)) (zI x) (zI y) p q (zI n) rc gc lr rk a cx cy re st dg := by
    intro h p q hpq
    exact br_t hpq (ey _ (fun h' => absurd h'.2.2 h) (fun _ => ⟨rfl, R0⟩))
  refine ⟨vi, ?_⟩
  rw [ec (by omega), kk.2.2.1]
  refine zb_eq (X (n - 1)) x (fun h5 => ⟨vi, ?_⟩) (fun h5 => ⟨vi, ?_⟩)
  · rw [ec (by omega), kk.2.2.2.1]
    refine zb_eq (Y (n - 1)) y (fun h6 => st (by omega) _ _ rfl) (fun h6 => go (by omega) _ _ (by decide))
  · rw [ec (by omega), kk.2.2.2.1]
    refine zb_eq (Y (n - 1)) y (fun h6 => go (by omega) _ _ (by decide)) (fun h6 => st (by omega) _ _ rfl)
theorem yp_sto {ly : Nat → Int32} {S : Int → Int → Int → Bool} (Q : YP ly S) {l i j : Int} {b : Bool} (hl : 0 ≤ l ∧ l ≤ 5) (hg : Gd i j) : YP (upd ly (625 * l + 25 * i + j).toNat (bI b)) (sto S l i j b) := by
  intro l' i' j' h0 h6 g
  unfold upd sto
  by_cases q : l' = l ∧ i' = i ∧ j' = j
  · obtain ⟨rfl, rfl, rfl⟩ := q
    simp
  · rw [if_neg q, if_neg (by omega)]; exact Q l' i' j' h0 h6 g
theorem i_vc_point {k : Nat} {u : SX} {v : SY} (I : i_Rel k u v) (hk : k + 5 ≤ 2560) (v1 : Int32) (v2 : Int32) (v3 : Int32) : wpX_point (fun r u' => wpY_point (fun r' v' => r' = r ∧ i_Rel (k + 5) u' v') v v1 v2 v3) u v1 v2 v3 := by
  obtain ⟨c, rc, gc, lr, rk, a, cx, cy, re, st, dg⟩ := u
  obtain ⟨c', ly, fi, ma, se, px, py, la⟩ := v
  obtain ⟨S, n, X, Y, P, Q, C, T, rfl, rfl⟩ := I
  obtain ⟨l, hl, rfl⟩ := zi_ex v1
  obtain ⟨x, hx, rfl⟩ := zi_ex v2
  obtain ⟨y, hy, rfl⟩ := zi_ex v3
  have R0 : i_Rel (k + 5) (zI n, rc, gc, lr, rk, a, cx, cy, re, st, dg) (zI n, ly, fi, ma, se, px, py, la) := i_mk P Q C T
  have bad : ¬ ((0 ≤ l ∧ l ≤ 5) ∧ (0 ≤ x ∧ x ≤ 12) ∧ (0 ≤ y ∧ y ≤ 12)) → wpY_point (fun r' v' => r' = 0 ∧ i_Rel (k + 5) (zI n, rc, gc, lr, rk, a, cx, cy, re, st, dg) v') (zI n, ly, fi, ma, se, px, py, la) (zI l) (zI x) (zI y) := by
    intro h
    unfold wpY_point
    refine yg_layer l hl (fun h1 => b1_f ?_) (fun h1 => b0_t ⟨rfl, R0⟩)
    exact yg_coord x y hx hy (fun h2 => absurd ⟨h1, h2⟩ h) (fun _ => b0_t ⟨rfl, R0⟩)
  unfold wpX_point
  refine xg_layer l hl (fun h1 => b1_f ?_) (fun h1 => b0_t (bad (fun h => h1 h.1)))
  refine xg_coord x hx (fun h2 => b1_f ?_) (fun h2 => b0_t (bad (fun h => h2 h.2.1)))
  refine xg_coord y hy (fun h3 => b1_f ?_) (fun h3 => b0_t (bad (fun h => h3 h.2.2)))
  rw [zi_dbl, zi_dbl]
  refine xp_write P l (2 * x) (2 * y) true (by omega) (by omega) (fun a' P' => ?_)
  unfold wpY_point
  refine yg_layer l hl (fun _ => b1_f ?_) (fun h => absurd h1 h)
  refine yg_coord x y hx hy (fun _ => b1_f ?_) (fun h => absurd ⟨h2, h3⟩ h)
  have e : ((625 * zI l) + (50 * zI x)) + (2 * zI y) = zI (625 * l + 25 * (2 * x) + 2 * y) := by
    have e1 : 625 * zI l = zI (625 * l) := zi_mul 625 l
    have e2 : 50 * zI x = zI (50 * x) := zi_mul 50 x
    rw [e1, e2, zi_dbl, zi_add, zi_add]
    congr 1; omega
  refine ⟨zv_in _ (by omega) e, nm_e ⟨rfl, ?_⟩⟩
  rw [zv_cl _ e]
  refine i_mk P' (yp_sto (b := true) Q h1 (by omega)) (fun m m0 m5 => ?_) T
  intro i j h
  have Cm := C m m0 m5
  unfold sto at h ⊢
  by_cases q : m = l ∧ i = 2 * x ∧ j = 2 * y
  · exact ⟨fun h => absurd h (by omega), fun h => absurd h (by omega)⟩
  · rw [if_neg q] at h
    have := Cm i j h
    refine ⟨fun o => ⟨?_, ?_⟩, fun o => ⟨?_, ?_⟩⟩
    · split
      · rfl
      · exact (this.1 o).1
    · split
      · rfl
      · exact (this.1 o).2
    · split
      · rfl
      · exact (this.2 o).1
    · split
      · rfl
      · exact (this.2 o).2
