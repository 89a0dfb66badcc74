/-! nearest -/
def ds (x u : Int) : Int := if x < u then u - x else x - u
theorem ds_r {x u : Int} (hx : 0 ≤ x ∧ x ≤ 12) (hu : 0 ≤ u ∧ u ≤ 12) : 0 ≤ ds x u ∧ ds x u ≤ 12 := by unfold ds; split <;> omega
def Nr (g : Int → Int → Bool) (x y : Int) (D : Int → Int → Prop) (r : Int) : Prop :=
  (r = -1 ∧ ∀ u v, (0 ≤ u ∧ u ≤ 12) → (0 ≤ v ∧ v ≤ 12) → D u v → g (2 * u) (2 * v) = false) ∨
  ((0 ≤ r ∧ r ≤ 24) ∧ (∃ u v, (0 ≤ u ∧ u ≤ 12) ∧ (0 ≤ v ∧ v ≤ 12) ∧ D u v ∧ g (2 * u) (2 * v) = true ∧ ds x u + ds y v = r) ∧
    ∀ u v, (0 ≤ u ∧ u ≤ 12) → (0 ≤ v ∧ v ≤ 12) → D u v → g (2 * u) (2 * v) = true → r ≤ ds x u + ds y v)
theorem nr_c {g : Int → Int → Bool} {x y : Int} {D D' : Int → Int → Prop} {r : Int} (h : Nr g x y D r) (e : ∀ u v, (0 ≤ u ∧ u ≤ 12) → (0 ≤ v ∧ v ≤ 12) → (D u v ↔ D' u v)) : Nr g x y D' r := by
  rcases h with ⟨h1, h2⟩ | ⟨h1, ⟨u, v, hu, hv, hd, h3⟩, h4⟩
  · exact Or.inl ⟨h1, fun u v hu hv hd => h2 u v hu hv ((e u v hu hv).mpr hd)⟩
  · exact Or.inr ⟨h1, ⟨u, v, hu, hv, (e u v hu hv).mp hd, h3⟩, fun u v hu hv hd => h4 u v hu hv ((e u v hu hv).mpr hd)⟩
theorem nr_u {g : Int → Int → Bool} {x y : Int} {r r' : Int} (h : Nr g x y (fun _ _ => True) r) (h' : Nr g x y (fun _ _ => True) r') : r = r' := by
  rcases h with ⟨h1, h2⟩ | ⟨h1, ⟨u, v, hu, hv, hd, h3, h5⟩, h4⟩
  · rcases h' with ⟨h1', h2'⟩ | ⟨h1', ⟨u', v', hu', hv', hd', h3', h5'⟩, h4'⟩
    · omega
    · have := h2 u' v' hu' hv' trivial; rw [h3'] at this; exact absurd this (by decide)
  · rcases h' with ⟨h1', h2'⟩ | ⟨h1', ⟨u', v', hu', hv', hd', h3', h5'⟩, h4'⟩
    · have := h2' u v hu hv trivial; rw [h3] at this; exact absurd this (by decide)
    · have := h4 u' v' hu' hv' trivial h3'
      have := h4' u v hu hv trivial h3
      omega
theorem nr_f {g : Int → Int → Bool} {x y : Int} {D D' : Int → Int → Prop} {r p q : Int} (h : Nr g x y D r) (e : ∀ u v, (0 ≤ u ∧ u ≤ 12) → (0 ≤ v ∧ v ≤ 12) → (D' u v ↔ D u v ∨ (u = p ∧ v = q))) (hg : g (2 * p) (2 * q) = false) : Nr g x y D' r := by
  rcases h with ⟨h1, h2⟩ | ⟨h1, ⟨u, v, hu, hv, hd, h3⟩, h4⟩
  · refine Or.inl ⟨h1, fun u v hu hv hd => ?_⟩
    rcases (e u v hu hv).mp hd with h | ⟨rfl, rfl⟩
    · exact h2 u v hu hv h
    · exact hg
  · refine Or.inr ⟨h1, ⟨u, v, hu, hv, (e u v hu hv).mpr (Or.inl hd), h3⟩, fun u v hu hv hd => ?_⟩
    rcases (e u v hu hv).mp hd with h | ⟨rfl, rfl⟩
    · exact h4 u v hu hv h
    · intro hh; rw [hg] at hh; exact absurd hh (by decide)
theorem nr_n {g : Int → Int → Bool} {x y : Int} {D D' : Int → Int → Prop} {r p q : Int} (h : Nr g x y D r) (hx : 0 ≤ x ∧ x ≤ 12) (hy : 0 ≤ y ∧ y ≤ 12) (hp : 0 ≤ p ∧ p ≤ 12) (hq : 0 ≤ q ∧ q ≤ 12) (e : ∀ u v, (0 ≤ u ∧ u ≤ 12) → (0 ≤ v ∧ v ≤ 12) → (D' u v ↔ D u v ∨ (u = p ∧ v = q))) (hg : g (2 * p) (2 * q) = true) (hr : r < 0 ∨ ds x p + ds y q ≤ r) : Nr g x y D' (ds x p + ds y q) := by
  have b1 := ds_r hx hp
  have b2 := ds_r hy hq
  refine Or.inr ⟨by omega, ⟨p, q, hp, hq, (e p q hp hq).mpr (Or.inr ⟨rfl, rfl⟩), hg, rfl⟩, fun u v hu hv hd hh => ?_⟩
  rcases (e u v hu hv).mp hd with h5 | ⟨rfl, rfl⟩
  · rcases h with ⟨h1, h2⟩ | ⟨h1, ⟨u', v', hu', hv', hd', h3⟩, h4⟩
    · have := h2 u v hu hv h5; rw [hh] at this; exact absurd this (by decide)
    · have := h4 u v hu hv h5 hh; omega
  · omega
theorem nr_k {g : Int → Int → Bool} {x y : Int} {D D' : Int → Int → Prop} {r p q : Int} (h : Nr g x y D r) (e : ∀ u v, (0 ≤ u ∧ u ≤ 12) → (0 ≤ v ∧ v ≤ 12) → (D' u v ↔ D u v ∨ (u = p ∧ v = q))) (hr : 0 ≤ r ∧ r ≤ ds x p + ds y q) : Nr g x y D' r := by
  rcases h with ⟨h1, h2⟩ | ⟨h1, ⟨u, v, hu, hv, hd, h3⟩, h4⟩
  · omega
  · refine Or.inr ⟨h1, ⟨u, v, hu, hv, (e u v hu hv).mpr (Or.inl hd), h3⟩, fun u v hu hv hd => ?_⟩
    rcases (e u v hu hv).mp hd with h | ⟨rfl, rfl⟩
    · exact h4 u v hu hv h
    · intro _; omega
theorem nr_b {g : Int → Int → Bool} {x y : Int} {D : Int → Int → Prop} {r : Int} (h : Nr g x y D r) : -1 ≤ r ∧ r ≤ 24 := by
  rcases h with ⟨h1, h2⟩ | ⟨h1, h2⟩ <;> omega
theorem xp_gap {post : Int32 → Prop} (x u : Int) (hx : 0 ≤ x ∧ x ≤ 100) (hu : 0 ≤ u ∧ u ≤ 100) (h : post (zI (ds x u))) : wpX_gap post (zI x) (zI u) := by
  unfold ds at h
  refine zb_le u x (fun q => ?_) (fun q => ?_)
  · rw [zi_sub]; rw [if_neg (by omega)] at h; exact h
  · rw [zi_sub]; rw [if_pos (by omega)] at h; exact h
section
variable {c rc gc lr rk : Int32} {a cx cy re st dg : Nat → Int32} {S : Int → Int → Int → Bool}
theorem nx_in {post : Int32 → Prop} {J : Int32 → Int32 → Prop} (P : XP a S) {l x y v : Int} (hl : 0 ≤ l ∧ l ≤ 5) (hx : 0 ≤ x ∧ x ≤ 12) (hy : 0 ≤ y ∧ y ≤ 12) (hv : 0 ≤ v ∧ v ≤ 12)
    (hJ : ∀ r, Nr (S l) x y (fun _ v' => v' < v + 1) r → J (zI r) (zI (v + 1))) :
    ∀ (N : Nat) (u r : Int), 0 ≤ u → u ≤ 13 → (13 - u).toNat < N → Nr (S l) x y (fun u' v' => v' < v ∨ (v' = v ∧ u' < u)) r → wX_nearest_39 post J (zI l) (zI x) (zI y) (zI v) c rc gc lr rk a cx cy re st dg N (zI r) (zI u) := by
  intro N
  induction N with
  | zero => intro u r h0 h1 h2; omega
  | succ N ih =>
    intro u r h0 h1 h2 hn
    have hr := nr_b hn
    refine zb_lt 12 u (fun h => nm_r (zi_1 v) (hJ r (nr_c hn (fun u v hu hv => by omega)))) (fun h => ?_)
    refine xp_gap x u (by omega) (by omega) (xp_gap y v (by omega) (by omega) (nm_r (zi_add _ _) ?_))
    have b1 := ds_r hx (u := u) ⟨h0, by omega⟩
    have b2 := ds_r hy hv
    rw [zi_dbl, zi_dbl]
    have ed : ∀ u' v', (0 ≤ u' ∧ u' ≤ 12) → (0 ≤ v' ∧ v' ≤ 12) → ((v' < v ∨ (v' = v ∧ u' < u + 1)) ↔ (v' < v ∨ (v' = v ∧ u' < u)) ∨ (u' = u ∧ v' = v)) := fun u' v' _ _ => by omega
    refine xp_has P l _ _ (by omega) (by omega) (by omega) (bb_0 (fun e => nm_r (zi_1 u) ?_) (fun e => zb_lt r 0 (fun h3 => nm_r (zi_1 u) ?_) (fun h3 => zb_le r (ds x u + ds y v) (fun h4 => nm_r (zi_1 u) ?_) (fun h4 => nm_r (zi_1 u) ?_))))
    · exact ih (u + 1) r (by omega) (by omega) (by omega) (nr_f hn ed e)
    · exact ih (u + 1) _ (by omega) (by omega) (by omega) (nr_n hn hx hy (by omega) hv ed e (Or.inl h3))
    · exact ih (u + 1) r (by omega) (by omega) (by omega) (nr_k hn ed (by omega))
    · exact ih (u + 1) _ (by omega) (by omega) (by omega) (nr_n hn hx hy (by omega) hv ed e (Or.inr (by omega)))
theorem nx_out {post : Int32 → Prop} (P : XP a S) {l x y : Int} (hl : 0 ≤ l ∧ l ≤ 5) (hx : 0 ≤ x ∧ x ≤ 12) (hy : 0 ≤ y ∧ y ≤ 12) (f : ∀ r, Nr (S l) x y (fun _ _ => True) r → post (zI r)) :
    ∀ (N : Nat) (v r : Int), 0 ≤ v → v ≤ 13 → (13 - v).toNat < N → Nr (S l) x y (fun _ v' => v' < v) r → wX_nearest_29 post (zI l) (zI x) (zI y) c rc gc lr rk a cx cy re st dg N (zI r) (zI v) := by
  intro N
  induction N with
  | zero => intro u r h0 h1 h2; omega
  | succ N ih =>
    intro v r h0 h1 h2 hn
    refine zb_lt 12 v (fun h => f r (nr_c hn (fun u v hu hv => ⟨fun _ => trivial, fun _ => by omega⟩))) (fun h => ⟨14, ?_⟩)
    exact nx_in P hl hx hy ⟨h0, by omega⟩ (fun r' hr' => ih (v + 1) r' (by omega) (by omega) (by omega) hr') 14 0 r (by omega) (by omega) (by omega) (nr_c hn (fun u v hu hv => by omega))
end
section
variable {c : Int32} {ly fi ma se px py la : Nat → Int32} {S : Int → Int → Int → Bool}
theorem ny_81 {post : Int32 → Prop} {J : Int32 → Int32 → Prop} (Q : YP ly S) (H : HS S) {l x y n r : Int} (hl : 0 ≤ l ∧ l ≤ 5) (hx : 0 ≤ x ∧ x ≤ 12) (hy : 0 ≤ y ∧ y ≤ 12) (hn : 0 ≤ n ∧ n ≤ 168) (h : Nr (S l) x y (fun u' v' => 13 * u' + v' < n) r)
    (hJ : ∀ r, Nr (S l) x y (fun u' v' => 13 * u' + v' < n + 1) r → J (zI r) (zI (n + 1))) (z0 z1 : Int32) (e0 : z0 = zI (ds y (n % 13))) (e1 : z1 = zI (ds x (n / 13))) :
    wY_nearest_81 post J (zI l) (zI x) (zI y) (zI r) (zI n) (zI (n / 13)) (zI (n % 13)) z0 z1 c ly fi ma se px py la := by
  have hr := nr_b h
  unfold wY_nearest_81
  rw [e0, e1]
  have b1 := ds_r hx (u := n / 13) (by omega)
  have b2 := ds_r hy (u := n % 13) (by omega)
  rw [zi_dbl, zi_dbl]
  have ed : ∀ u' v', (0 ≤ u' ∧ u' ≤ 12) → (0 ≤ v' ∧ v' ≤ 12) → (13 * u' + v' < n + 1 ↔ 13 * u' + v' < n ∨ (u' = n / 13 ∧ v' = n % 13)) := fun u' v' _ _ => by omega
  refine nm_r (zi_add _ _) (yp_in Q H l _ _ (by omega) (by omega) (by omega) (bb_0 (fun e => nm_r (zi_1 n) ?_) (fun e => zb_lt r 0 (fun h3 => nm_r (zi_1 n) ?_) (fun h3 => zb_le r (ds x (n / 13) + ds y (n % 13)) (fun h4 => nm_r (zi_1 n) ?_) (fun h4 => nm_r (zi_1 n) ?_)))))
  · exact hJ r (nr_f h ed e)
  · exact hJ _ (nr_n h hx hy (by omega) (by omega) ed e (Or.inl h3))
  · exact hJ r (nr_k h ed (by omega))
  · exact hJ _ (nr_n h hx hy (by omega) (by omega) ed e (Or.inr (by omega)))
theorem ny_out {post : Int32 → Prop} (Q : YP ly S) (H : HS S) {l x y : Int} (hl : 0 ≤ l ∧ l ≤ 5) (hx : 0 ≤ x ∧ x ≤ 12) (hy : 0 ≤ y ∧ y ≤ 12) (f : ∀ r, Nr (S l) x y (fun _ _ => True) r → post (zI r)) :
    ∀ (N : Nat) (n r : Int), 0 ≤ n → n ≤ 169 → (169 - n).toNat < N → Nr (S l) x y (fun u' v' => 13 * u' + v' < n) r → wY_nearest_25 post (zI l) (zI x) (zI y) c ly fi ma se px py la N (zI r) (zI n) := by
  intro N
  induction N with
  | zero => intro u r h0 h1 h2; omega
  | succ N ih =>
    intro n r h0 h1 h2 hn
    refine zb_le 169 n (fun h => f r (nr_c hn (fun u v hu hv => ⟨fun _ => trivial, fun _ => by omega⟩))) (fun h => ⟨by decide, nm_r (zi_d13 (by omega)) ⟨by decide, nm_r (zi_r13 (by omega)) ?_⟩⟩)
    have key : ∀ z0 z1 : Int32, z0 = zI (ds y (n % 13)) → z1 = zI (ds x (n / 13)) → wY_nearest_81 post (wY_nearest_25 post (zI l) (zI x) (zI y) c ly fi ma se px py la N) (zI l) (zI x) (zI y) (zI r) (zI n) (zI (n / 13)) (zI (n % 13)) z0 z1 c ly fi ma se px py la :=
      fun z0 z1 e0 e1 => ny_81 Q H hl hx hy (by omega) hn (fun r' hr' => ih (n + 1) r' (by omega) (by omega) (by omega) hr') z0 z1 e0 e1
    have k2 : ∀ z0 : Int32, z0 = zI (ds x (n / 13)) → wY_nearest_64 post (wY_nearest_25 post (zI l) (zI x) (zI y) c ly fi ma se px py la N) (zI l) (zI x) (zI y) (zI r) (zI n) (zI (n / 13)) (zI (n % 13)) z0 c ly fi ma se px py la := by
      intro z0 e0
      refine zb_le y (n % 13) (fun q => key _ _ ?_ e0) (fun q => key _ _ ?_ e0)
      · rw [zi_sub]; unfold ds; split <;> (apply congrArg zI; omega)
      · rw [zi_sub]; unfold ds; rw [if_neg (by omega)]
    refine zb_le x (n / 13) (fun q => k2 _ ?_) (fun q => k2 _ ?_)
    · rw [zi_sub]; unfold ds; split <;> (apply congrArg zI; omega)
    · rw [zi_sub]; unfold ds; rw [if_neg (by omega)]
end
theorem i_vc_nearest {k : Nat} {u : SX} {v : SY} (I : i_Rel k u v) (hk : k + 5 ≤ 2560) (v1 : Int32) (v2 : Int32) (v3 : Int32) : wpX_nearest (fun r => wpY_nearest (fun r' => r' = r ∧ i_Rel (k + 5) u v) v v1 v2 v3) u v1 v2 v3 := by
  obtain ⟨c, rc, gc, lr, rk, a, cx, cy, re, st, dg⟩ := u
  obtain ⟨c', ly, fi, ma, se, px, py, la⟩ := v
  obtain ⟨S, n, X, Y, P, Q, C, T, rfl, rfl⟩ := I
  obtain ⟨l, hl, rfl⟩ := zi_ex v1
  obtain ⟨x, hx, rfl⟩ := zi_ex v2
  obtain ⟨y, hy, rfl⟩ := zi_ex v3
  have R0 : i_Rel (k + 5) (zI n, rc, gc, lr, rk, a, cx, cy, re, st, dg) (zI n, ly, fi, ma, se, px, py, la) := i_mk P Q C T
  have bad : ¬ ((0 ≤ l ∧ l ≤ 5) ∧ (0 ≤ x ∧ x ≤ 12) ∧ (0 ≤ y ∧ y ≤ 12)) → wpY_nearest (fun r' => r' = -1 ∧ i_Rel (k + 5) (zI n, rc, gc, lr, rk, a, cx, cy, re, st, dg) (zI n, ly, fi, ma, se, px, py, la)) (zI n, ly, fi, ma, se, px, py, la) (zI l) (zI x) (zI y) := by
    intro h
    unfold wpY_nearest
    refine yg_layer l hl (fun h1 => b1_f ?_) (fun h1 => b0_t ⟨rfl, R0⟩)
    exact yg_coord x y hx hy (fun h2 => absurd ⟨h1, h2⟩ h) (fun _ => b0_t ⟨rfl, R0⟩)
  unfold wpX_nearest
  refine xg_layer l hl (fun h1 => b1_f ?_) (fun h1 => b0_t (bad (fun h => h1 h.1)))
  refine xg_coord x hx (fun h2 => b1_f ?_) (fun h2 => b0_t (bad (fun h => h2 h.2.1)))
  refine xg_coord y hy (fun h3 => b1_f ?_) (fun h3 => b0_t (bad (fun h => h3 h.2.2)))
  refine ⟨14, nx_out P h1 h2 h3 (fun r hr => ?_) 14 0 (-1) (by omega) (by omega) (by omega) (Or.inl ⟨rfl, fun u v hu hv hh => absurd hh (by omega)⟩)⟩
  unfold wpY_nearest
  refine yg_layer l hl (fun _ => b1_f (yg_coord x y hx hy (fun _ => b1_f ?_) (fun h => absurd ⟨h2, h3⟩ h))) (fun h => absurd h1 h)
  exact ⟨170, ny_out Q P.2 h1 h2 h3 (fun r' hr' => ⟨by rw [nr_u hr hr'], R0⟩) 170 0 (-1) (by omega) (by omega) (by omega) (Or.inl ⟨rfl, fun u v hu hv hh => absurd hh (by omega)⟩)⟩
