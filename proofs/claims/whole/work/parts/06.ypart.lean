/-! Y: the part of an atom; part; covers -/
theorem zi_r2 {a : Int} (h : 0 ≤ a ∧ a < 2147483648) : zI a - zI a / 2 * 2 = zI (a % 2) := zi_rem (d := 2) h (by omega)
theorem zi_r25 {a : Int} (h : 0 ≤ a ∧ a < 2147483648) : zI a - zI a / 25 * 25 = zI (a % 25) := zi_rem (d := 25) h (by omega)
theorem zi_d25 {a : Int} (h : 0 ≤ a ∧ a < 2147483648) : zI a / 25 = zI (a / 25) := zi_div (d := 25) h (by omega)
theorem zi_r13 {a : Int} (h : 0 ≤ a ∧ a < 2147483648) : zI a - zI a / 13 * 13 = zI (a % 13) := zi_rem (d := 13) h (by omega)
theorem zi_d13 {a : Int} (h : 0 ≤ a ∧ a < 2147483648) : zI a / 13 = zI (a / 13) := zi_div (d := 13) h (by omega)
theorem zi_r3 {a : Int} (h : 0 ≤ a ∧ a < 2147483648) : zI a - zI a / 3 * 3 = zI (a % 3) := zi_rem (d := 3) h (by omega)
theorem zi_d3 {a : Int} (h : 0 ≤ a ∧ a < 2147483648) : zI a / 3 = zI (a / 3) := zi_div (d := 3) h (by omega)
def HS (S : Int → Int → Int → Bool) : Prop := ∀ s i j, S s i j = true → Gd i j
section
variable {c : Int32} {ly fi ma se px py la : Nat → Int32} {S : Int → Int → Int → Bool}
theorem yp_one {post : Int32 → Prop} (Q : YP ly S) (H : HS S) (l i j : Int) (hl : 0 ≤ l ∧ l ≤ 5) (hi : Rg i) (hj : Rg j) (h : post (zI (bZ (S l i j)))) : wpY_one post (c, ly, fi, ma, se, px, py, la) (zI l) (zI i) (zI j) := by
  unfold wpY_one
  refine yp_in Q H l i j hl hi hj (bb_0 (fun e => ?_) (fun e => ?_))
  · rw [e] at h; exact h
  · rw [e] at h; exact h
theorem yp_cells {post : Int32 → Prop} (Q : YP ly S) (H : HS S) (l i j : Int) (hl : 0 ≤ l ∧ l ≤ 5) (hg : Gd i j) (hd : ¬ (i % 2 = 1 ∧ j % 2 = 1)) (h : post (zI (cc (S l) i j))) : wpY_cellsAround post (c, ly, fi, ma, se, px, py, la) (zI l) (zI i) (zI j) := by
  unfold wpY_cellsAround
  rw [zi_r2 (by omega), zi_r2 (by omega)]
  unfold cc at h
  refine ⟨by decide, zb_eq _ 1 (fun o1 => ?_) (fun o1 => ⟨by decide, zb_eq _ 1 (fun o2 => ?_) (fun o2 => ?_)⟩)⟩
  · rw [if_pos o1, if_neg (by omega)] at h
    rw [zi_1, zi_s1]
    refine yp_one Q H l _ _ hl (by omega) (by omega) (yp_one Q H l _ _ hl (by omega) (by omega) ?_)
    rw [zi_add]; exact h
  · rw [if_neg o1, if_pos o2] at h
    rw [zi_1, zi_s1]
    refine yp_one Q H l _ _ hl (by omega) (by omega) (yp_one Q H l _ _ hl (by omega) (by omega) ?_)
    rw [zi_add]; exact h
  · rw [if_neg o1, if_neg o2] at h
    rw [zi_1, zi_s1, zi_1, zi_s1]
    refine yp_one Q H l _ _ hl (by omega) (by omega) (yp_one Q H l _ _ hl (by omega) (by omega) (yp_one Q H l _ _ hl (by omega) (by omega) (yp_one Q H l _ _ hl (by omega) (by omega) ?_)))
    rw [zi_add, zi_add, zi_add]
    have e : bZ (S l (i - 1) (j - 1)) + bZ (S l (i - 1) (j + 1)) + bZ (S l (i + 1) (j - 1)) + bZ (S l (i + 1) (j + 1)) = bZ (S l (i - 1) (j - 1)) + bZ (S l (i + 1) (j - 1)) + bZ (S l (i - 1) (j + 1)) + bZ (S l (i + 1) (j + 1)) := by omega
    rw [e]; exact h
theorem yp_edges {post : Int32 → Prop} (Q : YP ly S) (H : HS S) (l i j : Int) (hl : 0 ≤ l ∧ l ≤ 5) (hg : Gd i j) (h : post (zI (ee (S l) i j))) : wpY_edgesAt post (c, ly, fi, ma, se, px, py, la) (zI l) (zI i) (zI j) := by
  unfold wpY_edgesAt
  rw [zi_1, zi_s1, zi_1, zi_s1]
  refine yp_one Q H l _ _ hl (by omega) (by omega) (yp_one Q H l _ _ hl (by omega) (by omega) (yp_one Q H l _ _ hl (by omega) (by omega) (yp_one Q H l _ _ hl (by omega) (by omega) ?_)))
  rw [zi_add, zi_add, zi_add]
  unfold ee at h
  have e : bZ (S l (i - 1) j) + bZ (S l (i + 1) j) + bZ (S l i (j - 1)) + bZ (S l i (j + 1)) = bZ (S l (i + 1) j) + bZ (S l i (j + 1)) + bZ (S l (i - 1) j) + bZ (S l i (j - 1)) := by omega
  rw [e]; exact h
theorem yp_part {post : Int32 → Prop} (Q : YP ly S) (H : HS S) (l i j : Int) (hl : 0 ≤ l ∧ l ≤ 5) (hi : Rg i) (hj : Rg j) (h : post (zI (prt (S l) i j))) : wpY_partOf post (c, ly, fi, ma, se, px, py, la) (zI l) (zI i) (zI j) := by
  unfold wpY_partOf
  unfold prt at h
  refine yp_in Q H l i j hl hi hj (bb_0 (fun e => ?_) (fun e => ?_))
  · rw [if_pos e] at h; exact h
  · rw [if_neg (by rw [e]; decide)] at h
    have hg : Gd i j := H l i j e
    have hc := cc_r (S l) i j
    rw [zi_r2 (by omega), zi_r2 (by omega), zi_add]
    refine ⟨by decide, by decide, nm_e (zb_eq (i % 2 + j % 2) 2 (fun q => ?_) (fun q => yp_cells Q H l i j hl hg (by omega) (zb_eq (i % 2 + j % 2) 1 (fun q2 => zb_eq _ 1 (fun q3 => ?_) (fun q3 => ?_)) (fun q2 => zb_eq _ 4 (fun q3 => ?_) (fun q3 => zb_le _ 0 (fun q4 => ?_) (fun q4 => ?_))))))⟩
    · rw [if_pos (by omega)] at h; exact h
    · rw [if_neg (by omega), if_pos (by omega), if_pos q3] at h; exact h
    · rw [if_neg (by omega), if_pos (by omega), if_neg q3] at h; exact h
    · rw [if_neg (by omega), if_neg (by omega), if_pos q3] at h; exact h
    · rw [if_neg (by omega), if_neg (by omega), if_neg q3, if_neg (by omega)] at h
      have he := ee_r (S l) i j
      refine yp_edges Q H l i j hl hg ⟨by decide, ?_⟩
      rw [zi_r2 (by omega)]; exact h
    · rw [if_neg (by omega), if_neg (by omega), if_neg q3, if_pos q4] at h; exact h
end
theorem i_vc_part {k : Nat} {u : SX} {v : SY} (I : i_Rel k u v) (hk : k + 5 ≤ 2560) (v1 : Int32) (v2 : Int32) (v3 : Int32) : wpX_part (fun r => wpY_part (fun r' => r' = r ∧ i_Rel (k + 5) u v) v v1 v2 v3) u v1 v2 v3 := by
  obtain ⟨c, rc, gc, lr, rk, a, cx, cy, re, st, dg⟩ := u
  obtain ⟨c', ly, fi, ma, se, px, py, la⟩ := v
  obtain ⟨S, n, X, Y, P, Q, C, T, rfl, rfl⟩ := I
  obtain ⟨l, hl, rfl⟩ := zi_ex v1
  obtain ⟨i, hi, rfl⟩ := zi_ex v2
  obtain ⟨j, hj, rfl⟩ := zi_ex v3
  have R0 : i_Rel (k + 5) (zI n, rc, gc, lr, rk, a, cx, cy, re, st, dg) (zI n, ly, fi, ma, se, px, py, la) := i_mk P Q C T
  unfold wpX_part
  refine xg_layer l hl (fun h1 => b1_f (xp_part P l i j (by omega) hi hj ?_)) (fun h1 => b0_t ?_)
  · unfold wpY_part
    refine yg_layer l hl (fun h1 => b1_f (yg_atom i j hi hj (fun g => b1_f (yp_part Q P.2 l i j h1 hi hj ⟨rfl, R0⟩)) (fun g => b0_t ⟨?_, R0⟩))) (fun h => absurd h1 h)
    have : S l i j = false := px_no P g
    unfold prt; rw [if_pos this]; rfl
  · unfold wpY_part
    exact yg_layer l hl (fun h => absurd h h1) (fun h1 => b0_t ⟨rfl, R0⟩)
/-! covers -/
theorem co_x {post : Int32 → Prop} {c rc gc lr rk : Int32} {a cx cy re st dg : Nat → Int32} {S : Int → Int → Int → Bool} (P : XP a S) {l m : Int} (hl : 0 ≤ l ∧ l ≤ 5) (hm : 0 ≤ m ∧ m ≤ 5)
    (f : (∀ i j, Gd i j → S m i j = true → S l i j = true) → post 1) (g : ¬ (∀ i j, Gd i j → S m i j = true → S l i j = true) → post 0) :
    ∀ (N : Nat) (q : Int), 0 ≤ q → q ≤ 625 → (625 - q).toNat < N → (∀ i j, Gd i j → 25 * j + i < q → S m i j = true → S l i j = true) → wX_covers_18 post (zI l) (zI m) c rc gc lr rk a cx cy re st dg N (zI q) := by
  intro N
  induction N with
  | zero => intro q h0 h1 h2; omega
  | succ N ih =>
    intro q h0 h1 h2 hb
    refine zb_le 625 q (fun h => f (fun i j gd => hb i j gd (by omega))) (fun h => ?_)
    have e1 := zi_in1 m q
    have e2 := zi_in1 l q
    have hq : Gd (q % 25) (q / 25) := by omega
    have i1 : m * 625 + q = m * 625 + (q / 25) * 25 + q % 25 := by omega
    have i2 : l * 625 + q = l * 625 + (q / 25) * 25 + q % 25 := by omega
    have x1 := P.1 m _ _ hm.1 (by omega) hq
    have x2 := P.1 l _ _ hl.1 (by omega) hq
    rw [← i1] at x1
    rw [← i2] at x2
    refine ⟨zv_in _ (by omega) e1, ?_⟩
    rw [zv_cl _ e1, x1]
    have nxt : (S m (q % 25) (q / 25) = true → S l (q % 25) (q / 25) = true) → wX_covers_18 post (zI l) (zI m) c rc gc lr rk a cx cy re st dg N (zI (q + 1)) := by
      intro hh
      refine ih (q + 1) (by omega) (by omega) (by omega) (fun i j gd hlt => ?_)
      by_cases e : 25 * j + i < q
      · exact hb i j gd e
      · have ei : i = q % 25 := by omega
        have ej : j = q / 25 := by omega
        rw [ei, ej]; exact hh
    refine bb_0 (fun e => nm_r (zi_1 q) (nxt (fun h => absurd h (by rw [e]; decide)))) (fun e => ⟨zv_in _ (by omega) e2, ?_⟩)
    rw [zv_cl _ e2, x2]
    refine bb_0 (fun e3 => g (fun hh => ?_)) (fun e3 => nm_r (zi_1 q) (nxt (fun _ => e3)))
    have := hh _ _ hq e
    rw [e3] at this; exact absurd this (by decide)
theorem co_y {post : Int32 → Prop} {c : Int32} {ly fi ma se px py la : Nat → Int32} {S : Int → Int → Int → Bool} (Q : YP ly S) {l m : Int} (hl : 0 ≤ l ∧ l ≤ 5) (hm : 0 ≤ m ∧ m ≤ 5)
    (f : (∀ i j, Gd i j → S m i j = true → S l i j = true) → post 1) (g : ¬ (∀ i j, Gd i j → S m i j = true → S l i j = true) → post 0) :
    ∀ (N : Nat) (q : Int), 0 ≤ q → q ≤ 625 → (625 - q).toNat < N → (∀ i j, Gd i j → 25 * i + j < q → S m i j = true → S l i j = true) → wY_covers_20 post (zI l) (zI m) c ly fi ma se px py la N (zI q) := by
  intro N
  induction N with
  | zero => intro q h0 h1 h2; omega
  | succ N ih =>
    intro q h0 h1 h2 hb
    refine zb_le 625 q (fun h => f (fun i j gd => hb i j gd (by omega))) (fun h => ?_)
    have e1 := zi_in2 m q
    have e2 := zi_in2 l q
    have hq : Gd (q / 25) (q % 25) := by omega
    have i1 : 625 * m + q = 625 * m + 25 * (q / 25) + q % 25 := by omega
    have i2 : 625 * l + q = 625 * l + 25 * (q / 25) + q % 25 := by omega
    have x1 := Q m _ _ hm.1 (by omega) hq
    have x2 := Q l _ _ hl.1 (by omega) hq
    rw [← i1] at x1
    rw [← i2] at x2
    refine ⟨zv_in _ (by omega) e1, ?_⟩
    rw [zv_cl _ e1, x1]
    have nxt : (S m (q / 25) (q % 25) = true → S l (q / 25) (q % 25) = true) → wY_covers_20 post (zI l) (zI m) c ly fi ma se px py la N (zI (q + 1)) := by
      intro hh
      refine ih (q + 1) (by omega) (by omega) (by omega) (fun i j gd hlt => ?_)
      by_cases e : 25 * i + j < q
      · exact hb i j gd e
      · have ei : i = q / 25 := by omega
        have ej : j = q % 25 := by omega
        rw [ei, ej]; exact hh
    refine bb_0 (fun e => nm_r (zi_1 q) (nxt (fun h => absurd h (by rw [e]; decide)))) (fun e => ⟨zv_in _ (by omega) e2, ?_⟩)
    rw [zv_cl _ e2, x2]
    refine bb_0 (fun e3 => g (fun hh => ?_)) (fun e3 => nm_r (zi_1 q) (nxt (fun _ => e3)))
    have := hh _ _ hq e
    rw [e3] at this; exact absurd this (by decide)
theorem i_vc_covers {k : Nat} {u : SX} {v : SY} (I : i_Rel k u v) (hk : k + 5 ≤ 2560) (v1 : Int32) (v2 : Int32) : wpX_covers (fun r => wpY_covers (fun r' => r' = r ∧ i_Rel (k + 5) u v) v v1 v2) u v1 v2 := by
  obtain ⟨c, rc, gc, lr, rk, a, cx, cy, re, st, dg⟩ := u
  obtain ⟨c', ly, fi, ma, se, px, py, la⟩ := v
  obtain ⟨S, n, X, Y, P, Q, C, T, rfl, rfl⟩ := I
  obtain ⟨l, hl, rfl⟩ := zi_ex v1
  obtain ⟨m, hm, rfl⟩ := zi_ex v2
  have R0 : i_Rel (k + 5) (zI n, rc, gc, lr, rk, a, cx, cy, re, st, dg) (zI n, ly, fi, ma, se, px, py, la) := i_mk P Q C T
  unfold wpX_covers
  refine xg_layer l hl (fun h1 => b1_f (xg_layer m hm (fun h2 => b1_f ?_) (fun h2 => b0_t ?_))) (fun h1 => b0_t ?_)
  · refine ⟨626, co_x P h1 h2 (fun hh => ?_) (fun hh => ?_) 626 0 (by omega) (by omega) (by omega) (fun i j gd hlt => absurd hlt (by omega))⟩
    · unfold wpY_covers
      refine yg_layer l hl (fun _ => b1_f (yg_layer m hm (fun _ => b1_f ?_) (fun h => absurd h2 h))) (fun h => absurd h1 h)
      exact ⟨626, co_y Q h1 h2 (fun _ => ⟨rfl, R0⟩) (fun hh' => absurd hh hh') 626 0 (by omega) (by omega) (by omega) (fun i j gd hlt => absurd hlt (by omega))⟩
    · unfold wpY_covers
      refine yg_layer l hl (fun _ => b1_f (yg_layer m hm (fun _ => b1_f ?_) (fun h => absurd h2 h))) (fun h => absurd h1 h)
      exact ⟨626, co_y Q h1 h2 (fun hh' => absurd hh' hh) (fun _ => ⟨rfl, R0⟩) 626 0 (by omega) (by omega) (by omega) (fun i j gd hlt => absurd hlt (by omega))⟩
  · unfold wpY_covers
    exact yg_layer l hl (fun _ => b1_f (yg_layer m hm (fun h => absurd h h2) (fun _ => b0_t ⟨rfl, R0⟩))) (fun h => absurd h1 h)
  · unfold wpY_covers
    exact yg_layer l hl (fun h => absurd h h1) (fun _ => b0_t ⟨rfl, R0⟩)
