/-! Y's near and surrounded; grow, shrink -/
section
variable {c : Int32} {fi ly ma se px py la : Nat → Int32} {S : Int → Int → Int → Bool}
theorem yn_50 {post : Int32 → Prop} {J : Int32 → Prop} (Q : YP ly S) {l i j R u : Int} (hl : 0 ≤ l ∧ l ≤ 5) (hi : 0 ≤ i ∧ i ≤ 24) (hj : 0 ≤ j ∧ j ≤ 24) (hR : 0 ≤ R ∧ R ≤ 24) (hu : (0 ≤ u ∧ u ≤ 24) ∧ i - R ≤ u ∧ u ≤ i + R)
    (f : NE (S l) i j R → post 1) (hJ : (∀ v, (0 ≤ v ∧ v ≤ 24) ∧ j - R ≤ v ∧ v ≤ j + R → S l u v = false) → J (zI (u + 1))) :
    ∀ (N : Nat) (v : Int), wLo j R ≤ v → v ≤ wHi j R + 1 → (wHi j R + 1 - v).toNat < N → (∀ v', (0 ≤ v' ∧ v' ≤ 24) ∧ j - R ≤ v' ∧ v' ≤ j + R → v' < v → S l u v' = false) → wY_near_50 post J (zI l) (zI i) (zI j) (zI R) (zI u) c ly fi ma se px py la N (zI v) := by
  have r2 := wl_r hj hR.1
  intro N
  induction N with
  | zero => intro v h0 h1; omega
  | succ N ih =>
    intro v h0 h1 h2 hb
    have hw : wHi j R = 24 ∨ wHi j R = j + R := by unfold wHi; split <;> omega
    have hw2 : wHi j R ≤ j + R := by unfold wHi; split <;> omega
    refine zb_lt (j + R) v (fun h => nm_r (zi_1 u) (hJ (fun v' hv' => hb v' hv' (by omega)))) (fun h => zb_le 25 v (fun h3 => nm_r (zi_1 u) (hJ (fun v' hv' => hb v' hv' (by omega)))) (fun h3 => ?_)) (zi_add j R)
    have e := zi_iy l u v
    have hv := (wl_i (u := v) hj hR.1).mp (by omega)
    refine ⟨zv_in (625 * l + 25 * u + v) (by omega) e, ?_⟩
    rw [zv_cl _ e, Q l u v hl.1 hl.2 (by omega)]
    refine bb_0 (fun q => nm_r (zi_1 v) (ih (v + 1) (by omega) (by omega) (by omega) (fun v' hv' hlt => ?_))) (fun q => f ⟨u, v, hu, hv, q⟩)
    by_cases e : v' = v
    · rw [e]; exact q
    · exact hb v' hv' (by omega)
theorem yn_17 {post : Int32 → Prop} (Q : YP ly S) {l i j R : Int} (hl : 0 ≤ l ∧ l ≤ 5) (hi : 0 ≤ i ∧ i ≤ 24) (hj : 0 ≤ j ∧ j ≤ 24) (hR : 0 ≤ R ∧ R ≤ 24)
    (f : NE (S l) i j R → post 1) (g : ¬ NE (S l) i j R → post 0) :
    ∀ (N : Nat) (u : Int), wLo i R ≤ u → u ≤ wHi i R + 1 → (wHi i R + 1 - u).toNat < N → (∀ u' v', ((0 ≤ u' ∧ u' ≤ 24) ∧ i - R ≤ u' ∧ u' ≤ i + R) → u' < u → ((0 ≤ v' ∧ v' ≤ 24) ∧ j - R ≤ v' ∧ v' ≤ j + R) → S l u' v' = false) → wY_near_17 post (zI l) (zI i) (zI j) (zI R) c ly fi ma se px py la N (zI u) := by
  have r1 := wl_r hi hR.1
  have r2 := wl_r hj hR.1
  intro N
  induction N with
  | zero => intro v h0 h1; omega
  | succ N ih =>
    intro u h0 h1 h2 hb
    have hw : wHi i R = 24 ∨ wHi i R = i + R := by unfold wHi; split <;> omega
    have hw2 : wHi i R ≤ i + R := by unfold wHi; split <;> omega
    have no : wHi i R < u → ¬ NE (S l) i j R := by
      rintro hlt ⟨u', v', hu', hv', hg⟩
      have h1 := (wl_i (u := u') hi hR.1).mpr hu'
      rw [hb u' v' hu' (by omega) hv'] at hg
      exact absurd hg (by decide)
    refine zb_lt (i + R) u (fun h => g (no (by omega))) (fun h => zb_le 25 u (fun h3 => g (no (by omega))) (fun h3 => ?_)) (zi_add i R)
    have hu := (wl_i (u := u) hi hR.1).mp (by omega)
    have go : ∀ v0 : Int, v0 = wLo j R → ∃ n50, wY_near_50 post (wY_near_17 post (zI l) (zI i) (zI j) (zI R) c ly fi ma se px py la N) (zI l) (zI i) (zI j) (zI R) (zI u) c ly fi ma se px py la n50 (zI v0) := by
      intro v0 ev
      refine ⟨27, yn_50 Q hl hi hj hR hu f (fun hn => ih (u + 1) (by omega) (by omega) (by omega) (fun u' v' hu' hlt hv' => ?_)) 27 v0 (by omega) (by omega) (by omega) (fun v' hv' hlt => ?_)⟩
      · by_cases e : u' = u
        · rw [e]; exact hn v' hv'
        · exact hb u' v' hu' (by omega) hv'
      · have := (wl_i (u := v') hj hR.1).mpr hv'
        omega
    refine zb_le 0 (j - R) (fun h4 => nm_r (zi_sub j R) (go _ ?_)) (fun h4 => go 0 ?_) rfl (zi_sub j R)
    · unfold wLo; split <;> omega
    · unfold wLo; rw [if_pos (by omega)]
theorem yp_near {post : Int32 → Prop} (Q : YP ly S) {l i j R : Int} (hl : 0 ≤ l ∧ l ≤ 5) (hi : 0 ≤ i ∧ i ≤ 24) (hj : 0 ≤ j ∧ j ≤ 24) (hR : 0 ≤ R ∧ R ≤ 24)
    (f : NE (S l) i j R → post 1) (g : ¬ NE (S l) i j R → post 0) : wpY_near post (c, ly, fi, ma, se, px, py, la) (zI l) (zI i) (zI j) (zI R) := by
  have r1 := wl_r hi hR.1
  have go : ∀ u0 : Int, u0 = wLo i R → ∃ n17, wY_near_17 post (zI l) (zI i) (zI j) (zI R) c ly fi ma se px py la n17 (zI u0) := by
    intro u0 eu
    refine ⟨27, yn_17 Q hl hi hj hR f g 27 u0 (by omega) (by omega) (by omega) (fun u' v' hu' hlt hv' => ?_)⟩
    have := (wl_i (u := u') hi hR.1).mpr hu'
    omega
  unfold wpY_near
  refine zb_le 0 (i - R) (fun h4 => nm_r (zi_sub i R) (go _ ?_)) (fun h4 => go 0 ?_) rfl (zi_sub i R)
  · unfold wLo; split <;> omega
  · unfold wLo; rw [if_pos (by omega)]
theorem ys_53 {post : Int32 → Prop} {J : Int32 → Prop} (Q : YP ly S) {l i j R u : Int} (hl : 0 ≤ l ∧ l ≤ 5) (hR : 0 ≤ R ∧ R ≤ 24) (hi : R ≤ i ∧ i ≤ 24 - R) (hj : R ≤ j ∧ j ≤ 24 - R) (hu : i - R ≤ u ∧ u ≤ i + R)
    (g : ¬ AL (S l) i j R → post 0) (hJ : (∀ v, j - R ≤ v → v ≤ j + R → S l u v = true) → J (zI (u + 1))) :
    ∀ (N : Nat) (v : Int), j - R ≤ v → v ≤ j + R + 1 → (j + R + 1 - v).toNat < N → (∀ v', j - R ≤ v' → v' < v → S l u v' = true) → wY_surrounded_53 post J (zI l) (zI i) (zI j) (zI R) (zI u) c ly fi ma se px py la N (zI v) := by
  intro N
  induction N with
  | zero => intro v h0 h1; omega
  | succ N ih =>
    intro v h0 h1 h2 hb
    refine zb_lt (j + R) v (fun h => nm_r (zi_1 u) (hJ (fun v' hv' h' => hb v' hv' (by omega)))) (fun h => ?_) (zi_add j R)
    have e := zi_iy l u v
    refine ⟨zv_in (625 * l + 25 * u + v) (by omega) e, ?_⟩
    rw [zv_cl _ e, Q l u v hl.1 hl.2 (by omega)]
    refine bb_0 (fun q => g (fun hA => ?_)) (fun q => nm_r (zi_1 v) (ih (v + 1) (by omega) (by omega) (by omega) (fun v' hv' hlt => ?_)))
    · have := hA.2.2 u v hu.1 hu.2 h0 h
      rw [q] at this; exact absurd this (by decide)
    · by_cases e : v' = v
      · rw [e]; exact q
      · exact hb v' hv' (by omega)
theorem ys_38 {post : Int32 → Prop} (Q : YP ly S) {l i j R : Int} (hl : 0 ≤ l ∧ l ≤ 5) (hR : 0 ≤ R ∧ R ≤ 24) (hi : R ≤ i ∧ i ≤ 24 - R) (hj : R ≤ j ∧ j ≤ 24 - R)
    (f : AL (S l) i j R → post 1) (g : ¬ AL (S l) i j R → post 0) :
    ∀ (N : Nat) (u : Int), i - R ≤ u → u ≤ i + R + 1 → (i + R + 1 - u).toNat < N → (∀ u' v', i - R ≤ u' → u' < u → j - R ≤ v' → v' ≤ j + R → S l u' v' = true) → wY_surrounded_38 post (zI l) (zI i) (zI j) (zI R) c ly fi ma se px py la N (zI u) := by
  intro N
  induction N with
  | zero => intro v h0 h1; omega
  | succ N ih =>
    intro u h0 h1 h2 hb
    refine zb_lt (i + R) u (fun h => f ⟨hi, hj, fun u' v' a1 a2 a3 a4 => hb u' v' a1 (by omega) a3 a4⟩) (fun h => nm_r (zi_sub j R) ⟨27, ?_⟩) (zi_add i R)
    refine ys_53 Q hl hR hi hj ⟨h0, h⟩ g (fun hn => ih (u + 1) (by omega) (by omega) (by omega) (fun u' v' a1 a2 a3 a4 => ?_)) 27 (j - R) (by omega) (by omega) (by omega) (fun v' hv' hlt => absurd hlt (by omega))
    by_cases e : u' = u
    · rw [e]; exact hn v' a3 a4
    · exact hb u' v' a1 (by omega) a3 a4
theorem yp_surr {post : Int32 → Prop} (Q : YP ly S) {l i j R : Int} (hl : 0 ≤ l ∧ l ≤ 5) (hi : 0 ≤ i ∧ i ≤ 24) (hj : 0 ≤ j ∧ j ≤ 24) (hR : 0 ≤ R ∧ R ≤ 24)
    (f : AL (S l) i j R → post 1) (g : ¬ AL (S l) i j R → post 0) : wpY_surrounded post (c, ly, fi, ma, se, px, py, la) (zI l) (zI i) (zI j) (zI R) := by
  have e24 : 24 - zI R = zI (24 - R) := zi_sub 24 R
  unfold wpY_surrounded
  dsimp only
  rw [e24]
  refine zb_lt i R (fun h => g (fun hA => absurd hA.1 (by omega))) (fun h1 => zb_lt (24 - R) i (fun h => g (fun hA => absurd hA.1 (by omega))) (fun h2 => zb_lt j R (fun h => g (fun hA => absurd hA.2.1 (by omega))) (fun h3 => zb_le j (24 - R) (fun h4 => nm_r (zi_sub i R) ⟨27, ?_⟩) (fun h => g (fun hA => absurd hA.2.1 (by omega))))))
  exact ys_38 Q hl hR (by omega) (by omega) f g 27 (i - R) (by omega) (by omega) (by omega) (fun u' v' a1 a2 a3 a4 => absurd a2 (by omega))
theorem yg_l {post : Int32 → SY → Prop} {l r : Int} (hl : 0 ≤ l ∧ l ≤ 5) (hr : 0 ≤ r ∧ r ≤ 12) (Q : YP ly S)
    (f : ∀ ly' ma', YP ly' (setl S l (KC (S l) (2 * r) 1)) → post 1 (c, ly', fi, ma', se, px, py, la)) :
    ∀ (N : Nat) (q : Int) (ma : Nat → Int32), 0 ≤ q → q ≤ 625 → (625 - q).toNat < N → (∀ i j, Gd i j → 25 * i + j < q → ma (25 * i + j).toNat = bI (KC (S l) (2 * r) 1 i j)) → wY_grow_22 post (zI l) (zI r) c N (zI q) ly fi ma se px py la := by
  intro N
  induction N with
  | zero => intro q ma h0 h1; omega
  | succ N ih =>
    intro q ma h0 h1 h2 hM
    refine zb_le 625 q (fun h => ?_) (fun h => ⟨by decide, by decide, ?_⟩)
    · exact yp_keep (g := KC (S l) (2 * r) 1) Q l hl (fun i j gd => hM i j gd (by omega)) (fun ly' Q' => f ly' ma Q')
    · have gq : Gd (q / 25) (q % 25) := by omega
      have st : ∀ b : Bool, b = KC (S l) (2 * r) 1 (q / 25) (q % 25) → wY_grow_22 post (zI l) (zI r) c N (zI (q + 1)) ly fi (upd ma (zI q).toNatClampNeg (vp_nar .boolean (bI b))) se px py la := by
        intro b eb
        refine ih (q + 1) _ (by omega) (by omega) (by omega) (fun i j gd hlt => ?_)
        rw [zi_cl (by omega), bi_v]
        unfold upd
        by_cases e : 25 * i + j = q
        · have ei : i = q / 25 := by omega
          have ej : j = q % 25 := by omega
          rw [if_pos (by omega), ei, ej, eb]
        · rw [if_neg (by omega)]; exact hM i j gd (by omega)
      rw [zi_d25 (by omega), zi_dbl]
      have er : zI q - zI (q / 25) * 25 = zI (q % 25) := by
        rw [← zi_d25 (by omega)]; exact zi_r25 (by omega)
      rw [er]
      refine yp_near Q hl (by omega) (by omega) (by omega) (fun hN => ⟨zv_in q (by omega), nm_e (nm_r (zi_1 q) (st true ?_))⟩) (fun hN => ⟨zv_in q (by omega), nm_e (nm_r (zi_1 q) (st false ?_))⟩)
      · exact ((kc_1 (by omega) gq).mpr hN).symm
      · cases e : KC (S l) (2 * r) 1 (q / 25) (q % 25)
        · rfl
        · exact absurd ((kc_1 (by omega) gq).mp e) hN
theorem ys_l {post : Int32 → SY → Prop} {l r : Int} (hl : 0 ≤ l ∧ l ≤ 5) (hr : 0 ≤ r ∧ r ≤ 6) (Q : YP ly S)
    (f : ∀ ly' ma', YP ly' (setl S l (KC (S l) (2 * r) ((2 * (2 * r) + 1) * (2 * (2 * r) + 1)))) → post 1 (c, ly', fi, ma', se, px, py, la)) :
    ∀ (N : Nat) (q : Int) (ma : Nat → Int32), 0 ≤ q → q ≤ 625 → (625 - q).toNat < N → (∀ i j, Gd i j → 25 * i + j < q → ma (25 * i + j).toNat = bI (KC (S l) (2 * r) ((2 * (2 * r) + 1) * (2 * (2 * r) + 1)) i j)) → wY_shrink_22 post (zI l) (zI r) c N (zI q) ly fi ma se px py la := by
  intro N
  induction N with
  | zero => intro q ma h0 h1; omega
  | succ N ih =>
    intro q ma h0 h1 h2 hM
    refine zb_le 625 q (fun h => ?_) (fun h => ⟨by decide, by decide, ?_⟩)
    · exact yp_keep (g := KC (S l) (2 * r) ((2 * (2 * r) + 1) * (2 * (2 * r) + 1))) Q l hl (fun i j gd => hM i j gd (by omega)) (fun ly' Q' => f ly' ma Q')
    · have gq : Gd (q / 25) (q % 25) := by omega
      have st : ∀ b : Bool, b = KC (S l) (2 * r) ((2 * (2 * r) + 1) * (2 * (2 * r) + 1)) (q / 25) (q % 25) → wY_shrink_22 post (zI l) (zI r) c N (zI (q + 1)) ly fi (upd ma (zI q).toNatClampNeg (vp_nar .boolean (bI b))) se px py la := by
        intro b eb
        refine ih (q + 1) _ (by omega) (by omega) (by omega) (fun i j gd hlt => ?_)
        rw [zi_cl (by omega), bi_v]
        unfold upd
        by_cases e : 25 * i + j = q
        · have ei : i = q / 25 := by omega
          have ej : j = q % 25 := by omega
          rw [if_pos (by omega), ei, ej, eb]
        · rw [if_neg (by omega)]; exact hM i j gd (by omega)
      rw [zi_d25 (by omega), zi_dbl]
      have er : zI q - zI (q / 25) * 25 = zI (q % 25) := by
        rw [← zi_d25 (by omega)]; exact zi_r25 (by omega)
      rw [er]
      refine yp_surr Q hl (by omega) (by omega) (by omega) (fun hN => ⟨zv_in q (by omega), nm_e (nm_r (zi_1 q) (st true ?_))⟩) (fun hN => ⟨zv_in q (by omega), nm_e (nm_r (zi_1 q) (st false ?_))⟩)
      · exact ((kc_2 (by omega) gq).mpr hN).symm
      · cases e : KC (S l) (2 * r) ((2 * (2 * r) + 1) * (2 * (2 * r) + 1)) (q / 25) (q % 25)
        · rfl
        · exact absurd ((kc_2 (by omega) gq).mp e) hN
end
theorem kc_c1 {g : Int → Int → Bool} {r : Int} (hr : 0 ≤ r) (H : Sup g) (C : clo g) : clo (KC g (2 * r) 1) := by
  intro i j h
  have gd := kc_s i j h
  obtain ⟨u, v, hu, hv, hg⟩ := (kc_1 (by omega) gd).mp h
  have Cg := C u v hg
  refine ⟨fun o => ⟨(kc_1 (by omega) (by omega)).mpr ?_, (kc_1 (by omega) (by omega)).mpr ?_⟩, fun o => ⟨(kc_1 (by omega) (by omega)).mpr ?_, (kc_1 (by omega) (by omega)).mpr ?_⟩⟩
  · by_cases e : u = i + 2 * r
    · have := H _ _ (Cg.1 (by omega)).1
      exact ⟨u - 1, v, by omega, hv, (Cg.1 (by omega)).1⟩
    · exact ⟨u, v, by omega, hv, hg⟩
  · by_cases e : u = i - 2 * r
    · have := H _ _ (Cg.1 (by omega)).2
      exact ⟨u + 1, v, by omega, hv, (Cg.1 (by omega)).2⟩
    · exact ⟨u, v, by omega, hv, hg⟩
  · by_cases e : v = j + 2 * r
    · have := H _ _ (Cg.2 (by omega)).1
      exact ⟨u, v - 1, hu, by omega, (Cg.2 (by omega)).1⟩
    · exact ⟨u, v, hu, by omega, hg⟩
  · by_cases e : v = j - 2 * r
    · have := H _ _ (Cg.2 (by omega)).2
      exact ⟨u, v + 1, hu, by omega, (Cg.2 (by omega)).2⟩
    · exact ⟨u, v, hu, by omega, hg⟩
theorem kc_c2 {g : Int → Int → Bool} {r : Int} (hr : 0 ≤ r) (C : clo g) : clo (KC g (2 * r) ((2 * (2 * r) + 1) * (2 * (2 * r) + 1))) := by
  intro i j h
  have gd := kc_s i j h
  obtain ⟨h1, h2, h3⟩ := (kc_2 (by omega) gd).mp h
  refine ⟨fun o => ⟨(kc_2 (by omega) (by omega)).mpr ⟨by omega, h2, fun u v a1 a2 a3 a4 => ?_⟩, (kc_2 (by omega) (by omega)).mpr ⟨by omega, h2, fun u v a1 a2 a3 a4 => ?_⟩⟩, fun o => ⟨(kc_2 (by omega) (by omega)).mpr ⟨h1, by omega, fun u v a1 a2 a3 a4 => ?_⟩, (kc_2 (by omega) (by omega)).mpr ⟨h1, by omega, fun u v a1 a2 a3 a4 => ?_⟩⟩⟩
  · by_cases e : u = i - 2 * r - 1
    · have := (C _ _ (h3 (u + 1) v (by omega) (by omega) a3 a4)).1 (by omega)
      have z : u + 1 - 1 = u := by omega
      rw [z] at this; exact this.1
    · exact h3 u v (by omega) (by omega) a3 a4
  · by_cases e : u = i + 2 * r + 1
    · have := (C _ _ (h3 (u - 1) v (by omega) (by omega) a3 a4)).1 (by omega)
      have z : u - 1 + 1 = u := by omega
      rw [z] at this; exact this.2
    · exact h3 u v (by omega) (by omega) a3 a4
  · by_cases e : v = j - 2 * r - 1
    · have := (C _ _ (h3 u (v + 1) a1 a2 (by omega) (by omega))).2 (by omega)
      have z : v + 1 - 1 = v := by omega
      rw [z] at this; exact this.1
    · exact h3 u v a1 a2 (by omega) (by omega)
  · by_cases e : v = j + 2 * r + 1
    · have := (C _ _ (h3 u (v - 1) a1 a2 (by omega) (by omega))).2 (by omega)
      have z : v - 1 + 1 = v := by omega
      rw [z] at this; exact this.2
    · exact h3 u v a1 a2 (by omega) (by omega)
theorem yp_c {ly : Nat → Int32} {S S' : Int → Int → Int → Bool} (Q : YP ly S) (h : ∀ s, s ≤ 5 → S' s = S s) : YP ly S' := by
  intro l i j l0 l5 gd
  rw [h l l5]; exact Q l i j l0 l5 gd
theorem cl_c {S S' : Int → Int → Int → Bool} (C : CL S) (h : ∀ s, s ≤ 5 → S' s = S s) : CL S' := by
  intro l l0 l5
  rw [h l l5]; exact C l l0 l5
theorem i_vc_grow {k : Nat} {u : SX} {v : SY} (I : i_Rel k u v) (hk : k + 5 ≤ 2560) (v1 : Int32) (v2 : Int32) : wpX_grow (fun r u' => wpY_grow (fun r' v' => r' = r ∧ i_Rel (k + 5) u' v') v v1 v2) u v1 v2 := by
  obtain ⟨c, rc, gc, lr, rk, a, cx, cy, re, st, dg⟩ := u
  obtain ⟨c', ly, fi, ma, se, px, py, la⟩ := v
  obtain ⟨S, n, X, Y, P, Q, C, T, rfl, rfl⟩ := I
  obtain ⟨l, hl, rfl⟩ := zi_ex v1
  obtain ⟨w, hw, rfl⟩ := zi_ex v2
  have R0 : i_Rel (k + 5) (zI n, rc, gc, lr, rk, a, cx, cy, re, st, dg) (zI n, ly, fi, ma, se, px, py, la) := i_mk P Q C T
  have Yc : ∀ post : Int32 → SY → Prop, ((0 ≤ l ∧ l ≤ 5) ∧ (0 ≤ w ∧ w ≤ 12) → ∃ N, wY_grow_22 post (zI l) (zI w) (zI n) N 0 ly fi ma se px py la) → (¬ ((0 ≤ l ∧ l ≤ 5) ∧ (0 ≤ w ∧ w ≤ 12)) → post 0 (zI n, ly, fi, ma, se, px, py, la)) → wpY_grow post (zI n, ly, fi, ma, se, px, py, la) (zI l) (zI w) := by
    intro post f g
    unfold wpY_grow
    refine yg_layer l hl (fun h1 => b1_f ?_) (fun h1 => b0_t (g (by omega)))
    exact zb_lt w 0 (fun h => g (by omega)) (fun h0 => zb_le w 12 (fun h => f (by omega)) (fun h => g (by omega)))
  unfold wpX_grow
  refine xg_layer l hl (fun h1 => b1_f ?_) (fun h1 => b0_t (Yc _ (fun h => absurd h.1 h1) (fun _ => ⟨rfl, R0⟩)))
  refine zb_lt w 0 (fun h2 => Yc _ (fun h => absurd h2 (by omega)) (fun _ => ⟨rfl, R0⟩)) (fun h2 => zb_le w 12 (fun h3 => ?_) (fun h3 => Yc _ (fun h => absurd h3 (by omega)) (fun _ => ⟨rfl, R0⟩)))
  rw [zi_dbl]
  refine xp_kc (m := 1) P h1 (by omega) (by omega) (fun a2 S2 P2 e2 => ?_)
  refine Yc _ (fun _ => ⟨626, ?_⟩) (fun h => absurd ⟨h1, h2, h3⟩ h)
  refine yg_l h1 ⟨h2, h3⟩ Q (fun ly' ma' Q' => ⟨rfl, ?_⟩) 626 0 ma (by omega) (by omega) (by omega) (fun i j gd hlt => absurd hlt (by omega))
  exact i_mk P2 (yp_c Q' e2) (cl_c (cl_set C (kc_c1 h2 (fun i j => P.2 l i j) (C l h1.1 h1.2))) e2) T
theorem i_vc_shrink {k : Nat} {u : SX} {v : SY} (I : i_Rel k u v) (hk : k + 5 ≤ 2560) (v1 : Int32) (v2 : Int32) : wpX_shrink (fun r u' => wpY_shrink (fun r' v' => r' = r ∧ i_Rel (k + 5) u' v') v v1 v2) u v1 v2 := by
  obtain ⟨c, rc, gc, lr, rk, a, cx, cy, re, st, dg⟩ := u
  obtain ⟨c', ly, fi, ma, se, px, py, la⟩ := v
  obtain ⟨S, n, X, Y, P, Q, C, T, rfl, rfl⟩ := I
  obtain ⟨l, hl, rfl⟩ := zi_ex v1
  obtain ⟨w, hw, rfl⟩ := zi_ex v2
  have R0 : i_Rel (k + 5) (zI n, rc, gc, lr, rk, a, cx, cy, re, st, dg) (zI n, ly, fi, ma, se, px, py, la) := i_mk P Q C T
  have Yc : ∀ post : Int32 → SY → Prop, ((0 ≤ l ∧ l ≤ 5) ∧ (0 ≤ w ∧ w ≤ 6) → ∃ N, wY_shrink_22 post (zI l) (zI w) (zI n) N 0 ly fi ma se px py la) → (¬ ((0 ≤ l ∧ l ≤ 5) ∧ (0 ≤ w ∧ w ≤ 6)) → post 0 (zI n, ly, fi, ma, se, px, py, la)) → wpY_shrink post (zI n, ly, fi, ma, se, px, py, la) (zI l) (zI w) := by
    intro post f g
    unfold wpY_shrink
    refine yg_layer l hl (fun h1 => b1_f ?_) (fun h1 => b0_t (g (by omega)))
    exact zb_lt w 0 (fun h => g (by omega)) (fun h0 => zb_le w 6 (fun h => f (by omega)) (fun h => g (by omega)))
  unfold wpX_shrink
  refine xg_layer l hl (fun h1 => b1_f ?_) (fun h1 => b0_t (Yc _ (fun h => absurd h.1 h1) (fun _ => ⟨rfl, R0⟩)))
  refine zb_lt w 0 (fun h2 => Yc _ (fun h => absurd h2 (by omega)) (fun _ => ⟨rfl, R0⟩)) (fun h2 => zb_le w 6 (fun h3 => ?_) (fun h3 => Yc _ (fun h => absurd h3 (by omega)) (fun _ => ⟨rfl, R0⟩)))
  have e4 : (4 * zI w) + 1 = zI (2 * (2 * w) + 1) := by
    have e : 4 * zI w = zI (4 * w) := zi_mul 4 w
    rw [e, zi_1]; apply congrArg zI; omega
  refine nm_r e4 ?_
  rw [zi_dbl, zi_mul]
  have hb : 0 ≤ (2 * (2 * w) + 1) * (2 * (2 * w) + 1) ∧ (2 * (2 * w) + 1) * (2 * (2 * w) + 1) ≤ 10000 := by
    have e : w = 0 ∨ w = 1 ∨ w = 2 ∨ w = 3 ∨ w = 4 ∨ w = 5 ∨ w = 6 := by omega
    rcases e with rfl | rfl | rfl | rfl | rfl | rfl | rfl <;> decide
  refine xp_kc P h1 (by omega) hb (fun a2 S2 P2 e2 => ?_)
  refine Yc _ (fun _ => ⟨626, ?_⟩) (fun h => absurd ⟨h1, h2, h3⟩ h)
  refine ys_l h1 ⟨h2, h3⟩ Q (fun ly' ma' Q' => ⟨rfl, ?_⟩) 626 0 ma (by omega) (by omega) (by omega) (fun i j gd hlt => absurd hlt (by omega))
  exact i_mk P2 (yp_c Q' e2) (cl_c (cl_set C (kc_c2 h2 (C l h1.1 h1.2))) e2) T
