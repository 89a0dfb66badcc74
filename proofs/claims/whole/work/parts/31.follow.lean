/-! Y: directions of boundary edges, the edge that follows -/
def dY (g : Int → Int → Bool) (i j : Int) : Int := if BE g i j = true then drX g i j + 1 else 0
theorem yd_q (g : Int → Int → Bool) (i j : Int) : 0 ≤ drX g i j ∧ drX g i j ≤ 3 := by unfold drX; split <;> split <;> omega
theorem yd_r (g : Int → Int → Bool) (i j : Int) : 0 ≤ dY g i j ∧ dY g i j ≤ 4 := by
  have := yd_q g i j
  unfold dY; split <;> omega
theorem yd_i {g : Int → Int → Bool} (H : Sup g) {i j d : Int} (hd : 0 ≤ d) : dY g i j = d + 1 ↔ OB g i j d := by
  unfold dY
  constructor
  · intro h
    by_cases e : BE g i j = true
    · rw [if_pos e] at h
      have : drX g i j = d := by omega
      rw [← this]; exact be_ob e
    · rw [if_neg e] at h; omega
  · intro h
    have := ob_be H h
    rw [if_pos this.1, this.2]
theorem ob_in {g : Int → Int → Bool} (C : clo g) {i j d : Int} (h : OB g i j d) : g i j = true := by
  rcases h with ⟨-, o, c1, -⟩ | ⟨-, o, c1, -⟩ | ⟨-, o, c1, -⟩ | ⟨-, o, c1, -⟩
  · exact ga ((C _ _ c1).2 (by omega)).1 rfl (by omega)
  · exact ga ((C _ _ c1).1 (by omega)).2 (by omega) rfl
  · exact ga ((C _ _ c1).2 (by omega)).2 rfl (by omega)
  · exact ga ((C _ _ c1).1 (by omega)).1 (by omega) rfl
theorem pr_be {g : Int → Int → Bool} (C : clo g) {i j : Int} (gd : Gd i j) (hd : i % 2 + j % 2 = 1) : prt g i j = 1 ↔ BE g i j = true := by
  constructor
  · intro h
    unfold prt at h
    by_cases z : g i j = false
    · rw [if_pos z] at h; omega
    · rw [if_neg z, if_neg (by omega), if_pos (by omega)] at h
      unfold BE
      rw [decide_eq_true_eq]
      refine ⟨gd, hd, ?_⟩
      by_cases y : cc g i j = 1
      · exact y
      · rw [if_neg y] at h; omega
  · intro h
    have hi := ob_in C (be_ob h)
    unfold BE at h
    rw [decide_eq_true_eq] at h
    unfold prt
    rw [if_neg (by rw [hi]; decide), if_neg (by omega), if_pos (by omega), if_pos h.2.2]
section
variable {c : Int32} {fi ly ma se px py la : Nat → Int32} {S : Int → Int → Int → Bool}
theorem yp_dir {post : Int32 → Prop} (Q : YP ly S) (H : HS S) {l i j : Int} (hl : 0 ≤ l ∧ l ≤ 5) (C : clo (S l)) (gd : Gd i j) (f : post (zI (dY (S l) i j))) : wpY_direction post (c, ly, fi, ma, se, px, py, la) (zI l) (zI i) (zI j) := by
  have hp := pr_r (S l) i j
  have no : ¬ BE (S l) i j = true → post 0 := by
    intro h; unfold dY at f; rw [if_neg h] at f; exact f
  unfold wpY_direction
  dsimp only
  rw [zi_add, zi_r2 (by omega), zi_r2 (by omega)]
  refine ⟨by decide, zb_eq ((i + j) % 2) 1 (fun q => yp_part Q H l i j hl (by omega) (by omega) (zb_eq (prt (S l) i j) 1 (fun q2 => ⟨by decide, ?_⟩) (fun q2 => no (fun z => q2 ((pr_be C gd (by omega)).mpr z))))) (fun q => no (fun z => ?_))⟩
  · have hb := (pr_be C gd (by omega)).mp q2
    unfold dY drX at f
    rw [if_pos hb] at f
    refine zb_eq (i % 2) 1 (fun q3 => ?_) (fun q3 => ?_)
    · rw [if_pos q3] at f
      rw [zi_1]
      refine yp_in Q H l _ _ hl (by omega) (by omega) (bb_0 (fun z => ?_) (fun z => ?_))
      · rw [if_neg (by rw [z]; decide)] at f; exact f
      · rw [if_pos z] at f; exact f
    · rw [if_neg q3] at f
      rw [zi_s1]
      refine yp_in Q H l _ _ hl (by omega) (by omega) (bb_0 (fun z => ?_) (fun z => ?_))
      · rw [if_neg (by rw [z]; decide)] at f; exact f
      · rw [if_pos z] at f; exact f
  · have := be_ob z
    unfold OB at this
    omega
def cL (i j d : Int) : Int := 25 * (i + eaD ((d + 1) % 4)) + (j + noD ((d + 1) % 4))
theorem yp_cl {post : Int32 → Prop} {i j d : Int} (hd : 0 ≤ d ∧ d ≤ 3) (f : post (zI (cL i j d))) : wpY_cellLeft post (c, ly, fi, ma, se, px, py, la) (zI i) (zI j) (zI (d + 1)) := by
  have e25 : ∀ z : Int, 25 * zI z = zI (25 * z) := fun z => zi_mul 25 z
  have a2 : ∀ z : Int, zI z + 2 = zI (z + 2) := fun z => zi_add z 2
  have m3 : ∀ z : Int, zI z - 3 = zI (z - 3) := fun z => zi_sub z 3
  unfold wpY_cellLeft
  dsimp only
  rw [zi_r2 (by omega), e25, zi_add, a2, zi_sub, zi_add, m3, e25, zi_add]
  unfold cL at f
  refine ⟨by decide, zb_eq ((d + 1) % 2) 1 (fun q => ?_) (fun q => ?_)⟩
  · have e : 25 * i + j + 2 - (d + 1) = 25 * (i + eaD ((d + 1) % 4)) + (j + noD ((d + 1) % 4)) := by
      rcases d4 hd with rfl | rfl | rfl | rfl
      · show 25 * i + j + 2 - (0 + 1) = 25 * (i + 0) + (j + 1); omega
      · omega
      · show 25 * i + j + 2 - (2 + 1) = 25 * (i + 0) + (j + -1); omega
      · omega
    rw [e]; exact f
  · have e : 25 * (i + (d + 1) - 3) + j = 25 * (i + eaD ((d + 1) % 4)) + (j + noD ((d + 1) % 4)) := by
      rcases d4 hd with rfl | rfl | rfl | rfl
      · omega
      · show 25 * (i + (1 + 1) - 3) + j = 25 * (i + -1) + (j + 0); omega
      · omega
      · show 25 * (i + (3 + 1) - 3) + j = 25 * (i + 1) + (j + 0); omega
    rw [e]; exact f
theorem fo_s {post : Int32 → Prop} (Q : YP ly S) (H : HS S) {l : Int} (hl : 0 ≤ l ∧ l ≤ 5) (C : clo (S l)) {N : Nat} {pi pj ce v0 e : Int} (he : 0 ≤ e ∧ e ≤ 3) (hi : 0 ≤ pi ∧ pi ≤ 24) (hj : 0 ≤ pj ∧ pj ≤ 24) (hv : -1 ≤ v0 ∧ v0 ≤ 1000) (hc : -100 ≤ ce ∧ ce ≤ 1000)
    (hit : OB (S l) (pi + eaD e) (pj + noD e) e → (v0 < 0 ∨ cL (pi + eaD e) (pj + noD e) e = ce) → wY_following_95 post (zI l) (zI ce) (zI pi) (zI pj) c ly fi ma se px py la N (zI (25 * (pi + eaD e) + (pj + noD e))) (zI (e + 1 + 1)))
    (miss : ¬ (OB (S l) (pi + eaD e) (pj + noD e) e ∧ (v0 < 0 ∨ cL (pi + eaD e) (pj + noD e) e = ce)) → wY_following_95 post (zI l) (zI ce) (zI pi) (zI pj) c ly fi ma se px py la N (zI v0) (zI (e + 1 + 1))) :
    wY_following_95 post (zI l) (zI ce) (zI pi) (zI pj) c ly fi ma se px py la (N + 1) (zI v0) (zI (e + 1)) := by
  have Hl : Sup (S l) := fun i j => H l i j
  have r1 := ea_r e
  have r2 := no_r e
  have k159 : ∀ u v : Int, u = pi + eaD e → v = pj + noD e → wY_following_159 post (wY_following_95 post (zI l) (zI ce) (zI pi) (zI pj) c ly fi ma se px py la N) (zI l) (zI ce) (zI v0) (zI pi) (zI pj) (zI (e + 1)) (zI u) (zI v) c ly fi ma se px py la := by
    intro u v eu ev
    subst eu; subst ev
    have k206 : OB (S l) (pi + eaD e) (pj + noD e) e → (v0 < 0 ∨ cL (pi + eaD e) (pj + noD e) e = ce) → wY_following_206 post (wY_following_95 post (zI l) (zI ce) (zI pi) (zI pj) c ly fi ma se px py la N) (zI l) (zI ce) (zI pi) (zI pj) (zI (e + 1)) (zI (pi + eaD e)) (zI (pj + noD e)) c ly fi ma se px py la := by
      intro h1 h2
      unfold wY_following_206
      have e25 : 25 * zI (pi + eaD e) = zI (25 * (pi + eaD e)) := zi_mul 25 _
      rw [e25]
      exact nm_r (zi_add _ _) (nm_r (zi_1 _) (hit h1 h2))
    unfold wY_following_159
    refine yg_atom _ _ (by omega) (by omega) (fun ga => b1_f ?_) (fun ga => b0_t (nm_r (zi_1 _) (miss (fun z => ga (ob_g Hl z.1)))))
    have dr := yd_r (S l) (pi + eaD e) (pj + noD e)
    refine yp_dir Q H hl C ga (zb_eq (dY (S l) (pi + eaD e) (pj + noD e)) (e + 1) (fun q => ?_) (fun q => nm_r (zi_1 _) (miss (fun z => q ((yd_i Hl he.1).mpr z.1)))))
    have ob := (yd_i Hl he.1).mp q
    have rc : -100 ≤ cL (pi + eaD e) (pj + noD e) e ∧ cL (pi + eaD e) (pj + noD e) e ≤ 1000 := by
      have := ea_r ((e + 1) % 4)
      have := no_r ((e + 1) % 4)
      unfold cL; omega
    refine zb_lt v0 0 (fun y => k206 ob (Or.inl y)) (fun y => yp_cl he (zb_eq (cL (pi + eaD e) (pj + noD e) e) ce (fun y2 => k206 ob (Or.inr y2)) (fun y2 => nm_r (zi_1 _) (miss (fun z => z.2.elim (fun w => by omega) (fun w => y2 w))))))
  have k129 : ∀ u : Int, u = pi + eaD e → wY_following_129 post (wY_following_95 post (zI l) (zI ce) (zI pi) (zI pj) c ly fi ma se px py la N) (zI l) (zI ce) (zI v0) (zI pi) (zI pj) (zI (e + 1)) (zI u) c ly fi ma se px py la := by
    intro u eu
    unfold wY_following_129
    rw [zi_1 pj, zi_s1 pj]
    refine zb_eq (e + 1) 2 (fun q => k159 u _ eu ?_) (fun q => zb_eq (e + 1) 4 (fun q2 => k159 u _ eu ?_) (fun q2 => k159 u _ eu ?_))
    · have : e = 1 := by omega
      subst this; rfl
    · have : e = 3 := by omega
      subst this; rfl
    · unfold noD; rw [if_neg (by omega), if_neg (by omega)]; omega
  refine zb_le 5 (e + 1) (fun q => absurd q (by omega)) (fun _ => ?_)
  rw [zi_1 pi, zi_s1 pi]
  refine zb_eq (e + 1) 1 (fun q => k129 _ ?_) (fun q => zb_eq (e + 1) 3 (fun q2 => k129 _ ?_) (fun q2 => k129 _ ?_))
  · have : e = 0 := by omega
    subst this; rfl
  · have : e = 2 := by omega
    subst this; rfl
  · unfold eaD; rw [if_neg (by omega), if_neg (by omega)]; omega
theorem ob_n0 {g : Int → Int → Bool} {i j : Int} {b : Bool} (h1 : g i (j + 1) = b) (h2 : b = false ∨ g i (j - 1) = true) : ¬ OB g i j 0 := by
  rintro (⟨-, -, c1, c2⟩ | ⟨e, -⟩ | ⟨e, -⟩ | ⟨e, -⟩)
  · rcases h2 with h2 | h2
    · rw [h1, h2] at c1; exact absurd c1 (by decide)
    · rw [h2] at c2; exact absurd c2 (by decide)
  · exact absurd e (by decide)
  · exact absurd e (by decide)
  · exact absurd e (by decide)
theorem ob_n1 {g : Int → Int → Bool} {i j : Int} {b : Bool} (h1 : g (i - 1) j = b) (h2 : b = false ∨ g (i + 1) j = true) : ¬ OB g i j 1 := by
  rintro (⟨e, -⟩ | ⟨-, -, c1, c2⟩ | ⟨e, -⟩ | ⟨e, -⟩)
  · exact absurd e (by decide)
  · rcases h2 with h2 | h2
    · rw [h1, h2] at c1; exact absurd c1 (by decide)
    · rw [h2] at c2; exact absurd c2 (by decide)
  · exact absurd e (by decide)
  · exact absurd e (by decide)
theorem ob_n2 {g : Int → Int → Bool} {i j : Int} {b : Bool} (h1 : g i (j - 1) = b) (h2 : b = false ∨ g i (j + 1) = true) : ¬ OB g i j 2 := by
  rintro (⟨e, -⟩ | ⟨e, -⟩ | ⟨-, -, c1, c2⟩ | ⟨e, -⟩)
  · exact absurd e (by decide)
  · exact absurd e (by decide)
  · rcases h2 with h2 | h2
    · rw [h1, h2] at c1; exact absurd c1 (by decide)
    · rw [h2] at c2; exact absurd c2 (by decide)
  · exact absurd e (by decide)
theorem ob_n3 {g : Int → Int → Bool} {i j : Int} {b : Bool} (h1 : g (i + 1) j = b) (h2 : b = false ∨ g (i - 1) j = true) : ¬ OB g i j 3 := by
  rintro (⟨e, -⟩ | ⟨e, -⟩ | ⟨e, -⟩ | ⟨-, -, c1, c2⟩)
  · exact absurd e (by decide)
  · exact absurd e (by decide)
  · exact absurd e (by decide)
  · rcases h2 with h2 | h2
    · rw [h1, h2] at c1; exact absurd c1 (by decide)
    · rw [h2] at c2; exact absurd c2 (by decide)
theorem fo_0 {post : Int32 → Prop} (Q : YP ly S) (H : HS S) {lv : Int} (hl : 0 ≤ lv ∧ lv ≤ 5) (C : clo (S lv)) {i j : Int} (o : i % 2 = 1 ∧ j % 2 = 0) (c1 : S lv (i) (j + 1) = true) (c2 : S lv (i) (j - 1) = false)
    (f : post (zI (25 * nxI (S lv) i j 0 + nxJ (S lv) i j 0))) : ∃ N, wY_following_95 post (zI lv) (zI (cL i j 0)) (zI (i + eaD 0)) (zI (j + noD 0)) c ly fi ma se px py la N (-1) 1 := by
  have Hl : Sup (S lv) := fun i j => H lv i j
  have gd := Hl _ _ c1
  have p1 : i + eaD 0 = i + 1 := by show i + 1 = i + 1; omega
  have p2 : j + noD 0 = j := by show j + 0 = j; omega
  have pc : cL i j 0 = 25 * (i) + (j + 1) := by show 25 * (i + 0) + (j + 1) = 25 * (i) + (j + 1); omega
  unfold nxI nxJ at f
  rw [p1, p2, pc]
  refine ⟨5, ?_⟩
  cases hA : S lv (i + 2) (j + 1)
  · cases hB : S lv (i + 2) (j - 1)
    · have e : nD (S lv) i j 0 = 1 := by unfold nD; rw [if_pos (ga hA (by show i + 2 * 1 + 0 = i + 2; omega) (by show j + 2 * 0 + 1 = j + 1; omega))]; rfl
      have z1 : i + (eaD 0 + eaD 1) = i + 1 := by show i + (1 + 0) = i + 1; omega
      have z2 : j + (noD 0 + noD 1) = j + 1 := by show j + (0 + 1) = j + 1; omega
      rw [e, z1, z2] at f
      have x01 : i + 1 + eaD 0 = i + 2 := by show i + 1 + 1 = i + 2; omega
      have x02 : j + noD 0 = j := by show j + 0 = j; omega
      refine fo_s (e := 0) (v0 := -1) (pi := i + 1) (pj := j) (ce := 25 * (i) + (j + 1)) Q H hl C (by omega) (by omega) (by omega) (by omega) (by omega) (fun ho hv => ?_) (fun hm => ?_)
      · rw [x01, x02] at ho; exact absurd ho (ob_n0 (ga hA (by omega) (by omega)) (Or.inl rfl))
      have x11 : i + 1 + eaD 1 = i + 1 := by show i + 1 + 0 = i + 1; omega
      have x12 : j + noD 1 = j + 1 := by show j + 1 = j + 1; omega
      refine fo_s (e := 1) (v0 := -1) (pi := i + 1) (pj := j) (ce := 25 * (i) + (j + 1)) Q H hl C (by omega) (by omega) (by omega) (by omega) (by omega) (fun ho hv => ?_) (fun hm => ?_)
      rotate_left
      · exact absurd ⟨by rw [x11, x12]; exact (Or.inr (Or.inl ⟨rfl, ⟨by omega, by omega⟩, ga c1 (by omega) (by omega), ga hA (by omega) (by omega)⟩)), Or.inl (by omega)⟩ hm
      rw [x11, x12]
      have x21 : i + 1 + eaD 2 = i := by show i + 1 + -1 = i; omega
      have x22 : j + noD 2 = j := by show j + 0 = j; omega
      refine fo_s (e := 2) (v0 := 25 * (i + 1) + (j + 1)) (pi := i + 1) (pj := j) (ce := 25 * (i) + (j + 1)) Q H hl C (by omega) (by omega) (by omega) (by omega) (by omega) (fun ho hv => ?_) (fun hm => ?_)
      · rw [x21, x22] at ho; exact absurd ho (ob_n2 (ga c2 (by omega) (by omega)) (Or.inl rfl))
      have x31 : i + 1 + eaD 3 = i + 1 := by show i + 1 + 0 = i + 1; omega
      have x32 : j + noD 3 = j - 1 := by show j + -1 = j - 1; omega
      refine fo_s (e := 3) (v0 := 25 * (i + 1) + (j + 1)) (pi := i + 1) (pj := j) (ce := 25 * (i) + (j + 1)) Q H hl C (by omega) (by omega) (by omega) (by omega) (by omega) (fun ho hv => ?_) (fun hm => ?_)
      · rw [x31, x32] at ho; exact absurd ho (ob_n3 (ga hB (by omega) (by omega)) (Or.inl rfl))
      exact zb_le 5 (3 + 1 + 1) (fun _ => f) (fun z => absurd z (by omega))
    · have e : nD (S lv) i j 0 = 1 := by unfold nD; rw [if_pos (ga hA (by show i + 2 * 1 + 0 = i + 2; omega) (by show j + 2 * 0 + 1 = j + 1; omega))]; rfl
      have z1 : i + (eaD 0 + eaD 1) = i + 1 := by show i + (1 + 0) = i + 1; omega
      have z2 : j + (noD 0 + noD 1) = j + 1 := by show j + (0 + 1) = j + 1; omega
      rw [e, z1, z2] at f
      have gB := Hl _ _ hB
      have x01 : i + 1 + eaD 0 = i + 2 := by show i + 1 + 1 = i + 2; omega
      have x02 : j + noD 0 = j := by show j + 0 = j; omega
      refine fo_s (e := 0) (v0 := -1) (pi := i + 1) (pj := j) (ce := 25 * (i) + (j + 1)) Q H hl C (by omega) (by omega) (by omega) (by omega) (by omega) (fun ho hv => ?_) (fun hm => ?_)
      · rw [x01, x02] at ho; exact absurd ho (ob_n0 (ga hA (by omega) (by omega)) (Or.inl rfl))
      have x11 : i + 1 + eaD 1 = i + 1 := by show i + 1 + 0 = i + 1; omega
      have x12 : j + noD 1 = j + 1 := by show j + 1 = j + 1; omega
      refine fo_s (e := 1) (v0 := -1) (pi := i + 1) (pj := j) (ce := 25 * (i) + (j + 1)) Q H hl C (by omega) (by omega) (by omega) (by omega) (by omega) (fun ho hv => ?_) (fun hm => ?_)
      rotate_left
      · exact absurd ⟨by rw [x11, x12]; exact (Or.inr (Or.inl ⟨rfl, ⟨by omega, by omega⟩, ga c1 (by omega) (by omega), ga hA (by omega) (by omega)⟩)), Or.inl (by omega)⟩ hm
      rw [x11, x12]
      have x21 : i + 1 + eaD 2 = i := by show i + 1 + -1 = i; omega
      have x22 : j + noD 2 = j := by show j + 0 = j; omega
      refine fo_s (e := 2) (v0 := 25 * (i + 1) + (j + 1)) (pi := i + 1) (pj := j) (ce := 25 * (i) + (j + 1)) Q H hl C (by omega) (by omega) (by omega) (by omega) (by omega) (fun ho hv => ?_) (fun hm => ?_)
      · rw [x21, x22] at ho; exact absurd ho (ob_n2 (ga c2 (by omega) (by omega)) (Or.inl rfl))
      have x31 : i + 1 + eaD 3 = i + 1 := by show i + 1 + 0 = i + 1; omega
      have x32 : j + noD 3 = j - 1 := by show j + -1 = j - 1; omega
      refine fo_s (e := 3) (v0 := 25 * (i + 1) + (j + 1)) (pi := i + 1) (pj := j) (ce := 25 * (i) + (j + 1)) Q H hl C (by omega) (by omega) (by omega) (by omega) (by omega) (fun ho hv => ?_) (fun hm => ?_)
      · rw [x31, x32] at hv
        exact hv.elim (fun w => absurd w (by omega)) (fun w => absurd (show 25 * (i + 1 + 1) + (j - 1 + 0) = 25 * (i) + (j + 1) from w) (by omega))
      exact zb_le 5 (3 + 1 + 1) (fun _ => f) (fun z => absurd z (by omega))
  · cases hB : S lv (i + 2) (j - 1)
    · have e : nD (S lv) i j 0 = 0 := by unfold nD; rw [if_neg (fun z => absurd ((ga hA (by show i + 2 * 1 + 0 = i + 2; omega) (by show j + 2 * 0 + 1 = j + 1; omega)).symm.trans z) (by decide)), if_neg (fun z => absurd ((ga hB (by show i + 2 * 1 + 0 = i + 2; omega) (by show j + 2 * 0 + -1 = j - 1; omega)).symm.trans z) (by decide))]
      have z1 : i + (eaD 0 + eaD 0) = i + 2 := by show i + (1 + 1) = i + 2; omega
      have z2 : j + (noD 0 + noD 0) = j := by show j + (0 + 0) = j; omega
      rw [e, z1, z2] at f
      have gA := Hl _ _ hA
      have x01 : i + 1 + eaD 0 = i + 2 := by show i + 1 + 1 = i + 2; omega
      have x02 : j + noD 0 = j := by show j + 0 = j; omega
      refine fo_s (e := 0) (v0 := -1) (pi := i + 1) (pj := j) (ce := 25 * (i) + (j + 1)) Q H hl C (by omega) (by omega) (by omega) (by omega) (by omega) (fun ho hv => ?_) (fun hm => ?_)
      rotate_left
      · exact absurd ⟨by rw [x01, x02]; exact (Or.inl ⟨rfl, ⟨by omega, by omega⟩, ga hA (by omega) (by omega), ga hB (by omega) (by omega)⟩), Or.inl (by omega)⟩ hm
      rw [x01, x02]
      have x11 : i + 1 + eaD 1 = i + 1 := by show i + 1 + 0 = i + 1; omega
      have x12 : j + noD 1 = j + 1 := by show j + 1 = j + 1; omega
      refine fo_s (e := 1) (v0 := 25 * (i + 2) + (j)) (pi := i + 1) (pj := j) (ce := 25 * (i) + (j + 1)) Q H hl C (by omega) (by omega) (by omega) (by omega) (by omega) (fun ho hv => ?_) (fun hm => ?_)
      · rw [x11, x12] at ho; exact absurd ho (ob_n1 rfl (Or.inr (ga hA (by omega) (by omega))))
      have x21 : i + 1 + eaD 2 = i := by show i + 1 + -1 = i; omega
      have x22 : j + noD 2 = j := by show j + 0 = j; omega
      refine fo_s (e := 2) (v0 := 25 * (i + 2) + (j)) (pi := i + 1) (pj := j) (ce := 25 * (i) + (j + 1)) Q H hl C (by omega) (by omega) (by omega) (by omega) (by omega) (fun ho hv => ?_) (fun hm => ?_)
      · rw [x21, x22] at ho; exact absurd ho (ob_n2 (ga c2 (by omega) (by omega)) (Or.inl rfl))
      have x31 : i + 1 + eaD 3 = i + 1 := by show i + 1 + 0 = i + 1; omega
      have x32 : j + noD 3 = j - 1 := by show j + -1 = j - 1; omega
      refine fo_s (e := 3) (v0 := 25 * (i + 2) + (j)) (pi := i + 1) (pj := j) (ce := 25 * (i) + (j + 1)) Q H hl C (by omega) (by omega) (by omega) (by omega) (by omega) (fun ho hv => ?_) (fun hm => ?_)
      · rw [x31, x32] at ho; exact absurd ho (ob_n3 (ga hB (by omega) (by omega)) (Or.inl rfl))
      exact zb_le 5 (3 + 1 + 1) (fun _ => f) (fun z => absurd z (by omega))
    · have e : nD (S lv) i j 0 = 3 := by unfold nD; rw [if_neg (fun z => absurd ((ga hA (by show i + 2 * 1 + 0 = i + 2; omega) (by show j + 2 * 0 + 1 = j + 1; omega)).symm.trans z) (by decide)), if_pos (ga hB (by show i + 2 * 1 + 0 = i + 2; omega) (by show j + 2 * 0 + -1 = j - 1; omega))]; rfl
      have z1 : i + (eaD 0 + eaD 3) = i + 1 := by show i + (1 + 0) = i + 1; omega
      have z2 : j + (noD 0 + noD 3) = j - 1 := by show j + (0 + -1) = j - 1; omega
      rw [e, z1, z2] at f
      have gA := Hl _ _ hA
      have gB := Hl _ _ hB
      have x01 : i + 1 + eaD 0 = i + 2 := by show i + 1 + 1 = i + 2; omega
      have x02 : j + noD 0 = j := by show j + 0 = j; omega
      refine fo_s (e := 0) (v0 := -1) (pi := i + 1) (pj := j) (ce := 25 * (i) + (j + 1)) Q H hl C (by omega) (by omega) (by omega) (by omega) (by omega) (fun ho hv => ?_) (fun hm => ?_)
      · rw [x01, x02] at ho; exact absurd ho (ob_n0 rfl (Or.inr (ga hB (by omega) (by omega))))
      have x11 : i + 1 + eaD 1 = i + 1 := by show i + 1 + 0 = i + 1; omega
      have x12 : j + noD 1 = j + 1 := by show j + 1 = j + 1; omega
      refine fo_s (e := 1) (v0 := -1) (pi := i + 1) (pj := j) (ce := 25 * (i) + (j + 1)) Q H hl C (by omega) (by omega) (by omega) (by omega) (by omega) (fun ho hv => ?_) (fun hm => ?_)
      · rw [x11, x12] at ho; exact absurd ho (ob_n1 rfl (Or.inr (ga hA (by omega) (by omega))))
      have x21 : i + 1 + eaD 2 = i := by show i + 1 + -1 = i; omega
      have x22 : j + noD 2 = j := by show j + 0 = j; omega
      refine fo_s (e := 2) (v0 := -1) (pi := i + 1) (pj := j) (ce := 25 * (i) + (j + 1)) Q H hl C (by omega) (by omega) (by omega) (by omega) (by omega) (fun ho hv => ?_) (fun hm => ?_)
      · rw [x21, x22] at ho; exact absurd ho (ob_n2 (ga c2 (by omega) (by omega)) (Or.inl rfl))
      have x31 : i + 1 + eaD 3 = i + 1 := by show i + 1 + 0 = i + 1; omega
      have x32 : j + noD 3 = j - 1 := by show j + -1 = j - 1; omega
      refine fo_s (e := 3) (v0 := -1) (pi := i + 1) (pj := j) (ce := 25 * (i) + (j + 1)) Q H hl C (by omega) (by omega) (by omega) (by omega) (by omega) (fun ho hv => ?_) (fun hm => ?_)
      rotate_left
      · exact absurd ⟨by rw [x31, x32]; exact (Or.inr (Or.inr (Or.inr ⟨rfl, ⟨by omega, by omega⟩, ga hB (by omega) (by omega), ga c2 (by omega) (by omega)⟩))), Or.inl (by omega)⟩ hm
      rw [x31, x32]
      exact zb_le 5 (3 + 1 + 1) (fun _ => f) (fun z => absurd z (by omega))
theorem fo_1 {post : Int32 → Prop} (Q : YP ly S) (H : HS S) {lv : Int} (hl : 0 ≤ lv ∧ lv ≤ 5) (C : clo (S lv)) {i j : Int} (o : i % 2 = 0 ∧ j % 2 = 1) (c1 : S lv (i - 1) (j) = true) (c2 : S lv (i + 1) (j) = false)
    (f : post (zI (25 * nxI (S lv) i j 1 + nxJ (S lv) i j 1))) : ∃ N, wY_following_95 post (zI lv) (zI (cL i j 1)) (zI (i + eaD 1)) (zI (j + noD 1)) c ly fi ma se px py la N (-1) 1 := by
  have Hl : Sup (S lv) := fun i j => H lv i j
  have gd := Hl _ _ c1
  have p1 : i + eaD 1 = i := by show i + 0 = i; omega
  have p2 : j + noD 1 = j + 1 := by show j + 1 = j + 1; omega
  have pc : cL i j 1 = 25 * (i - 1) + (j) := by show 25 * (i + -1) + (j + 0) = 25 * (i - 1) + (j); omega
  unfold nxI nxJ at f
  rw [p1, p2, pc]
  refine ⟨5, ?_⟩
  cases hA : S lv (i - 1) (j + 2)
  · cases hB : S lv (i + 1) (j + 2)
    · have e : nD (S lv) i j 1 = 2 := by unfold nD; rw [if_pos (ga hA (by show i + 2 * 0 + -1 = i - 1; omega) (by show j + 2 * 1 + 0 = j + 2; omega))]; rfl
      have z1 : i + (eaD 1 + eaD 2) = i - 1 := by show i + (0 + -1) = i - 1; omega
      have z2 : j + (noD 1 + noD 2) = j + 1 := by show j + (1 + 0) = j + 1; omega
      rw [e, z1, z2] at f
      have x01 : i + eaD 0 = i + 1 := by show i + 1 = i + 1; omega
      have x02 : j + 1 + noD 0 = j + 1 := by show j + 1 + 0 = j + 1; omega
      refine fo_s (e := 0) (v0 := -1) (pi := i) (pj := j + 1) (ce := 25 * (i - 1) + (j)) Q H hl C (by omega) (by omega) (by omega) (by omega) (by omega) (fun ho hv => ?_) (fun hm => ?_)
      · rw [x01, x02] at ho; exact absurd ho (ob_n0 (ga hB (by omega) (by omega)) (Or.inl rfl))
      have x11 : i + eaD 1 = i := by show i + 0 = i; omega
      have x12 : j + 1 + noD 1 = j + 2 := by show j + 1 + 1 = j + 2; omega
      refine fo_s (e := 1) (v0 := -1) (pi := i) (pj := j + 1) (ce := 25 * (i - 1) + (j)) Q H hl C (by omega) (by omega) (by omega) (by omega) (by omega) (fun ho hv => ?_) (fun hm => ?_)
      · rw [x11, x12] at ho; exact absurd ho (ob_n1 (ga hA (by omega) (by omega)) (Or.inl rfl))
      have x21 : i + eaD 2 = i - 1 := by show i + -1 = i - 1; omega
      have x22 : j + 1 + noD 2 = j + 1 := by show j + 1 + 0 = j + 1; omega
      refine fo_s (e := 2) (v0 := -1) (pi := i) (pj := j + 1) (ce := 25 * (i - 1) + (j)) Q H hl C (by omega) (by omega) (by omega) (by omega) (by omega) (fun ho hv => ?_) (fun hm => ?_)
      rotate_left
      · exact absurd ⟨by rw [x21, x22]; exact (Or.inr (Or.inr (Or.inl ⟨rfl, ⟨by omega, by omega⟩, ga c1 (by omega) (by omega), ga hA (by omega) (by omega)⟩))), Or.inl (by omega)⟩ hm
      rw [x21, x22]
      have x31 : i + eaD 3 = i := by show i + 0 = i; omega
      have x32 : j + 1 + noD 3 = j := by show j + 1 + -1 = j; omega
      refine fo_s (e := 3) (v0 := 25 * (i - 1) + (j + 1)) (pi := i) (pj := j + 1) (ce := 25 * (i - 1) + (j)) Q H hl C (by omega) (by omega) (by omega) (by omega) (by omega) (fun ho hv => ?_) (fun hm => ?_)
      · rw [x31, x32] at ho; exact absurd ho (ob_n3 (ga c2 (by omega) (by omega)) (Or.inl rfl))
      exact zb_le 5 (3 + 1 + 1) (fun _ => f) (fun z => absurd z (by omega))
    · have e : nD (S lv) i j 1 = 2 := by unfold nD; rw [if_pos (ga hA (by show i + 2 * 0 + -1 = i - 1; omega) (by show j + 2 * 1 + 0 = j + 2; omega))]; rfl
      have z1 : i + (eaD 1 + eaD 2) = i - 1 := by show i + (0 + -1) = i - 1; omega
      have z2 : j + (noD 1 + noD 2) = j + 1 := by show j + (1 + 0) = j + 1; omega
      rw [e, z1, z2] at f
      have gB := Hl _ _ hB
      have x01 : i + eaD 0 = i + 1 := by show i + 1 = i + 1; omega
      have x02 : j + 1 + noD 0 = j + 1 := by show j + 1 + 0 = j + 1; omega
      refine fo_s (e := 0) (v0 := -1) (pi := i) (pj := j + 1) (ce := 25 * (i - 1) + (j)) Q H hl C (by omega) (by omega) (by omega) (by omega) (by omega) (fun ho hv => ?_) (fun hm => ?_)
      rotate_left
      · exact absurd ⟨by rw [x01, x02]; exact (Or.inl ⟨rfl, ⟨by omega, by omega⟩, ga hB (by omega) (by omega), ga c2 (by omega) (by omega)⟩), Or.inl (by omega)⟩ hm
      rw [x01, x02]
      have x11 : i + eaD 1 = i := by show i + 0 = i; omega
      have x12 : j + 1 + noD 1 = j + 2 := by show j + 1 + 1 = j + 2; omega
      refine fo_s (e := 1) (v0 := 25 * (i + 1) + (j + 1)) (pi := i) (pj := j + 1) (ce := 25 * (i - 1) + (j)) Q H hl C (by omega) (by omega) (by omega) (by omega) (by omega) (fun ho hv => ?_) (fun hm => ?_)
      · rw [x11, x12] at ho; exact absurd ho (ob_n1 (ga hA (by omega) (by omega)) (Or.inl rfl))
      have x21 : i + eaD 2 = i - 1 := by show i + -1 = i - 1; omega
      have x22 : j + 1 + noD 2 = j + 1 := by show j + 1 + 0 = j + 1; omega
      refine fo_s (e := 2) (v0 := 25 * (i + 1) + (j + 1)) (pi := i) (pj := j + 1) (ce := 25 * (i - 1) + (j)) Q H hl C (by omega) (by omega) (by omega) (by omega) (by omega) (fun ho hv => ?_) (fun hm => ?_)
      rotate_left
      · exact absurd ⟨by rw [x21, x22]; exact (Or.inr (Or.inr (Or.inl ⟨rfl, ⟨by omega, by omega⟩, ga c1 (by omega) (by omega), ga hA (by omega) (by omega)⟩))), Or.inr (by rw [x21, x22]; show 25 * (i - 1 + 0) + (j + 1 + -1) = _; omega)⟩ hm
      rw [x21, x22]
      have x31 : i + eaD 3 = i := by show i + 0 = i; omega
      have x32 : j + 1 + noD 3 = j := by show j + 1 + -1 = j; omega
      refine fo_s (e := 3) (v0 := 25 * (i - 1) + (j + 1)) (pi := i) (pj := j + 1) (ce := 25 * (i - 1) + (j)) Q H hl C (by omega) (by omega) (by omega) (by omega) (by omega) (fun ho hv => ?_) (fun hm => ?_)
      · rw [x31, x32] at ho; exact absurd ho (ob_n3 (ga c2 (by omega) (by omega)) (Or.inl rfl))
      exact zb_le 5 (3 + 1 + 1) (fun _ => f) (fun z => absurd z (by omega))
  · cases hB : S lv (i + 1) (j + 2)
    · have e : nD (S lv) i j 1 = 1 := by unfold nD; rw [if_neg (fun z => absurd ((ga hA (by show i + 2 * 0 + -1 = i - 1; omega) (by show j + 2 * 1 + 0 = j + 2; omega)).symm.trans z) (by decide)), if_neg (fun z => absurd ((ga hB (by show i + 2 * 0 + 1 = i + 1; omega) (by show j + 2 * 1 + 0 = j + 2; omega)).symm.trans z) (by decide))]
      have z1 : i + (eaD 1 + eaD 1) = i := by show i + (0 + 0) = i; omega
      have z2 : j + (noD 1 + noD 1) = j + 2 := by show j + (1 + 1) = j + 2; omega
      rw [e, z1, z2] at f
      have gA := Hl _ _ hA
      have x01 : i + eaD 0 = i + 1 := by show i + 1 = i + 1; omega
      have x02 : j + 1 + noD 0 = j + 1 := by show j + 1 + 0 = j + 1; omega
      refine fo_s (e := 0) (v0 := -1) (pi := i) (pj := j + 1) (ce := 25 * (i - 1) + (j)) Q H hl C (by omega) (by omega) (by omega) (by omega) (by omega) (fun ho hv => ?_) (fun hm => ?_)
      · rw [x01, x02] at ho; exact absurd ho (ob_n0 (ga hB (by omega) (by omega)) (Or.inl rfl))
      have x11 : i + eaD 1 = i := by show i + 0 = i; omega
      have x12 : j + 1 + noD 1 = j + 2 := by show j + 1 + 1 = j + 2; omega
      refine fo_s (e := 1) (v0 := -1) (pi := i) (pj := j + 1) (ce := 25 * (i - 1) + (j)) Q H hl C (by omega) (by omega) (by omega) (by omega) (by omega) (fun ho hv => ?_) (fun hm => ?_)
      rotate_left
      · exact absurd ⟨by rw [x11, x12]; exact (Or.inr (Or.inl ⟨rfl, ⟨by omega, by omega⟩, ga hA (by omega) (by omega), ga hB (by omega) (by omega)⟩)), Or.inl (by omega)⟩ hm
      rw [x11, x12]
      have x21 : i + eaD 2 = i - 1 := by show i + -1 = i - 1; omega
      have x22 : j + 1 + noD 2 = j + 1 := by show j + 1 + 0 = j + 1; omega
      refine fo_s (e := 2) (v0 := 25 * (i) + (j + 2)) (pi := i) (pj := j + 1) (ce := 25 * (i - 1) + (j)) Q H hl C (by omega) (by omega) (by omega) (by omega) (by omega) (fun ho hv => ?_) (fun hm => ?_)
      · rw [x21, x22] at ho; exact absurd ho (ob_n2 rfl (Or.inr (ga hA (by omega) (by omega))))
      have x31 : i + eaD 3 = i := by show i + 0 = i; omega
      have x32 : j + 1 + noD 3 = j := by show j + 1 + -1 = j; omega
      refine fo_s (e := 3) (v0 := 25 * (i) + (j + 2)) (pi := i) (pj := j + 1) (ce := 25 * (i - 1) + (j)) Q H hl C (by omega) (by omega) (by omega) (by omega) (by omega) (fun ho hv => ?_) (fun hm => ?_)
      · rw [x31, x32] at ho; exact absurd ho (ob_n3 (ga c2 (by omega) (by omega)) (Or.inl rfl))
      exact zb_le 5 (3 + 1 + 1) (fun _ => f) (fun z => absurd z (by omega))
    · have e : nD (S lv) i j 1 = 0 := by unfold nD; rw [if_neg (fun z => absurd ((ga hA (by show i + 2 * 0 + -1 = i - 1; omega) (by show j + 2 * 1 + 0 = j + 2; omega)).symm.trans z) (by decide)), if_pos (ga hB (by show i + 2 * 0 + 1 = i + 1; omega) (by show j + 2 * 1 + 0 = j + 2; omega))]; rfl
      have z1 : i + (eaD 1 + eaD 0) = i + 1 := by show i + (0 + 1) = i + 1; omega
      have z2 : j + (noD 1 + noD 0) = j + 1 := by show j + (1 + 0) = j + 1; omega
      rw [e, z1, z2] at f
      have gA := Hl _ _ hA
      have gB := Hl _ _ hB
      have x01 : i + eaD 0 = i + 1 := by show i + 1 = i + 1; omega
      have x02 : j + 1 + noD 0 = j + 1 := by show j + 1 + 0 = j + 1; omega
      refine fo_s (e := 0) (v0 := -1) (pi := i) (pj := j + 1) (ce := 25 * (i - 1) + (j)) Q H hl C (by omega) (by omega) (by omega) (by omega) (by omega) (fun ho hv => ?_) (fun hm => ?_)
      rotate_left
      · exact absurd ⟨by rw [x01, x02]; exact (Or.inl ⟨rfl, ⟨by omega, by omega⟩, ga hB (by omega) (by omega), ga c2 (by omega) (by omega)⟩), Or.inl (by omega)⟩ hm
      rw [x01, x02]
      have x11 : i + eaD 1 = i := by show i + 0 = i; omega
      have x12 : j + 1 + noD 1 = j + 2 := by show j + 1 + 1 = j + 2; omega
      refine fo_s (e := 1) (v0 := 25 * (i + 1) + (j + 1)) (pi := i) (pj := j + 1) (ce := 25 * (i - 1) + (j)) Q H hl C (by omega) (by omega) (by omega) (by omega) (by omega) (fun ho hv => ?_) (fun hm => ?_)
      · rw [x11, x12] at ho; exact absurd ho (ob_n1 rfl (Or.inr (ga hB (by omega) (by omega))))
      have x21 : i + eaD 2 = i - 1 := by show i + -1 = i - 1; omega
      have x22 : j + 1 + noD 2 = j + 1 := by show j + 1 + 0 = j + 1; omega
      refine fo_s (e := 2) (v0 := 25 * (i + 1) + (j + 1)) (pi := i) (pj := j + 1) (ce := 25 * (i - 1) + (j)) Q H hl C (by omega) (by omega) (by omega) (by omega) (by omega) (fun ho hv => ?_) (fun hm => ?_)
      · rw [x21, x22] at ho; exact absurd ho (ob_n2 rfl (Or.inr (ga hA (by omega) (by omega))))
      have x31 : i + eaD 3 = i := by show i + 0 = i; omega
      have x32 : j + 1 + noD 3 = j := by show j + 1 + -1 = j; omega
      refine fo_s (e := 3) (v0 := 25 * (i + 1) + (j + 1)) (pi := i) (pj := j + 1) (ce := 25 * (i - 1) + (j)) Q H hl C (by omega) (by omega) (by omega) (by omega) (by omega) (fun ho hv => ?_) (fun hm => ?_)
      · rw [x31, x32] at ho; exact absurd ho (ob_n3 (ga c2 (by omega) (by omega)) (Or.inl rfl))
      exact zb_le 5 (3 + 1 + 1) (fun _ => f) (fun z => absurd z (by omega))
theorem fo_2 {post : Int32 → Prop} (Q : YP ly S) (H : HS S) {lv : Int} (hl : 0 ≤ lv ∧ lv ≤ 5) (C : clo (S lv)) {i j : Int} (o : i % 2 = 1 ∧ j % 2 = 0) (c1 : S lv (i) (j - 1) = true) (c2 : S lv (i) (j + 1) = false)
    (f : post (zI (25 * nxI (S lv) i j 2 + nxJ (S lv) i j 2))) : ∃ N, wY_following_95 post (zI lv) (zI (cL i j 2)) (zI (i + eaD 2)) (zI (j + noD 2)) c ly fi ma se px py la N (-1) 1 := by
  have Hl : Sup (S lv) := fun i j => H lv i j
  have gd := Hl _ _ c1
  have p1 : i + eaD 2 = i - 1 := by show i + -1 = i - 1; omega
  have p2 : j + noD 2 = j := by show j + 0 = j; omega
  have pc : cL i j 2 = 25 * (i) + (j - 1) := by show 25 * (i + 0) + (j + -1) = 25 * (i) + (j - 1); omega
  unfold nxI nxJ at f
  rw [p1, p2, pc]
  refine ⟨5, ?_⟩
  cases hA : S lv (i - 2) (j - 1)
  · cases hB : S lv (i - 2) (j + 1)
    · have e : nD (S lv) i j 2 = 3 := by unfold nD; rw [if_pos (ga hA (by show i + 2 * -1 + 0 = i - 2; omega) (by show j + 2 * 0 + -1 = j - 1; omega))]; rfl
      have z1 : i + (eaD 2 + eaD 3) = i - 1 := by show i + (-1 + 0) = i - 1; omega
      have z2 : j + (noD 2 + noD 3) = j - 1 := by show j + (0 + -1) = j - 1; omega
      rw [e, z1, z2] at f
      have x01 : i - 1 + eaD 0 = i := by show i - 1 + 1 = i; omega
      have x02 : j + noD 0 = j := by show j + 0 = j; omega
      refine fo_s (e := 0) (v0 := -1) (pi := i - 1) (pj := j) (ce := 25 * (i) + (j - 1)) Q H hl C (by omega) (by omega) (by omega) (by omega) (by omega) (fun ho hv => ?_) (fun hm => ?_)
      · rw [x01, x02] at ho; exact absurd ho (ob_n0 (ga c2 (by omega) (by omega)) (Or.inl rfl))
      have x11 : i - 1 + eaD 1 = i - 1 := by show i - 1 + 0 = i - 1; omega
      have x12 : j + noD 1 = j + 1 := by show j + 1 = j + 1; omega
      refine fo_s (e := 1) (v0 := -1) (pi := i - 1) (pj := j) (ce := 25 * (i) + (j - 1)) Q H hl C (by omega) (by omega) (by omega) (by omega) (by omega) (fun ho hv => ?_) (fun hm => ?_)
      · rw [x11, x12] at ho; exact absurd ho (ob_n1 (ga hB (by omega) (by omega)) (Or.inl rfl))
      have x21 : i - 1 + eaD 2 = i - 2 := by show i - 1 + -1 = i - 2; omega
      have x22 : j + noD 2 = j := by show j + 0 = j; omega
      refine fo_s (e := 2) (v0 := -1) (pi := i - 1) (pj := j) (ce := 25 * (i) + (j - 1)) Q H hl C (by omega) (by omega) (by omega) (by omega) (by omega) (fun ho hv => ?_) (fun hm => ?_)
      · rw [x21, x22] at ho; exact absurd ho (ob_n2 (ga hA (by omega) (by omega)) (Or.inl rfl))
      have x31 : i - 1 + eaD 3 = i - 1 := by show i - 1 + 0 = i - 1; omega
      have x32 : j + noD 3 = j - 1 := by show j + -1 = j - 1; omega
      refine fo_s (e := 3) (v0 := -1) (pi := i - 1) (pj := j) (ce := 25 * (i) + (j - 1)) Q H hl C (by omega) (by omega) (by omega) (by omega) (by omega) (fun ho hv => ?_) (fun hm => ?_)
      rotate_left
      · exact absurd ⟨by rw [x31, x32]; exact (Or.inr (Or.inr (Or.inr ⟨rfl, ⟨by omega, by omega⟩, ga c1 (by omega) (by omega), ga hA (by omega) (by omega)⟩))), Or.inl (by omega)⟩ hm
      rw [x31, x32]
      exact zb_le 5 (3 + 1 + 1) (fun _ => f) (fun z => absurd z (by omega))
    · have e : nD (S lv) i j 2 = 3 := by unfold nD; rw [if_pos (ga hA (by show i + 2 * -1 + 0 = i - 2; omega) (by show j + 2 * 0 + -1 = j - 1; omega))]; rfl
      have z1 : i + (eaD 2 + eaD 3) = i - 1 := by show i + (-1 + 0) = i - 1; omega
      have z2 : j + (noD 2 + noD 3) = j - 1 := by show j + (0 + -1) = j - 1; omega
      rw [e, z1, z2] at f
      have gB := Hl _ _ hB
      have x01 : i - 1 + eaD 0 = i := by show i - 1 + 1 = i; omega
      have x02 : j + noD 0 = j := by show j + 0 = j; omega
      refine fo_s (e := 0) (v0 := -1) (pi := i - 1) (pj := j) (ce := 25 * (i) + (j - 1)) Q H hl C (by omega) (by omega) (by omega) (by omega) (by omega) (fun ho hv => ?_) (fun hm => ?_)
      · rw [x01, x02] at ho; exact absurd ho (ob_n0 (ga c2 (by omega) (by omega)) (Or.inl rfl))
      have x11 : i - 1 + eaD 1 = i - 1 := by show i - 1 + 0 = i - 1; omega
      have x12 : j + noD 1 = j + 1 := by show j + 1 = j + 1; omega
      refine fo_s (e := 1) (v0 := -1) (pi := i - 1) (pj := j) (ce := 25 * (i) + (j - 1)) Q H hl C (by omega) (by omega) (by omega) (by omega) (by omega) (fun ho hv => ?_) (fun hm => ?_)
      rotate_left
      · exact absurd ⟨by rw [x11, x12]; exact (Or.inr (Or.inl ⟨rfl, ⟨by omega, by omega⟩, ga hB (by omega) (by omega), ga c2 (by omega) (by omega)⟩)), Or.inl (by omega)⟩ hm
      rw [x11, x12]
      have x21 : i - 1 + eaD 2 = i - 2 := by show i - 1 + -1 = i - 2; omega
      have x22 : j + noD 2 = j := by show j + 0 = j; omega
      refine fo_s (e := 2) (v0 := 25 * (i - 1) + (j + 1)) (pi := i - 1) (pj := j) (ce := 25 * (i) + (j - 1)) Q H hl C (by omega) (by omega) (by omega) (by omega) (by omega) (fun ho hv => ?_) (fun hm => ?_)
      · rw [x21, x22] at ho; exact absurd ho (ob_n2 (ga hA (by omega) (by omega)) (Or.inl rfl))
      have x31 : i - 1 + eaD 3 = i - 1 := by show i - 1 + 0 = i - 1; omega
      have x32 : j + noD 3 = j - 1 := by show j + -1 = j - 1; omega
      refine fo_s (e := 3) (v0 := 25 * (i - 1) + (j + 1)) (pi := i - 1) (pj := j) (ce := 25 * (i) + (j - 1)) Q H hl C (by omega) (by omega) (by omega) (by omega) (by omega) (fun ho hv => ?_) (fun hm => ?_)
      rotate_left
      · exact absurd ⟨by rw [x31, x32]; exact (Or.inr (Or.inr (Or.inr ⟨rfl, ⟨by omega, by omega⟩, ga c1 (by omega) (by omega), ga hA (by omega) (by omega)⟩))), Or.inr (by rw [x31, x32]; show 25 * (i - 1 + 1) + (j - 1 + 0) = _; omega)⟩ hm
      rw [x31, x32]
      exact zb_le 5 (3 + 1 + 1) (fun _ => f) (fun z => absurd z (by omega))
  · cases hB : S lv (i - 2) (j + 1)
    · have e : nD (S lv) i j 2 = 2 := by unfold nD; rw [if_neg (fun z => absurd ((ga hA (by show i + 2 * -1 + 0 = i - 2; omega) (by show j + 2 * 0 + -1 = j - 1; omega)).symm.trans z) (by decide)), if_neg (fun z => absurd ((ga hB (by show i + 2 * -1 + 0 = i - 2; omega) (by show j + 2 * 0 + 1 = j + 1; omega)).symm.trans z) (by decide))]
      have z1 : i + (eaD 2 + eaD 2) = i - 2 := by show i + (-1 + -1) = i - 2; omega
      have z2 : j + (noD 2 + noD 2) = j := by show j + (0 + 0) = j; omega
      rw [e, z1, z2] at f
      have gA := Hl _ _ hA
      have x01 : i - 1 + eaD 0 = i := by show i - 1 + 1 = i; omega
      have x02 : j + noD 0 = j := by show j + 0 = j; omega
      refine fo_s (e := 0) (v0 := -1) (pi := i - 1) (pj := j) (ce := 25 * (i) + (j - 1)) Q H hl C (by omega) (by omega) (by omega) (by omega) (by omega) (fun ho hv => ?_) (fun hm => ?_)
      · rw [x01, x02] at ho; exact absurd ho (ob_n0 (ga c2 (by omega) (by omega)) (Or.inl rfl))
      have x11 : i - 1 + eaD 1 = i - 1 := by show i - 1 + 0 = i - 1; omega
      have x12 : j + noD 1 = j + 1 := by show j + 1 = j + 1; omega
      refine fo_s (e := 1) (v0 := -1) (pi := i - 1) (pj := j) (ce := 25 * (i) + (j - 1)) Q H hl C (by omega) (by omega) (by omega) (by omega) (by omega) (fun ho hv => ?_) (fun hm => ?_)
      · rw [x11, x12] at ho; exact absurd ho (ob_n1 (ga hB (by omega) (by omega)) (Or.inl rfl))
      have x21 : i - 1 + eaD 2 = i - 2 := by show i - 1 + -1 = i - 2; omega
      have x22 : j + noD 2 = j := by show j + 0 = j; omega
      refine fo_s (e := 2) (v0 := -1) (pi := i - 1) (pj := j) (ce := 25 * (i) + (j - 1)) Q H hl C (by omega) (by omega) (by omega) (by omega) (by omega) (fun ho hv => ?_) (fun hm => ?_)
      rotate_left
      · exact absurd ⟨by rw [x21, x22]; exact (Or.inr (Or.inr (Or.inl ⟨rfl, ⟨by omega, by omega⟩, ga hA (by omega) (by omega), ga hB (by omega) (by omega)⟩))), Or.inl (by omega)⟩ hm
      rw [x21, x22]
      have x31 : i - 1 + eaD 3 = i - 1 := by show i - 1 + 0 = i - 1; omega
      have x32 : j + noD 3 = j - 1 := by show j + -1 = j - 1; omega
      refine fo_s (e := 3) (v0 := 25 * (i - 2) + (j)) (pi := i - 1) (pj := j) (ce := 25 * (i) + (j - 1)) Q H hl C (by omega) (by omega) (by omega) (by omega) (by omega) (fun ho hv => ?_) (fun hm => ?_)
      · rw [x31, x32] at ho; exact absurd ho (ob_n3 rfl (Or.inr (ga hA (by omega) (by omega))))
      exact zb_le 5 (3 + 1 + 1) (fun _ => f) (fun z => absurd z (by omega))
    · have e : nD (S lv) i j 2 = 1 := by unfold nD; rw [if_neg (fun z => absurd ((ga hA (by show i + 2 * -1 + 0 = i - 2; omega) (by show j + 2 * 0 + -1 = j - 1; omega)).symm.trans z) (by decide)), if_pos (ga hB (by show i + 2 * -1 + 0 = i - 2; omega) (by show j + 2 * 0 + 1 = j + 1; omega))]; rfl
      have z1 : i + (eaD 2 + eaD 1) = i - 1 := by show i + (-1 + 0) = i - 1; omega
      have z2 : j + (noD 2 + noD 1) = j + 1 := by show j + (0 + 1) = j + 1; omega
      rw [e, z1, z2] at f
      have gA := Hl _ _ hA
      have gB := Hl _ _ hB
      have x01 : i - 1 + eaD 0 = i := by show i - 1 + 1 = i; omega
      have x02 : j + noD 0 = j := by show j + 0 = j; omega
      refine fo_s (e := 0) (v0 := -1) (pi := i - 1) (pj := j) (ce := 25 * (i) + (j - 1)) Q H hl C (by omega) (by omega) (by omega) (by omega) (by omega) (fun ho hv => ?_) (fun hm => ?_)
      · rw [x01, x02] at ho; exact absurd ho (ob_n0 (ga c2 (by omega) (by omega)) (Or.inl rfl))
      have x11 : i - 1 + eaD 1 = i - 1 := by show i - 1 + 0 = i - 1; omega
      have x12 : j + noD 1 = j + 1 := by show j + 1 = j + 1; omega
      refine fo_s (e := 1) (v0 := -1) (pi := i - 1) (pj := j) (ce := 25 * (i) + (j - 1)) Q H hl C (by omega) (by omega) (by omega) (by omega) (by omega) (fun ho hv => ?_) (fun hm => ?_)
      rotate_left
      · exact absurd ⟨by rw [x11, x12]; exact (Or.inr (Or.inl ⟨rfl, ⟨by omega, by omega⟩, ga hB (by omega) (by omega), ga c2 (by omega) (by omega)⟩)), Or.inl (by omega)⟩ hm
      rw [x11, x12]
      have x21 : i - 1 + eaD 2 = i - 2 := by show i - 1 + -1 = i - 2; omega
      have x22 : j + noD 2 = j := by show j + 0 = j; omega
      refine fo_s (e := 2) (v0 := 25 * (i - 1) + (j + 1)) (pi := i - 1) (pj := j) (ce := 25 * (i) + (j - 1)) Q H hl C (by omega) (by omega) (by omega) (by omega) (by omega) (fun ho hv => ?_) (fun hm => ?_)
      · rw [x21, x22] at ho; exact absurd ho (ob_n2 rfl (Or.inr (ga hB (by omega) (by omega))))
      have x31 : i - 1 + eaD 3 = i - 1 := by show i - 1 + 0 = i - 1; omega
      have x32 : j + noD 3 = j - 1 := by show j + -1 = j - 1; omega
      refine fo_s (e := 3) (v0 := 25 * (i - 1) + (j + 1)) (pi := i - 1) (pj := j) (ce := 25 * (i) + (j - 1)) Q H hl C (by omega) (by omega) (by omega) (by omega) (by omega) (fun ho hv => ?_) (fun hm => ?_)
      · rw [x31, x32] at ho; exact absurd ho (ob_n3 rfl (Or.inr (ga hA (by omega) (by omega))))
      exact zb_le 5 (3 + 1 + 1) (fun _ => f) (fun z => absurd z (by omega))
theorem fo_3 {post : Int32 → Prop} (Q : YP ly S) (H : HS S) {lv : Int} (hl : 0 ≤ lv ∧ lv ≤ 5) (C : clo (S lv)) {i j : Int} (o : i % 2 = 0 ∧ j % 2 = 1) (c1 : S lv (i + 1) (j) = true) (c2 : S lv (i - 1) (j) = false)
    (f : post (zI (25 * nxI (S lv) i j 3 + nxJ (S lv) i j 3))) : ∃ N, wY_following_95 post (zI lv) (zI (cL i j 3)) (zI (i + eaD 3)) (zI (j + noD 3)) c ly fi ma se px py la N (-1) 1 := by
  have Hl : Sup (S lv) := fun i j => H lv i j
  have gd := Hl _ _ c1
  have p1 : i + eaD 3 = i := by show i + 0 = i; omega
  have p2 : j + noD 3 = j - 1 := by show j + -1 = j - 1; omega
  have pc : cL i j 3 = 25 * (i + 1) + (j) := by show 25 * (i + 1) + (j + 0) = 25 * (i + 1) + (j); omega
  unfold nxI nxJ at f
  rw [p1, p2, pc]
  refine ⟨5, ?_⟩
  cases hA : S lv (i + 1) (j - 2)
  · cases hB : S lv (i - 1) (j - 2)
    · have e : nD (S lv) i j 3 = 0 := by unfold nD; rw [if_pos (ga hA (by show i + 2 * 0 + 1 = i + 1; omega) (by show j + 2 * -1 + 0 = j - 2; omega))]; rfl
      have z1 : i + (eaD 3 + eaD 0) = i + 1 := by show i + (0 + 1) = i + 1; omega
      have z2 : j + (noD 3 + noD 0) = j - 1 := by show j + (-1 + 0) = j - 1; omega
      rw [e, z1, z2] at f
      have x01 : i + eaD 0 = i + 1 := by show i + 1 = i + 1; omega
      have x02 : j - 1 + noD 0 = j - 1 := by show j - 1 + 0 = j - 1; omega
      refine fo_s (e := 0) (v0 := -1) (pi := i) (pj := j - 1) (ce := 25 * (i + 1) + (j)) Q H hl C (by omega) (by omega) (by omega) (by omega) (by omega) (fun ho hv => ?_) (fun hm => ?_)
      rotate_left
      · exact absurd ⟨by rw [x01, x02]; exact (Or.inl ⟨rfl, ⟨by omega, by omega⟩, ga c1 (by omega) (by omega), ga hA (by omega) (by omega)⟩), Or.inl (by omega)⟩ hm
      rw [x01, x02]
      have x11 : i + eaD 1 = i := by show i + 0 = i; omega
      have x12 : j - 1 + noD 1 = j := by show j - 1 + 1 = j; omega
      refine fo_s (e := 1) (v0 := 25 * (i + 1) + (j - 1)) (pi := i) (pj := j - 1) (ce := 25 * (i + 1) + (j)) Q H hl C (by omega) (by omega) (by omega) (by omega) (by omega) (fun ho hv => ?_) (fun hm => ?_)
      · rw [x11, x12] at ho; exact absurd ho (ob_n1 (ga c2 (by omega) (by omega)) (Or.inl rfl))
      have x21 : i + eaD 2 = i - 1 := by show i + -1 = i - 1; omega
      have x22 : j - 1 + noD 2 = j - 1 := by show j - 1 + 0 = j - 1; omega
      refine fo_s (e := 2) (v0 := 25 * (i + 1) + (j - 1)) (pi := i) (pj := j - 1) (ce := 25 * (i + 1) + (j)) Q H hl C (by omega) (by omega) (by omega) (by omega) (by omega) (fun ho hv => ?_) (fun hm => ?_)
      · rw [x21, x22] at ho; exact absurd ho (ob_n2 (ga hB (by omega) (by omega)) (Or.inl rfl))
      have x31 : i + eaD 3 = i := by show i + 0 = i; omega
      have x32 : j - 1 + noD 3 = j - 2 := by show j - 1 + -1 = j - 2; omega
      refine fo_s (e := 3) (v0 := 25 * (i + 1) + (j - 1)) (pi := i) (pj := j - 1) (ce := 25 * (i + 1) + (j)) Q H hl C (by omega) (by omega) (by omega) (by omega) (by omega) (fun ho hv => ?_) (fun hm => ?_)
      · rw [x31, x32] at ho; exact absurd ho (ob_n3 (ga hA (by omega) (by omega)) (Or.inl rfl))
      exact zb_le 5 (3 + 1 + 1) (fun _ => f) (fun z => absurd z (by omega))
    · have e : nD (S lv) i j 3 = 0 := by unfold nD; rw [if_pos (ga hA (by show i + 2 * 0 + 1 = i + 1; omega) (by show j + 2 * -1 + 0 = j - 2; omega))]; rfl
      have z1 : i + (eaD 3 + eaD 0) = i + 1 := by show i + (0 + 1) = i + 1; omega
      have z2 : j + (noD 3 + noD 0) = j - 1 := by show j + (-1 + 0) = j - 1; omega
      rw [e, z1, z2] at f
      have gB := Hl _ _ hB
      have x01 : i + eaD 0 = i + 1 := by show i + 1 = i + 1; omega
      have x02 : j - 1 + noD 0 = j - 1 := by show j - 1 + 0 = j - 1; omega
      refine fo_s (e := 0) (v0 := -1) (pi := i) (pj := j - 1) (ce := 25 * (i + 1) + (j)) Q H hl C (by omega) (by omega) (by omega) (by omega) (by omega) (fun ho hv => ?_) (fun hm => ?_)
      rotate_left
      · exact absurd ⟨by rw [x01, x02]; exact (Or.inl ⟨rfl, ⟨by omega, by omega⟩, ga c1 (by omega) (by omega), ga hA (by omega) (by omega)⟩), Or.inl (by omega)⟩ hm
      rw [x01, x02]
      have x11 : i + eaD 1 = i := by show i + 0 = i; omega
      have x12 : j - 1 + noD 1 = j := by show j - 1 + 1 = j; omega
      refine fo_s (e := 1) (v0 := 25 * (i + 1) + (j - 1)) (pi := i) (pj := j - 1) (ce := 25 * (i + 1) + (j)) Q H hl C (by omega) (by omega) (by omega) (by omega) (by omega) (fun ho hv => ?_) (fun hm => ?_)
      · rw [x11, x12] at ho; exact absurd ho (ob_n1 (ga c2 (by omega) (by omega)) (Or.inl rfl))
      have x21 : i + eaD 2 = i - 1 := by show i + -1 = i - 1; omega
      have x22 : j - 1 + noD 2 = j - 1 := by show j - 1 + 0 = j - 1; omega
      refine fo_s (e := 2) (v0 := 25 * (i + 1) + (j - 1)) (pi := i) (pj := j - 1) (ce := 25 * (i + 1) + (j)) Q H hl C (by omega) (by omega) (by omega) (by omega) (by omega) (fun ho hv => ?_) (fun hm => ?_)
      · rw [x21, x22] at hv
        exact hv.elim (fun w => absurd w (by omega)) (fun w => absurd (show 25 * (i - 1 + 0) + (j - 1 + -1) = 25 * (i + 1) + (j) from w) (by omega))
      have x31 : i + eaD 3 = i := by show i + 0 = i; omega
      have x32 : j - 1 + noD 3 = j - 2 := by show j - 1 + -1 = j - 2; omega
      refine fo_s (e := 3) (v0 := 25 * (i + 1) + (j - 1)) (pi := i) (pj := j - 1) (ce := 25 * (i + 1) + (j)) Q H hl C (by omega) (by omega) (by omega) (by omega) (by omega) (fun ho hv => ?_) (fun hm => ?_)
      · rw [x31, x32] at ho; exact absurd ho (ob_n3 (ga hA (by omega) (by omega)) (Or.inl rfl))
      exact zb_le 5 (3 + 1 + 1) (fun _ => f) (fun z => absurd z (by omega))
  · cases hB : S lv (i - 1) (j - 2)
    · have e : nD (S lv) i j 3 = 3 := by unfold nD; rw [if_neg (fun z => absurd ((ga hA (by show i + 2 * 0 + 1 = i + 1; omega) (by show j + 2 * -1 + 0 = j - 2; omega)).symm.trans z) (by decide)), if_neg (fun z => absurd ((ga hB (by show i + 2 * 0 + -1 = i - 1; omega) (by show j + 2 * -1 + 0 = j - 2; omega)).symm.trans z) (by decide))]
      have z1 : i + (eaD 3 + eaD 3) = i := by show i + (0 + 0) = i; omega
      have z2 : j + (noD 3 + noD 3) = j - 2 := by show j + (-1 + -1) = j - 2; omega
      rw [e, z1, z2] at f
      have gA := Hl _ _ hA
      have x01 : i + eaD 0 = i + 1 := by show i + 1 = i + 1; omega
      have x02 : j - 1 + noD 0 = j - 1 := by show j - 1 + 0 = j - 1; omega
      refine fo_s (e := 0) (v0 := -1) (pi := i) (pj := j - 1) (ce := 25 * (i + 1) + (j)) Q H hl C (by omega) (by omega) (by omega) (by omega) (by omega) (fun ho hv => ?_) (fun hm => ?_)
      · rw [x01, x02] at ho; exact absurd ho (ob_n0 rfl (Or.inr (ga hA (by omega) (by omega))))
      have x11 : i + eaD 1 = i := by show i + 0 = i; omega
      have x12 : j - 1 + noD 1 = j := by show j - 1 + 1 = j; omega
      refine fo_s (e := 1) (v0 := -1) (pi := i) (pj := j - 1) (ce := 25 * (i + 1) + (j)) Q H hl C (by omega) (by omega) (by omega) (by omega) (by omega) (fun ho hv => ?_) (fun hm => ?_)
      · rw [x11, x12] at ho; exact absurd ho (ob_n1 (ga c2 (by omega) (by omega)) (Or.inl rfl))
      have x21 : i + eaD 2 = i - 1 := by show i + -1 = i - 1; omega
      have x22 : j - 1 + noD 2 = j - 1 := by show j - 1 + 0 = j - 1; omega
      refine fo_s (e := 2) (v0 := -1) (pi := i) (pj := j - 1) (ce := 25 * (i + 1) + (j)) Q H hl C (by omega) (by omega) (by omega) (by omega) (by omega) (fun ho hv => ?_) (fun hm => ?_)
      · rw [x21, x22] at ho; exact absurd ho (ob_n2 (ga hB (by omega) (by omega)) (Or.inl rfl))
      have x31 : i + eaD 3 = i := by show i + 0 = i; omega
      have x32 : j - 1 + noD 3 = j - 2 := by show j - 1 + -1 = j - 2; omega
      refine fo_s (e := 3) (v0 := -1) (pi := i) (pj := j - 1) (ce := 25 * (i + 1) + (j)) Q H hl C (by omega) (by omega) (by omega) (by omega) (by omega) (fun ho hv => ?_) (fun hm => ?_)
      rotate_left
      · exact absurd ⟨by rw [x31, x32]; exact (Or.inr (Or.inr (Or.inr ⟨rfl, ⟨by omega, by omega⟩, ga hA (by omega) (by omega), ga hB (by omega) (by omega)⟩))), Or.inl (by omega)⟩ hm
      rw [x31, x32]
      exact zb_le 5 (3 + 1 + 1) (fun _ => f) (fun z => absurd z (by omega))
    · have e : nD (S lv) i j 3 = 2 := by unfold nD; rw [if_neg (fun z => absurd ((ga hA (by show i + 2 * 0 + 1 = i + 1; omega) (by show j + 2 * -1 + 0 = j - 2; omega)).symm.trans z) (by decide)), if_pos (ga hB (by show i + 2 * 0 + -1 = i - 1; omega) (by show j + 2 * -1 + 0 = j - 2; omega))]; rfl
      have z1 : i + (eaD 3 + eaD 2) = i - 1 := by show i + (0 + -1) = i - 1; omega
      have z2 : j + (noD 3 + noD 2) = j - 1 := by show j + (-1 + 0) = j - 1; omega
      rw [e, z1, z2] at f
      have gA := Hl _ _ hA
      have gB := Hl _ _ hB
      have x01 : i + eaD 0 = i + 1 := by show i + 1 = i + 1; omega
      have x02 : j - 1 + noD 0 = j - 1 := by show j - 1 + 0 = j - 1; omega
      refine fo_s (e := 0) (v0 := -1) (pi := i) (pj := j - 1) (ce := 25 * (i + 1) + (j)) Q H hl C (by omega) (by omega) (by omega) (by omega) (by omega) (fun ho hv => ?_) (fun hm => ?_)
      · rw [x01, x02] at ho; exact absurd ho (ob_n0 rfl (Or.inr (ga hA (by omega) (by omega))))
      have x11 : i + eaD 1 = i := by show i + 0 = i; omega
      have x12 : j - 1 + noD 1 = j := by show j - 1 + 1 = j; omega
      refine fo_s (e := 1) (v0 := -1) (pi := i) (pj := j - 1) (ce := 25 * (i + 1) + (j)) Q H hl C (by omega) (by omega) (by omega) (by omega) (by omega) (fun ho hv => ?_) (fun hm => ?_)
      · rw [x11, x12] at ho; exact absurd ho (ob_n1 (ga c2 (by omega) (by omega)) (Or.inl rfl))
      have x21 : i + eaD 2 = i - 1 := by show i + -1 = i - 1; omega
      have x22 : j - 1 + noD 2 = j - 1 := by show j - 1 + 0 = j - 1; omega
      refine fo_s (e := 2) (v0 := -1) (pi := i) (pj := j - 1) (ce := 25 * (i + 1) + (j)) Q H hl C (by omega) (by omega) (by omega) (by omega) (by omega) (fun ho hv => ?_) (fun hm => ?_)
      rotate_left
      · exact absurd ⟨by rw [x21, x22]; exact (Or.inr (Or.inr (Or.inl ⟨rfl, ⟨by omega, by omega⟩, ga hB (by omega) (by omega), ga c2 (by omega) (by omega)⟩))), Or.inl (by omega)⟩ hm
      rw [x21, x22]
      have x31 : i + eaD 3 = i := by show i + 0 = i; omega
      have x32 : j - 1 + noD 3 = j - 2 := by show j - 1 + -1 = j - 2; omega
      refine fo_s (e := 3) (v0 := 25 * (i - 1) + (j - 1)) (pi := i) (pj := j - 1) (ce := 25 * (i + 1) + (j)) Q H hl C (by omega) (by omega) (by omega) (by omega) (by omega) (fun ho hv => ?_) (fun hm => ?_)
      · rw [x31, x32] at ho; exact absurd ho (ob_n3 rfl (Or.inr (ga hB (by omega) (by omega))))
      exact zb_le 5 (3 + 1 + 1) (fun _ => f) (fun z => absurd z (by omega))
theorem yp_fol {post : Int32 → Prop} (Q : YP ly S) (H : HS S) {l n : Int} (hl : 0 ≤ l ∧ l ≤ 5) (C : clo (S l)) (hb : Bn (S l) n) (f : post (zI (fN (S l) n))) : wpY_following post (c, ly, fi, ma, se, px, py, la) (zI l) (zI n) := by
  have Hl : Sup (S l) := fun i j => H l i j
  have hn := hb.1
  have ob := bn_o hb
  have gd := ob_g Hl ob
  have dr := ob_r ob
  have ey : dY (S l) (n / 25) (n % 25) = dN (S l) n + 1 := (yd_i Hl dr.1).mpr ob
  have key : ∃ N, wY_following_95 post (zI l) (zI (cL (n / 25) (n % 25) (dN (S l) n))) (zI (n / 25 + eaD (dN (S l) n))) (zI (n % 25 + noD (dN (S l) n))) c ly fi ma se px py la N (-1) 1 := by
    unfold fN at f
    rcases ob with ⟨ed, o, c1, c2⟩ | ⟨ed, o, c1, c2⟩ | ⟨ed, o, c1, c2⟩ | ⟨ed, o, c1, c2⟩
    · rw [ed] at f ⊢; exact fo_0 Q H hl C o c1 c2 f
    · rw [ed] at f ⊢; exact fo_1 Q H hl C o c1 c2 f
    · rw [ed] at f ⊢; exact fo_2 Q H hl C o c1 c2 f
    · rw [ed] at f ⊢; exact fo_3 Q H hl C o c1 c2 f
  unfold wpY_following
  refine ⟨by decide, nm_r (zi_d25 (by omega)) ⟨by decide, nm_r (zi_r25 (by omega)) (yp_dir Q H hl C gd ?_)⟩⟩
  rw [ey]
  refine yp_cl dr ?_
  generalize dN (S l) n = d at key dr ⊢
  have k60 : ∀ u : Int, u = n / 25 + eaD d → wY_following_60 post (zI l) (zI (n % 25)) (zI (d + 1)) (zI (cL (n / 25) (n % 25) d)) (-1) (zI u) c ly fi ma se px py la := by
    intro u eu
    have go : ∀ v : Int, v = n % 25 + noD d → ∃ N, wY_following_95 post (zI l) (zI (cL (n / 25) (n % 25) d)) (zI u) (zI v) c ly fi ma se px py la N (-1) 1 := by
      intro v ev; rw [eu, ev]; exact key
    unfold wY_following_60
    refine zb_eq (d + 1) 2 (fun q => nm_r (zi_1 _) (go _ ?_)) (fun q => zb_eq (d + 1) 4 (fun q2 => nm_r (zi_s1 _) (go _ ?_)) (fun q2 => go _ ?_))
    · have : d = 1 := by omega
      subst this; rfl
    · have : d = 3 := by omega
      subst this; rfl
    · unfold noD; rw [if_neg (by omega), if_neg (by omega)]; omega
  rw [zi_1 (n / 25), zi_s1 (n / 25)]
  refine zb_eq (d + 1) 1 (fun q => k60 _ ?_) (fun q => zb_eq (d + 1) 3 (fun q2 => k60 _ ?_) (fun q2 => k60 _ ?_))
  · have : d = 0 := by omega
    subst this; rfl
  · have : d = 2 := by omega
    subst this; rfl
  · unfold eaD; rw [if_neg (by omega), if_neg (by omega)]; omega
end
