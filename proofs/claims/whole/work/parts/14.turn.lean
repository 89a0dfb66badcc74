/-! setting aside; turn -/
def AsF (g : Int → Int → Bool) (mb : Bool) (md : Int) (i j : Int) : Bool := decide (Gd i j ∧ g i j = mb ∧ i % 2 + j % 2 ≤ md)
theorem as_s {g : Int → Int → Bool} {mb : Bool} {md : Int} : Sup (AsF g mb md) := by
  intro i j h
  unfold AsF at h
  rw [decide_eq_true_eq] at h
  exact h.1
/-- a written sweep is a set put whole -/
theorem sw_set {a : Nat → Int32} {S : Int → Int → Int → Bool} {s : Int} {F : Int → Int → Bool} (H : HS S) (HF : Sup F) (P : XP a (swp S s F 0 25)) : XP a (setl S s F) := by
  refine px_c P (fun s' i j => ?_)
  rw [sw_e]
  unfold put setl
  by_cases e : s' = s
  · rw [if_pos e]
    by_cases gd : Gd i j
    · rw [if_pos ⟨e, gd⟩]
    · rw [if_neg (fun h => gd h.2)]
      have n1 : S s' i j = false := by
        cases z : S s' i j
        · rfl
        · exact absurd (H _ _ _ z) gd
      have n2 : F i j = false := by
        cases z : F i j
        · rfl
        · exact absurd (HF _ _ z) gd
      rw [n1, n2]
  · rw [if_neg (fun h => e h.1), if_neg e]
section
variable {c rc gc lr rk : Int32} {cx cy re st dg : Nat → Int32} {S : Int → Int → Int → Bool}
theorem sa_i {post : SX → Prop} {J : Int32 → Int32 → Int32 → Int32 → Int32 → Int32 → (Nat → Int32) → (Nat → Int32) → (Nat → Int32) → (Nat → Int32) → (Nat → Int32) → (Nat → Int32) → Prop} {l j md : Int} {mb : Bool} (hl : 0 ≤ l ∧ l ≤ 5) (hj : 0 ≤ j ∧ j ≤ 24) (hm : 0 ≤ md ∧ md ≤ 2)
    (hJ : ∀ a', XP a' (swp S 6 (AsF (S l) mb md) 0 (j + 1)) → J (zI (j + 1)) c rc gc lr rk a' cx cy re st dg) :
    ∀ (N : Nat) (i : Int) (a : Nat → Int32), 0 ≤ i → i ≤ 25 → (25 - i).toNat < N → XP a (swp S 6 (AsF (S l) mb md) i j) → wX_setAside_13 post J (zI l) (bI mb) (zI md) (zI j) N (zI i) c rc gc lr rk a cx cy re st dg := by
  intro N
  induction N with
  | zero => intro i a h0 h1; omega
  | succ N ih =>
    intro i a h0 h1 h2 P
    refine zb_le 25 i (fun h => ?_) (fun h => ?_)
    · have e : i = 25 := by omega
      subst e; exact nm_r (zi_1 j) (hJ a (px_c P sw_r))
    · have w49 : ∀ b : Bool, b = AsF (S l) mb md i j → wX_setAside_49 post J (wX_setAside_13 post J (zI l) (bI mb) (zI md) (zI j) N) (zI l) (bI mb) (zI md) (zI j) (zI i) (bI b) c rc gc lr rk a cx cy re st dg := by
        intro b eb
        unfold wX_setAside_49
        refine xp_write P 6 i j b (by omega) (by omega) (fun a' P' => nm_r (zi_1 i) (ih (i + 1) a' (by omega) (by omega) (by omega) ?_))
        rw [eb] at P'
        exact px_c P' (sw_w (by omega))
      refine xp_has P l i j (by omega) (by omega) (by omega) ?_
      rw [sw_o (by omega)]
      refine bb_e (fun e => xp_dim i j (by omega) (by omega) (zb_lt md (i % 2 + j % 2) (fun q => w49 false ?_) (fun q => w49 true ?_))) (fun e => w49 false ?_)
      · unfold AsF; symm; rw [decide_eq_false_iff_not]; exact fun h => absurd h.2.2 (by omega)
      · unfold AsF; symm; rw [decide_eq_true_eq]; exact ⟨by omega, e, q⟩
      · unfold AsF; symm; rw [decide_eq_false_iff_not]; exact fun h => e h.2.1
theorem sa_o {post : SX → Prop} {l md : Int} {mb : Bool} (hl : 0 ≤ l ∧ l ≤ 5) (hm : 0 ≤ md ∧ md ≤ 2) (H : HS S)
    (f : ∀ a', XP a' (setl S 6 (AsF (S l) mb md)) → post (c, rc, gc, lr, rk, a', cx, cy, re, st, dg)) :
    ∀ (N : Nat) (j : Int) (a : Nat → Int32), 0 ≤ j → j ≤ 25 → (25 - j).toNat < N → XP a (swp S 6 (AsF (S l) mb md) 0 j) → wX_setAside_3 post (zI l) (bI mb) (zI md) N (zI j) c rc gc lr rk a cx cy re st dg := by
  intro N
  induction N with
  | zero => intro i a h0 h1; omega
  | succ N ih =>
    intro j a h0 h1 h2 P
    refine zb_le 25 j (fun h => ?_) (fun h => ⟨26, sa_i hl (by omega) hm (fun a' P' => ih (j + 1) a' (by omega) (by omega) (by omega) P') 26 0 a (by omega) (by omega) (by omega) P⟩)
    have e : j = 25 := by omega
    subst e
    exact f a (sw_set H as_s P)
theorem xp_as {post : SX → Prop} {a : Nat → Int32} (P : XP a S) (l md : Int) (mb : Bool) (hl : 0 ≤ l ∧ l ≤ 5) (hm : 0 ≤ md ∧ md ≤ 2)
    (f : ∀ a', XP a' (setl S 6 (AsF (S l) mb md)) → post (c, rc, gc, lr, rk, a', cx, cy, re, st, dg)) : wpX_setAside post (c, rc, gc, lr, rk, a, cx, cy, re, st, dg) (zI l) (bI mb) (zI md) := by
  unfold wpX_setAside
  exact ⟨26, sa_o hl hm P.2 f 26 0 a (by omega) (by omega) (by omega) (px_c P sw_0)⟩
def tI (w i j : Int) : Int := if w = 0 then 24 - i else if w = 2 then j else i
def tJ (w i j : Int) : Int := if w = 1 then 24 - j else if w = 2 then i else j
def TF (g : Int → Int → Bool) (w i j : Int) : Bool := g (tI w i j) (tJ w i j)
theorem t_g {w i j : Int} (hw : 0 ≤ w ∧ w ≤ 2) : Gd (tI w i j) (tJ w i j) ↔ Gd i j := by
  have e : w = 0 ∨ w = 1 ∨ w = 2 := by omega
  rcases e with rfl | rfl | rfl <;> simp [tI, tJ] <;> omega
theorem tf_s {g : Int → Int → Bool} {w : Int} (hw : 0 ≤ w ∧ w ≤ 2) (H : Sup g) : Sup (TF g w) := fun i j h => (t_g hw).mp (H _ _ h)
theorem tu_i {post : Int32 → SX → Prop} {J : Int32 → Int32 → Int32 → Int32 → Int32 → Int32 → (Nat → Int32) → (Nat → Int32) → (Nat → Int32) → (Nat → Int32) → (Nat → Int32) → (Nat → Int32) → Prop} {l w j : Int} (hl : 0 ≤ l ∧ l ≤ 5) (hw : 0 ≤ w ∧ w ≤ 2) (hj : 0 ≤ j ∧ j ≤ 24)
    (hJ : ∀ a', XP a' (swp S l (TF (S 6) w) 0 (j + 1)) → J (zI (j + 1)) c rc gc lr rk a' cx cy re st dg) :
    ∀ (N : Nat) (i : Int) (a : Nat → Int32), 0 ≤ i → i ≤ 25 → (25 - i).toNat < N → XP a (swp S l (TF (S 6) w) i j) → wX_turn_36 post J (zI l) (zI w) (zI j) N (zI i) c rc gc lr rk a cx cy re st dg := by
  intro N
  induction N with
  | zero => intro i a h0 h1; omega
  | succ N ih =>
    intro i a h0 h1 h2 P
    refine zb_le 25 i (fun h => ?_) (fun h => ?_)
    · have e : i = 25 := by omega
      subst e; exact nm_r (zi_1 j) (hJ a (px_c P sw_r))
    · have w91 : ∀ p q : Int, p = tI w i j → q = tJ w i j → wX_turn_91 post J (wX_turn_36 post J (zI l) (zI w) (zI j) N) (zI l) (zI w) (zI j) (zI i) (zI p) (zI q) c rc gc lr rk a cx cy re st dg := by
        intro p q ep eq
        have hg : Gd p q := by rw [ep, eq]; exact (t_g hw).mpr (by omega)
        unfold wX_turn_91
        refine xp_has P 6 p q (by omega) (by omega) (by omega) ?_
        rw [sw_o (by omega)]
        refine xp_write P l i j _ (by omega) (by omega) (fun a' P' => nm_r (zi_1 i) (ih (i + 1) a' (by omega) (by omega) (by omega) ?_))
        rw [ep, eq] at P'
        exact px_c P' (sw_w (by omega))
      have e24 : ∀ z : Int, 24 - zI z = zI (24 - z) := fun z => zi_sub 24 z
      have w66 : ∀ p : Int, p = tI w i j → wX_turn_66 post J (wX_turn_36 post J (zI l) (zI w) (zI j) N) (zI l) (zI w) (zI j) (zI i) (zI p) c rc gc lr rk a cx cy re st dg := by
        intro p ep
        unfold wX_turn_66
        rw [e24]
        refine zb_eq w 1 (fun q => w91 p _ ep ?_) (fun q => zb_eq w 2 (fun q2 => w91 p _ ep ?_) (fun q2 => w91 p _ ep ?_))
        · unfold tJ; rw [if_pos q]
        · unfold tJ; rw [if_neg q, if_pos q2]
        · unfold tJ; rw [if_neg q, if_neg q2]
      rw [e24]
      refine zb_eq w 0 (fun q => w66 _ ?_) (fun q => zb_eq w 2 (fun q2 => w66 _ ?_) (fun q2 => w66 _ ?_))
      · unfold tI; rw [if_pos q]
      · unfold tI; rw [if_neg q, if_pos q2]
      · unfold tI; rw [if_neg q, if_neg q2]
theorem tu_o {post : Int32 → SX → Prop} {l w : Int} (hl : 0 ≤ l ∧ l ≤ 5) (hw : 0 ≤ w ∧ w ≤ 2) (H : HS S)
    (f : ∀ a', XP a' (setl S l (TF (S 6) w)) → post 1 (c, rc, gc, lr, rk, a', cx, cy, re, st, dg)) :
    ∀ (N : Nat) (j : Int) (a : Nat → Int32), 0 ≤ j → j ≤ 25 → (25 - j).toNat < N → XP a (swp S l (TF (S 6) w) 0 j) → wX_turn_27 post (zI l) (zI w) N (zI j) c rc gc lr rk a cx cy re st dg := by
  intro N
  induction N with
  | zero => intro i a h0 h1; omega
  | succ N ih =>
    intro j a h0 h1 h2 P
    refine zb_le 25 j (fun h => ?_) (fun h => ⟨26, tu_i hl hw (by omega) (fun a' P' => ih (j + 1) a' (by omega) (by omega) (by omega) P') 26 0 a (by omega) (by omega) (by omega) P⟩)
    have e : j = 25 := by omega
    subst e
    exact f a (sw_set H (tf_s hw (fun i j => H 6 i j)) P)
end
theorem as_2 {g : Int → Int → Bool} (H : Sup g) : AsF g true 2 = g := by
  funext i j
  refine be ?_
  unfold AsF
  rw [decide_eq_true_eq]
  exact ⟨fun h => h.2.1, fun h => ⟨H i j h, h, by omega⟩⟩
theorem ty {c : Int32} {fi se px py la ly : Nat → Int32} {S : Int → Int → Int → Bool} {post : Int32 → SY → Prop} {l w : Int} (hl : 0 ≤ l ∧ l ≤ 5) (hw : 0 ≤ w ∧ w ≤ 2) (Q : YP ly S)
    (f : ∀ ly' ma', YP ly' (setl S l (TF (S l) w)) → post 1 (c, ly', fi, ma', se, px, py, la)) :
    ∀ (N : Nat) (q : Int) (ma : Nat → Int32), 0 ≤ q → q ≤ 625 → (625 - q).toNat < N → (∀ i j, Gd i j → 25 * i + j < q → ma (25 * tI w i j + tJ w i j).toNat = bI (S l i j)) → wY_turn_21 post (zI l) (zI w) c N (zI q) ly fi ma se px py la := by
  have ew : w = 0 ∨ w = 1 ∨ w = 2 := by omega
  intro N
  induction N with
  | zero => intro q ma h0 h1; omega
  | succ N ih =>
    intro q ma h0 h1 h2 hM
    refine zb_le 625 q (fun h => ?_) (fun h => ⟨by decide, nm_r (zi_d25 (by omega)) ⟨by decide, nm_r (zi_r25 (by omega)) ?_⟩⟩)
    · refine yp_keep (g := TF (S l) w) Q l hl (fun i j gd => ?_) (fun ly' Q' => f ly' ma Q')
      have gd' := (t_g hw).mpr gd
      have := hM (tI w i j) (tJ w i j) gd' (by omega)
      have e1 : tI w (tI w i j) (tJ w i j) = i := by rcases ew with rfl | rfl | rfl <;> simp [tI, tJ] <;> omega
      have e2 : tJ w (tI w i j) (tJ w i j) = j := by rcases ew with rfl | rfl | rfl <;> simp [tI, tJ] <;> omega
      rw [e1, e2] at this
      exact this
    · have gq : Gd (q / 25) (q % 25) := by omega
      have gt := (t_g (i := q / 25) (j := q % 25) hw).mpr gq
      have k89 : ∀ z : Int, z = 25 * tI w (q / 25) (q % 25) + tJ w (q / 25) (q % 25) → wY_turn_89 post (wY_turn_21 post (zI l) (zI w) c N) (zI l) (zI w) (zI q) (zI z) c ly fi ma se px py la := by
        intro z ez
        have e1 := zi_in2 l q
        have ix : 625 * l + q = 625 * l + 25 * (q / 25) + q % 25 := by omega
        have r1 : ly (625 * l + q).toNat = bI (S l (q / 25) (q % 25)) := by rw [ix]; exact Q l _ _ hl.1 hl.2 gq
        unfold wY_turn_89
        refine ⟨zv_in (625 * l + q) (by omega) e1, zv_in z (by omega), nm_e (nm_r (zi_1 q) ?_)⟩
        rw [zv_cl _ e1, r1, bi_v, zi_cl (by omega)]
        refine ih (q + 1) _ (by omega) (by omega) (by omega) (fun i j gd hlt => ?_)
        unfold upd
        by_cases e : 25 * i + j = q
        · have ei : i = q / 25 := by omega
          have ej : j = q % 25 := by omega
          rw [if_pos (by rw [ez, ei, ej]), ei, ej]
        · have gd' := (t_g (i := i) (j := j) hw).mpr gd
          have ne : ¬ (25 * tI w i j + tJ w i j).toNat = z.toNat := by
            intro hh
            have hh2 : 25 * tI w i j + tJ w i j = 25 * tI w (q / 25) (q % 25) + tJ w (q / 25) (q % 25) := by omega
            rcases ew with rfl | rfl | rfl <;> simp [tI, tJ] at hh2 <;> omega
          rw [if_neg ne]; exact hM i j gd (by omega)
      have x0 : 25 * (24 - zI (q / 25)) + zI (q % 25) = zI (25 * (24 - q / 25) + q % 25) := by
        have e1 : 24 - zI (q / 25) = zI (24 - q / 25) := zi_sub 24 _
        have e2 : 25 * zI (24 - q / 25) = zI (25 * (24 - q / 25)) := zi_mul 25 _
        rw [e1, e2, zi_add]
      have x1 : ((25 * zI (q / 25)) + 24) - zI (q % 25) = zI (25 * (q / 25) + 24 - q % 25) := by
        have e2 : 25 * zI (q / 25) = zI (25 * (q / 25)) := zi_mul 25 _
        have e3 : zI (25 * (q / 25)) + 24 = zI (25 * (q / 25) + 24) := zi_add _ 24
        rw [e2, e3, zi_sub]
      have x2 : (25 * zI (q % 25)) + zI (q / 25) = zI (25 * (q % 25) + q / 25) := by
        have e2 : 25 * zI (q % 25) = zI (25 * (q % 25)) := zi_mul 25 _
        rw [e2, zi_add]
      rw [x0, x1, x2]
      refine zb_eq w 0 (fun e => k89 _ ?_) (fun e => zb_eq w 1 (fun e1 => k89 _ ?_) (fun e1 => k89 _ ?_))
      · subst e; rfl
      · subst e1; simp [tI, tJ]; omega
      · have : w = 2 := by omega
        subst this; rfl
theorem i_vc_turn {k : Nat} {u : SX} {v : SY} (I : i_Rel k u v) (hk : k + 5 ≤ 2560) (v1 : Int32) (v2 : Int32) : wpX_turn (fun r u' => wpY_turn (fun r' v' => r' = r ∧ i_Rel (k + 5) u' v') v v1 v2) u v1 v2 := by
  obtain ⟨c, rc, gc, lr, rk, a, cx, cy, re, st, dg⟩ := u
  obtain ⟨c', ly, fi, ma, se, px, py, la⟩ := v
  obtain ⟨S, n, X, Y, P, Q, C, T, rfl, rfl⟩ := I
  obtain ⟨l, hl, rfl⟩ := zi_ex v1
  obtain ⟨w, hw, rfl⟩ := zi_ex v2
  have R0 : i_Rel (k + 5) (zI n, rc, gc, lr, rk, a, cx, cy, re, st, dg) (zI n, ly, fi, ma, se, px, py, la) := i_mk P Q C T
  have Yc : ∀ post : Int32 → SY → Prop, ((0 ≤ l ∧ l ≤ 5) ∧ (0 ≤ w ∧ w ≤ 2) → ∃ N, wY_turn_21 post (zI l) (zI w) (zI n) N 0 ly fi ma se px py la) → (¬ ((0 ≤ l ∧ l ≤ 5) ∧ (0 ≤ w ∧ w ≤ 2)) → post 0 (zI n, ly, fi, ma, se, px, py, la)) → wpY_turn post (zI n, ly, fi, ma, se, px, py, la) (zI l) (zI w) := by
    intro post f g
    unfold wpY_turn
    refine yg_layer l hl (fun h1 => b1_f ?_) (fun h1 => b0_t (g (by omega)))
    exact zb_lt w 0 (fun h => g (by omega)) (fun h0 => zb_le w 2 (fun h => f (by omega)) (fun h => g (by omega)))
  unfold wpX_turn
  refine xg_layer l hl (fun h1 => b1_f ?_) (fun h1 => b0_t (Yc _ (fun h => absurd h.1 h1) (fun _ => ⟨rfl, R0⟩)))
  refine zb_lt w 0 (fun h2 => Yc _ (fun h => absurd h2 (by omega)) (fun _ => ⟨rfl, R0⟩)) (fun h2 => zb_le w 2 (fun h3 => ?_) (fun h3 => Yc _ (fun h => absurd h3 (by omega)) (fun _ => ⟨rfl, R0⟩)))
  refine xp_as P l 2 true h1 (by omega) (fun a1 P1 => ⟨26, ?_⟩)
  have Hl : Sup (S l) := fun i j => P.2 l i j
  rw [as_2 Hl] at P1
  have e6 : setl S 6 (S l) 6 = S l := by unfold setl; rw [if_pos rfl]
  have el : ∀ s : Int, s ≤ 5 → setl S 6 (S l) s = S s := by intro s hs; unfold setl; rw [if_neg (by omega)]
  refine tu_o (S := setl S 6 (S l)) h1 (by omega) P1.2 (fun a2 P2 => ?_) 26 0 a1 (by omega) (by omega) (by omega) (px_c P1 sw_0)
  rw [e6] at P2
  refine Yc _ (fun _ => ⟨626, ?_⟩) (fun h => absurd ⟨h1, h2, h3⟩ h)
  refine ty h1 ⟨h2, h3⟩ Q (fun ly' ma' Q' => ⟨rfl, ?_⟩) 626 0 ma (by omega) (by omega) (by omega) (fun i j gd hlt => absurd hlt (by omega))
  refine i_mk P2 (fun l' i j l0 l5 gd => ?_) (cl_set (fun s s0 s5 => by rw [el s s5]; exact C s s0 s5) ?_) T
  · rw [Q' l' i j l0 l5 gd]
    unfold setl
    by_cases e : l' = l
    · rw [if_pos e, if_pos e]
    · rw [if_neg e, if_neg e, if_neg (by omega)]
  · intro i j hh
    have := C l h1.1 h1.2 _ _ hh
    have ew : w = 0 ∨ w = 1 ∨ w = 2 := by omega
    unfold TF at hh ⊢
    rcases ew with rfl | rfl | rfl
    · simp only [tI, tJ, if_pos, if_neg] at this ⊢
      simp at this ⊢
      refine ⟨fun o => ?_, fun o => ?_⟩
      · have z1 : 24 - (i - 1) = 24 - i + 1 := by omega
        have z2 : 24 - (i + 1) = 24 - i - 1 := by omega
        rw [z1, z2]
        exact ⟨(this.1 (by omega)).2, (this.1 (by omega)).1⟩
      · exact this.2 o
    · simp only [tI, tJ] at this ⊢
      simp at this ⊢
      refine ⟨fun o => this.1 o, fun o => ?_⟩
      have z1 : 24 - (j - 1) = 24 - j + 1 := by omega
      have z2 : 24 - (j + 1) = 24 - j - 1 := by omega
      rw [z1, z2]
      exact ⟨(this.2 (by omega)).2, (this.2 (by omega)).1⟩
    · simp only [tI, tJ] at this ⊢
      simp at this ⊢
      exact ⟨fun o => this.2 o, fun o => this.1 o⟩
