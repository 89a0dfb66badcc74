/-! piece -/
noncomputable def cmQ (m : Nat) (qi qj : Nat → Int) : Int → Int → Int := fun i j => @ite Int (InQ m qi qj i j) (Classical.propDecidable _) 1 0
theorem cq_1 {m : Nat} {qi qj : Nat → Int} {i j : Int} (h : InQ m qi qj i j) : cmQ m qi qj i j = 1 := by unfold cmQ; rw [if_pos h]
theorem cq_0 {m : Nat} {qi qj : Nat → Int} {i j : Int} (h : ¬ InQ m qi qj i j) : cmQ m qi qj i j = 0 := by unfold cmQ; rw [if_neg h]
theorem fq_s {G : Int → Int → Bool} {i0 j0 : Int} {m : Nat} {qi qj qd : Nat → Int} (F : FIN G i0 j0 m qi qj qd) {i j d : Int} (hd : 0 ≤ d ∧ d ≤ 3) (hq : InQ m qi qj i j) (hg : G (i + eaD d) (j + noD d) = true) : InQ m qi qj (i + eaD d) (j + noD d) := by
  obtain ⟨k, hk, e1, e2⟩ := hq
  subst e1; subst e2
  obtain ⟨k', hk', a1, a2, -⟩ := F.2 k hk d hd.1 hd.2 hg
  exact ⟨k', hk', a1, a2⟩
theorem fq_b {G : Int → Int → Bool} {i0 j0 : Int} {m : Nat} {qi qj qd : Nat → Int} (F : FIN G i0 j0 m qi qj qd) {i j d : Int} (hd : 0 ≤ d ∧ d ≤ 3) (hg : G i j = true) (hq : InQ m qi qj (i + eaD d) (j + noD d)) : InQ m qi qj i j := by
  obtain ⟨o1, o2, o3⟩ := op_d hd
  have b1 : i + eaD d + eaD (opD d) = i := by rw [o2]; omega
  have b2 : j + noD d + noD (opD d) = j := by rw [o3]; omega
  have := fq_s F o1 hq (by rw [b1, b2]; exact hg)
  rw [b1, b2] at this; exact this
theorem cq_inv {G : Int → Int → Bool} {i0 j0 : Int} {m : Nat} {qi qj qd : Nat → Int} (F : FIN G i0 j0 m qi qj qd) : Inv4 G (cmQ m qi qj) := by
  intro i j d d0 d3 h1 h2
  rcases Classical.em (InQ m qi qj i j) with h | h
  · rw [cq_1 h, cq_1 (fq_s F ⟨d0, d3⟩ h h2)]
  · rw [cq_0 h, cq_0 (fun hh => h (fq_b F ⟨d0, d3⟩ h1 hh))]
def cel (i j : Int) : Bool := decide (i % 2 = 1 ∧ j % 2 = 1)
theorem px_62 {c gc lr rk : Int32} {cx cy dg a re st : Nat → Int32} {post : Int32 → SX → Prop} {m : Nat} {qi qj qd : Nat → Int} {G : Int → Int → Bool} {i0 j0 : Int} (H : Sup G) (B : BF0 G i0 j0 m qi qj qd) (A : QA m qi qj qd re st)
    (f : post (zI (cnt (fun k => cel (qi k) (qj k)) m)) (c, zI m, gc, lr, rk, a, cx, cy, re, st, dg)) :
    ∀ (N n : Nat), n ≤ m → 625 - n < N → wX_piece_62 post c (zI m) gc lr rk a cx cy re st dg N (zI (cnt (fun k => cel (qi k) (qj k)) n)) (zI n) := by
  have hm := bf_m H B
  intro N
  induction N with
  | zero => intro n h0 h1; omega
  | succ N ih =>
    intro n h0 h1
    have fin : m ≤ n → post (zI (cnt (fun k => cel (qi k) (qj k)) n)) (c, zI m, gc, lr, rk, a, cx, cy, re, st, dg) := by
      intro hh
      have : n = m := by omega
      rw [this]; exact f
    refine zb_le 625 (n : Int) (fun h => fin (by omega)) (fun h => zb_le (m : Int) (n : Int) (fun h2 => fin (by omega)) (fun h2 => ?_))
    have v1 : vp_in (zI n) 625 := zv_in (n : Int) (by omega)
    have c1 : (zI n).toNatClampNeg = n := by rw [zi_cl (by omega), Int.toNat_natCast]
    have q := A n (by omega)
    have gd := H _ _ (B.2.2.2.1 n (by omega))
    rw [c1, q.1]
    have e4 : zI (25 * qj n + qi n) - zI (25 * qj n + qi n) / 25 * 25 = zI (qi n) := by
      rw [zi_r25 (by omega)]; apply congrArg zI; omega
    have e5 : zI (25 * qj n + qi n) / 25 = zI (qj n) := by
      rw [zi_d25 (by omega)]; apply congrArg zI; omega
    rw [e4, e5]
    have w := ih (n + 1) (by omega) (by omega)
    rw [cn_s] at w
    refine ⟨v1, by decide, v1, by decide, xp_dim _ _ (by omega) (by omega) (zb_eq (qi n % 2 + qj n % 2) 2 (fun e => nm_r (zi_1 _) (nm_r (zi_1 _) ?_)) (fun e => nm_r (zi_1 _) ?_))⟩
    · have : cel (qi n) (qj n) = true := by unfold cel; rw [decide_eq_true_eq]; omega
      rw [this] at w; exact w
    · have : cel (qi n) (qj n) = false := by unfold cel; rw [decide_eq_false_iff_not]; omega
      rw [this] at w; exact w
theorem py_45 {c : Int32} {fi ly ma se px py la : Nat → Int32} {post : Int32 → SY → Prop} {L : Int → Int} (A : LB la L) {x y : Int} (hx : 0 ≤ x ∧ x ≤ 12) (hy : 0 ≤ y ∧ y ≤ 12)
    (f : post (zI (cnt (fun n => decide (L n = L (50 * x + 2 * y)) && cel ((n : Int) / 25) ((n : Int) % 25)) 625)) (c, ly, fi, ma, se, px, py, la)) :
    ∀ (N n : Nat), n ≤ 625 → 625 - n < N → wY_piece_45 post (zI x) (zI y) c ly fi ma se px py la N (zI (cnt (fun n => decide (L n = L (50 * x + 2 * y)) && cel ((n : Int) / 25) ((n : Int) % 25)) n)) (zI n) := by
  intro N
  induction N with
  | zero => intro n h0 h1; omega
  | succ N ih =>
    intro n h0 h1
    refine zb_le 625 (n : Int) (fun h => ?_) (fun h => ?_)
    · have : n = 625 := by omega
      rw [this]; exact f
    · have v1 : vp_in (zI n) 625 := zv_in (n : Int) (by omega)
      have an := A n (by omega) (by omega)
      have ap := A (50 * x + 2 * y) (by omega) (by omega)
      have e1 : (50 * zI x) + (2 * zI y) = zI (50 * x + 2 * y) := by
        have e : 50 * zI x = zI (50 * x) := zi_mul 50 x
        rw [e, zi_dbl, zi_add]
      have w := ih (n + 1) (by omega) (by omega)
      rw [cn_s] at w
      have no : (decide (L n = L (50 * x + 2 * y)) && cel ((n : Int) / 25) ((n : Int) % 25)) = false → wY_piece_45 post (zI x) (zI y) c ly fi ma se px py la N (zI (cnt (fun n => decide (L n = L (50 * x + 2 * y)) && cel ((n : Int) / 25) ((n : Int) % 25)) n)) (zI (n + 1 : Nat)) := by
        intro hh; rw [hh] at w; exact w
      rw [zv_cl _ e1, zi_cl (by omega), an.1, ap.1, zi_d25 (by omega)]
      have e6 : zI (n : Int) - zI ((n : Int) / 25) * 25 = zI ((n : Int) % 25) := by
        rw [← zi_d25 (by omega)]; exact zi_r25 (by omega)
      rw [e6, zi_r2 (by omega), zi_r2 (by omega)]
      refine ⟨v1, zv_in (50 * x + 2 * y) (by omega) e1, zb_eq (L n) (L (50 * x + 2 * y)) (fun q1 => ⟨by decide, by decide, zb_eq ((n : Int) / 25 % 2) 1 (fun q2 => ⟨by decide, by decide, zb_eq ((n : Int) % 25 % 2) 1 (fun q3 => nm_r (zi_1 _) (nm_r (zi_1 _) ?_)) (fun q3 => nm_r (zi_1 _) (no ?_))⟩) (fun q2 => nm_r (zi_1 _) (no ?_))⟩) (fun q1 => nm_r (zi_1 _) (no ?_))⟩
      · have t1 : decide (L n = L (50 * x + 2 * y)) = true := by rw [decide_eq_true_eq]; exact q1
        have t2 : cel ((n : Int) / 25) ((n : Int) % 25) = true := by unfold cel; rw [decide_eq_true_eq]; exact ⟨q2, q3⟩
        rw [t1, t2] at w; exact w
      · have t2 : cel ((n : Int) / 25) ((n : Int) % 25) = false := by unfold cel; rw [decide_eq_false_iff_not]; exact fun z => q3 z.2
        rw [t2, Bool.and_false]
      · have t2 : cel ((n : Int) / 25) ((n : Int) % 25) = false := by unfold cel; rw [decide_eq_false_iff_not]; exact fun z => q2 z.1
        rw [t2, Bool.and_false]
      · have t1 : decide (L n = L (50 * x + 2 * y)) = false := by rw [decide_eq_false_iff_not]; exact q1
        rw [t1, Bool.false_and]
theorem pi_eq {g : Int → Int → Bool} {x y : Int} (hx : 0 ≤ x ∧ x ≤ 12) (hy : 0 ≤ y ∧ y ≤ 12) {m : Nat} {qi qj qd : Nat → Int} (h0 : AsF g true 2 (2 * x) (2 * y) = true) (F : FIN (AsF g true 2) (2 * x) (2 * y) m qi qj qd) {la : Nat → Int32} {L : Int → Int} (A : LB la L) (G : GI (AsF g true 2) L) (K : CI (cmQ m qi qj) L) (X : ∀ n, 0 ≤ n → n ≤ 624 → FXP L n) :
    cnt (fun n => decide (L n = L (50 * x + 2 * y)) && cel ((n : Int) / 25) ((n : Int) % 25)) 625 = cnt (fun k => cel (qi k) (qj k)) m := by
  have I := fx_inv A G X
  have e1 : (50 * x + 2 * y) / 25 = 2 * x := by omega
  have e2 : (50 * x + 2 * y) % 25 = 2 * y := by omega
  have p0 : 0 ≤ L (50 * x + 2 * y) := (G _ (by omega) (by omega)).mpr (by rw [e1, e2]; exact h0)
  have q0 : InQ m qi qj (2 * x) (2 * y) := by
    have := F.1.1 h0
    obtain ⟨b1, b2, -⟩ := F.1.2.2.1 this
    exact ⟨0, this, b1, b2⟩
  have gq : ∀ k, k < m → Gd (qi k) (qj k) := fun k hk => as_s _ _ (F.1.2.2.2.1 k hk)
  refine cn_bij (P := fun _ => true) (N := 625) (fun k => cel (qi k) (qj k)) (fun k => (25 * qi k + qj k).toNat) m _ (fun k hk hc => ?_) (fun k k' hk hk' _ _ e => ?_) (fun n hn hp => ?_)
  · have gd := gq k hk
    have ec : (((25 * qi k + qj k).toNat : Nat) : Int) = 25 * qi k + qj k := by omega
    refine ⟨by show (25 * qi k + qj k).toNat < 625; omega, ?_⟩
    show (decide (L ((25 * qi k + qj k).toNat : Int) = L (50 * x + 2 * y)) && cel (((25 * qi k + qj k).toNat : Int) / 25) (((25 * qi k + qj k).toNat : Int) % 25)) = true
    have z1 : (25 * qi k + qj k) / 25 = qi k := by omega
    have z2 : (25 * qi k + qj k) % 25 = qj k := by omega
    rw [ec, z1, z2, Bool.and_eq_true, decide_eq_true_eq]
    refine ⟨?_, hc⟩
    have := fin_inv F.1 I (k + 1) k (by omega) hk
    have e : L (25 * qi k + qj k) = L (25 * (2 * x) + 2 * y) := this
    rw [e]; congr 1; omega
  · have a1 := gq k hk
    have a2 := gq k' hk'
    have e' : (25 * qi k + qj k).toNat = (25 * qi k' + qj k').toNat := e
    exact F.1.2.2.2.2.1 k k' hk hk' (by omega) (by omega)
  · have hp' : (decide (L (n : Int) = L (50 * x + 2 * y)) && cel ((n : Int) / 25) ((n : Int) % 25)) = true := hp
    rw [Bool.and_eq_true, decide_eq_true_eq] at hp'
    have k1 := (K n (by omega) (by omega) (by rw [hp'.1]; exact p0)).2
    have k2 := (K (50 * x + 2 * y) (by omega) (by omega) p0).2
    rw [hp'.1, k2, e1, e2, cq_1 q0] at k1
    rcases Classical.em (InQ m qi qj ((n : Int) / 25) ((n : Int) % 25)) with hq | hq
    · obtain ⟨k, hk, y1, y2⟩ := hq
      refine ⟨k, hk, ?_, ?_⟩
      · show cel (qi k) (qj k) = true
        rw [y1, y2]; exact hp'.2
      · show (25 * qi k + qj k).toNat = n
        rw [y1, y2]; omega
    · rw [cq_0 hq] at k1; omega
theorem i_vc_piece {k : Nat} {u : SX} {v : SY} (I : i_Rel k u v) (hk : k + 5 ≤ 2560) (v1 : Int32) (v2 : Int32) (v3 : Int32) : wpX_piece (fun r u' => wpY_piece (fun r' v' => r' = r ∧ i_Rel (k + 5) u' v') v v1 v2 v3) u v1 v2 v3 := by
  obtain ⟨c, rc, gc, lr, rk, a, cx, cy, re, st, dg⟩ := u
  obtain ⟨c', ly, fi, ma, se, px, py, la⟩ := v
  obtain ⟨S, n, X, Y, P, Q, C, T, rfl, rfl⟩ := I
  obtain ⟨l, hl, rfl⟩ := zi_ex v1
  obtain ⟨x, hx, rfl⟩ := zi_ex v2
  obtain ⟨y, hy, rfl⟩ := zi_ex v3
  have R0 : i_Rel (k + 5) (zI n, rc, gc, lr, rk, a, cx, cy, re, st, dg) (zI n, ly, fi, ma, se, px, py, la) := i_mk P Q C T
  have bad : (∀ (h1 : 0 ≤ l ∧ l ≤ 5), (0 ≤ x ∧ x ≤ 12) → (0 ≤ y ∧ y ≤ 12) → S l (2 * x) (2 * y) = false) → wpY_piece (fun r' v' => r' = -1 ∧ i_Rel (k + 5) (zI n, rc, gc, lr, rk, a, cx, cy, re, st, dg) v') (zI n, ly, fi, ma, se, px, py, la) (zI l) (zI x) (zI y) := by
    intro h
    unfold wpY_piece
    refine yg_layer l hl (fun h1 => b1_f (yg_coord x y hx hy (fun h2 => b1_f ?_) (fun _ => b0_t ⟨rfl, R0⟩))) (fun h1 => b0_t ⟨rfl, R0⟩)
    rw [zi_dbl, zi_dbl]
    refine yp_in Q P.2 l _ _ h1 (by omega) (by omega) (bb_0 (fun e => ⟨rfl, R0⟩) (fun e => ?_))
    rw [h h1 h2.1 h2.2] at e; exact absurd e (by decide)
  unfold wpX_piece
  refine xg_layer l hl (fun h1 => b1_f ?_) (fun h1 => b0_t (bad (fun h => absurd h h1)))
  refine xg_coord x hx (fun h2 => b1_f ?_) (fun h2 => b0_t (bad (fun _ h => absurd h h2)))
  refine xg_coord y hy (fun h3 => b1_f ?_) (fun h3 => b0_t (bad (fun _ _ h => absurd h h3)))
  rw [zi_dbl, zi_dbl]
  refine xp_has P l _ _ (by omega) (by omega) (by omega) (bb_0 (fun e => bad (fun _ _ _ => e)) (fun e => ?_))
  clear bad R0
  have Hl : Sup (S l) := fun i j => P.2 l i j
  refine xp_as P l 2 true h1 (by omega) (fun a1 P1 => ?_)
  have e6 : setl S 6 (AsF (S l) true 2) 6 = AsF (S l) true 2 := by unfold setl; rw [if_pos rfl]
  have el : ∀ s : Int, s ≤ 5 → setl S 6 (AsF (S l) true 2) s = S s := by intro s hs; unfold setl; rw [if_neg (by omega)]
  refine xp_spread P1 (2 * x) (2 * y) (by omega) (fun m qi qj qd a2 re2 st2 S2 F hS => ?_)
  rw [e6] at F
  have e5 : ∀ s, s ≤ 5 → S2 s = S s := fun s hs => by rw [hS.2.1 s (by omega), el s hs]
  have h0 : AsF (S l) true 2 (2 * x) (2 * y) = true := as_i.mpr ⟨by omega, e⟩
  refine ⟨626, px_62 as_s F.1 hS.2.2.2 ?_ 626 0 (by omega) (by omega)⟩
  unfold wpY_piece
  refine yg_layer l hl (fun _ => b1_f (yg_coord x y hx hy (fun _ => b1_f ?_) (fun h => absurd ⟨h2, h3⟩ h))) (fun h => absurd h1 h)
  rw [zi_dbl, zi_dbl]
  refine yp_in Q P.2 l _ _ h1 (by omega) (by omega) ?_
  rw [e]
  refine b1_f (yp_pieces (cm := cmQ m qi qj) Q true h1 (C l h1.1 h1.2) (cq_inv F) (fun la2 L A G K X2 => ⟨626, ?_⟩))
  refine py_45 A h2 h3 ⟨?_, i_mk hS.1 (yp_c Q e5) (cl_c C e5) T⟩ 626 0 (by omega) (by omega)
  rw [pi_eq h2 h3 h0 F A G K X2]
