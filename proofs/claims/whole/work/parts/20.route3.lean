/-! route: both sides -/
theorem su_0 (fr : Int) : sumL (fun n => if n = fr then 0 else 1000) ≤ 169 * 1000 := by
  unfold sumL
  refine sm_le (fun q hq => ?_)
  show (if (q : Int) = fr then (0 : Int) else 1000).toNat ≤ 1000
  split <;> omega
theorem rt_y2 {ly fi ma se px py la : Nat → Int32} {S : Int → Int → Int → Bool} {c : Int32} {l fr to : Int} (Q : YP ly S) (H : HS S) (C : CL S) (h1 : 0 ≤ l ∧ l ≤ 5) (h2 : 0 ≤ fr ∧ fr ≤ 168) (h3 : 0 ≤ to ∧ to ≤ 168) {m : Nat} {qi qj qd : Nat → Int} (F : FIN (AsF (S l) true 1) (2 * (fr % 13)) (2 * (fr / 13)) m qi qj qd) (hb : S l (2 * (fr % 13)) (2 * (fr / 13)) = true) {post : Int32 → SY → Prop}
    (f : ∀ la L, LI m qi qj qd fr L → (0 ≤ L to ∧ L to ≤ 1000) → (∀ n, 0 ≤ n → n ≤ 168 → FXn (S l) L n) → post (zI (if L to < 1000 then L to else -1)) (c, ly, fi, ma, se, px, py, la)) : ∃ N, wY_route_77 post (zI l) (zI fr) (zI to) c N 0 ly fi ma se px py la := by
  have Hl : Sup (S l) := fun i j => H l i j
  have hs := su_0 fr
  obtain ⟨NN, hNN⟩ : ∃ NN : Nat, NN = 169 * 1000 + 5 := ⟨_, rfl⟩
  refine ⟨170, ry_77 h2 (fun la' A' => ⟨NN, ?_⟩) 170 0 la (by omega) (by omega) (by omega) (fun q q0 q1 => absurd q1 (by omega))⟩
  refine ry_114 Q H C h1 h3 F f NN true la' (fun n => if n = fr then 0 else 1000) A' ?_ (fun _ => ?_) (fun z => (nomatch z))
  · refine ⟨if_pos rfl, fun q q0 q1 hq => ?_⟩
    have hq' : (if q = fr then (0 : Int) else 1000) < 1000 := hq
    by_cases e : q = fr
    · have := F.1.1 (af_e Hl hb (by omega))
      obtain ⟨b1, b2, b3⟩ := F.1.2.2.1 this
      refine ⟨0, this, by rw [e]; exact b1, by rw [e]; exact b2, ?_⟩
      show qd 0 ≤ 2 * (if q = fr then (0 : Int) else 1000)
      rw [if_pos e]; omega
    · rw [if_neg e] at hq'; omega
  · generalize sumL (fun n => if n = fr then 0 else 1000) = z at hs ⊢
    omega
theorem rt_fin {ly fi ma se px py la : Nat → Int32} {S : Int → Int → Int → Bool} {n l fr to : Int} (Q : YP ly S) (H : HS S) (C : CL S) (h1 : 0 ≤ l ∧ l ≤ 5) (h2 : 0 ≤ fr ∧ fr ≤ 168) (h3 : 0 ≤ to ∧ to ≤ 168) {m : Nat} {qi qj qd : Nat → Int} (F : FIN (AsF (S l) true 1) (2 * (fr % 13)) (2 * (fr / 13)) m qi qj qd) {R : SY → Prop} (R2 : ∀ la', R (zI n, ly, fi, ma, se, px, py, la')) (r : Int)
    (hr : ∀ L, LI m qi qj qd fr L → (0 ≤ L to ∧ L to ≤ 1000) → (∀ n, 0 ≤ n → n ≤ 168 → FXn (S l) L n) → (if L to < 1000 then L to else -1) = r) (hr2 : ¬ (S l (2 * (fr % 13)) (2 * (fr / 13)) = true ∧ S l (2 * (to % 13)) (2 * (to / 13)) = true) → r = -1) : wpY_route (fun r' v' => r' = zI r ∧ R v') (zI n, ly, fi, ma, se, px, py, la) (zI l) (zI fr) (zI to) := by
  refine rt_y Q H (by omega) (by omega) (by omega) _ (fun _ _ _ => ⟨fun hb => ?_, fun hb => ⟨by rw [hr2 hb]; rfl, R2 la⟩⟩) (fun h => absurd ⟨h1, h2, h3⟩ h)
  exact rt_y2 Q H C h1 h2 h3 F hb.1 (fun la2 L I2 hL X2 => ⟨by rw [hr L I2 hL X2], R2 la2⟩)
theorem rt_a {g : Int → Int → Bool} (H : Sup g) {fr to : Int} (h2 : 0 ≤ fr ∧ fr ≤ 168) (h3 : 0 ≤ to ∧ to ≤ 168) {m : Nat} {qi qj qd : Nat → Int} (F : FIN (AsF g true 1) (2 * (fr % 13)) (2 * (fr / 13)) m qi qj qd) {q : Nat} (hq : q < m) (e1 : qi q = 2 * (to % 13)) (e2 : qj q = 2 * (to / 13)) {L : Int → Int} (I2 : LI m qi qj qd fr L) (hL : 0 ≤ L to ∧ L to ≤ 1000) (X2 : ∀ n, 0 ≤ n → n ≤ 168 → FXn g L n) : (if L to < 1000 then L to else -1) = qd q / 2 := by
  have dr := qd_r F.1 (q + 1) q (by omega) hq
  have hm := bf_m as_s F.1
  have ha := li_a H h2 F I2.1 X2 (q + 1) q (by omega) hq
  have hle : 2 * L to ≤ qd q := by
    rcases ha with ⟨n', hn', z1, z2, z3⟩ | ⟨n', d, hn', hd, z1, z2, z3⟩
    · have : n' = to := by omega
      rw [this] at z3; exact z3
    · rcases d4 hd with rfl | rfl | rfl | rfl <;> simp [eaD, noD] at z1 z2 <;> omega
  have hlt : L to < 1000 := by omega
  obtain ⟨k', hk', y1, y2, y3⟩ := I2.2 to h3.1 h3.2 hlt
  have : k' = q := F.1.2.2.2.2.1 k' q hk' hq (by rw [y1, e1]) (by rw [y2, e2])
  rw [this] at y3
  rw [if_pos hlt]; omega
theorem rt_b {m : Nat} {qi qj qd : Nat → Int} {fr to : Int} (h3 : 0 ≤ to ∧ to ≤ 168) (hq : ¬ InQ m qi qj (2 * (to % 13)) (2 * (to / 13))) {L : Int → Int} (I2 : LI m qi qj qd fr L) : (if L to < 1000 then L to else -1) = -1 := by
  rcases Classical.em (L to < 1000) with z | z
  · obtain ⟨k', hk', y1, y2, y3⟩ := I2.2 to h3.1 h3.2 z
    exact absurd ⟨k', hk', y1, y2⟩ hq
  · rw [if_neg z]
theorem i_vc_route {k : Nat} {u : SX} {v : SY} (I : i_Rel k u v) (hk : k + 5 ≤ 2560) (v1 : Int32) (v2 : Int32) (v3 : Int32) : wpX_route (fun r u' => wpY_route (fun r' v' => r' = r ∧ i_Rel (k + 5) u' v') v v1 v2 v3) u v1 v2 v3 := by
  obtain ⟨c, rc, gc, lr, rk, a, cx, cy, re, st, dg⟩ := u
  obtain ⟨c', ly, fi, ma, se, px, py, la⟩ := v
  obtain ⟨S, n, X, Y, P, Q, C, T, rfl, rfl⟩ := I
  obtain ⟨l, hl, rfl⟩ := zi_ex v1
  obtain ⟨fr, hf, rfl⟩ := zi_ex v2
  obtain ⟨to, ht, rfl⟩ := zi_ex v3
  have R0 : i_Rel (k + 5) (zI n, rc, gc, lr, rk, a, cx, cy, re, st, dg) (zI n, ly, fi, ma, se, px, py, la) := i_mk P Q C T
  have bad : ¬ ((0 ≤ l ∧ l ≤ 5) ∧ (0 ≤ fr ∧ fr ≤ 168) ∧ (0 ≤ to ∧ to ≤ 168)) → wpY_route (fun r' v' => r' = -1 ∧ i_Rel (k + 5) (zI n, rc, gc, lr, rk, a, cx, cy, re, st, dg) v') (zI n, ly, fi, ma, se, px, py, la) (zI l) (zI fr) (zI to) :=
    fun h => rt_y Q P.2 hl hf ht _ (fun h1 h2 h3 => absurd ⟨h1, h2, h3⟩ h) (fun _ => ⟨rfl, R0⟩)
  unfold wpX_route
  refine xg_layer l hl (fun h1 => b1_f ?_) (fun h1 => b0_t (bad (by omega)))
  refine zb_lt fr 0 (fun h => bad (by omega)) (fun h2 => zb_lt 168 fr (fun h => bad (by omega)) (fun h3 => zb_lt to 0 (fun h => bad (by omega)) (fun h4 => zb_le to 168 (fun h5 => ?_) (fun h => bad (by omega)))))
  clear bad R0
  have Hl : Sup (S l) := fun i j => P.2 l i j
  refine xp_as P l 1 true h1 (by omega) (fun a1 P1 => ⟨by decide, by decide, ?_⟩)
  have e6 : setl S 6 (AsF (S l) true 1) 6 = AsF (S l) true 1 := by unfold setl; rw [if_pos rfl]
  have el : ∀ s : Int, s ≤ 5 → setl S 6 (AsF (S l) true 1) s = S s := by intro s hs; unfold setl; rw [if_neg (by omega)]
  rw [zi_r13 (a := fr) (by omega), zi_d13 (a := fr) (by omega), zi_dbl, zi_dbl]
  refine xp_spread P1 (2 * (fr % 13)) (2 * (fr / 13)) (by omega) (fun m qi qj qd a2 re2 st2 S2 F hS => ⟨by decide, by decide, ?_⟩)
  rw [e6] at F
  rw [zi_r13 (a := to) (by omega), zi_d13 (a := to) (by omega), zi_dbl, zi_dbl]
  unfold wpX_spot
  have es : (zI (2 * (to / 13)) * 25) + zI (2 * (to % 13)) = zI (25 * (2 * (to / 13)) + 2 * (to % 13)) := by
    have e : zI (2 * (to / 13)) * 25 = zI (2 * (to / 13) * 25) := zi_mul _ 25
    rw [e, zi_add]; apply congrArg zI; omega
  rw [es]
  have e5 : ∀ s, s ≤ 5 → S2 s = S s := fun s hs => by rw [hS.2.1 s (by omega), el s hs]
  have R2 : ∀ la', i_Rel (k + 5) (zI n, zI m, gc, lr, rk, a2, cx, cy, re2, st2, dg) (zI n, ly, fi, ma, se, px, py, la') := fun la' => i_mk hS.1 (yp_c Q e5) (cl_c C e5) T
  refine ⟨626, rx_74 as_s F.1 hS.2.2.2 (gi := 2 * (to % 13)) (gj := 2 * (to / 13)) (by omega) (fun q hq e1 e2 => ?_) (fun hq => ?_) 626 0 (by omega) (by omega) (fun q hq => absurd hq (by omega))⟩
  · refine rt_fin Q P.2 C h1 ⟨h2, h3⟩ ⟨h4, h5⟩ F R2 (qd q / 2) (fun L I2 hL X2 => rt_a Hl ⟨h2, h3⟩ ⟨h4, h5⟩ F hq e1 e2 I2 hL X2) (fun hh => ?_)
    have gq := af_d (F.1.2.2.2.1 q hq)
    rw [e1, e2] at gq
    have hfr : S l (2 * (fr % 13)) (2 * (fr / 13)) = true := by
      cases e : AsF (S l) true 1 (2 * (fr % 13)) (2 * (fr / 13))
      · have := F.1.2.1 e; omega
      · exact (af_d e).1
    exact absurd ⟨hfr, gq.1⟩ hh
  · exact rt_fin Q P.2 C h1 ⟨h2, h3⟩ ⟨h4, h5⟩ F R2 (-1) (fun L I2 hL X2 => rt_b ⟨h4, h5⟩ hq I2) (fun _ => rfl)
