/-! countPieces, countHoles -/
section
variable {c gc lr rk : Int32} {cx cy dg : Nat → Int32}
theorem rr_2 {post : Int32 → Prop} {a re st : Nat → Int32} {m : Nat} {qi qj qd : Nat → Int} {G : Int → Int → Bool} {i0 j0 : Int} (H : Sup G) (B : BF0 G i0 j0 m qi qj qd) (A : QA m qi qj qd re st)
    (f : ∀ b : Bool, (b = true ↔ ∀ k, k < m → ¬ rim (qi k) (qj k)) → post (bI (!b))) :
    ∀ (N n : Nat), n ≤ m → 625 - n < N → (∀ k, k < n → ¬ rim (qi k) (qj k)) → wX_reachedRim_2 post c (zI m) gc lr rk a cx cy re st dg N (zI n) := by
  have hm := bf_m H B
  intro N
  induction N with
  | zero => intro n h0 h1; omega
  | succ N ih =>
    intro n h0 h1 hb
    have fin : m ≤ n → post 0 := fun hh => f true ⟨fun _ k hk => hb k (by omega), fun _ => rfl⟩
    refine zb_le 625 (n : Int) (fun h => fin (by omega)) (fun h => zb_le (m : Int) (n : Int) (fun h2 => fin (by omega)) (fun h2 => ?_))
    have v1 : vp_in (zI n) 625 := zv_in (n : Int) (by omega)
    have c1 : (zI n).toNatClampNeg = n := by rw [zi_cl (by omega), Int.toNat_natCast]
    have q := A n (by omega)
    have gd := H _ _ (B.2.2.2.1 n (by omega))
    rw [c1, q.1]
    have e4 : zI (25 * qj n + qi n) - zI (25 * qj n + qi n) / 25 * 25 = zI (qi n) := by
      rw [zi_r25 (by omega)]; apply congrArg zI; omega
    have e5 : zI (25 * qj n + qi n) / 25 = zI (qj n) := by
      rw [zi_d25 (by omega)]; apply congrArg zI; omega
    have yes : rim (qi n) (qj n) → post 1 := fun hr => f false ⟨fun z => (nomatch z), fun hh => absurd hr (hh n (by omega))⟩
    refine ⟨v1, by decide, nm_r e4 ⟨v1, by decide, nm_r e5 (zb_eq (qi n) 0 (fun q1 => yes (Or.inl q1)) (fun q1 => zb_eq (qi n) 24 (fun q2 => yes (Or.inr (Or.inl q2))) (fun q2 => zb_eq (qj n) 0 (fun q3 => yes (Or.inr (Or.inr (Or.inl q3)))) (fun q3 => zb_eq (qj n) 24 (fun q4 => yes (Or.inr (Or.inr (Or.inr q4)))) (fun q4 => nm_r (zi_1 _) ?_)))))⟩⟩
    refine ih (n + 1) (by omega) (by omega) (fun k hk => ?_)
    by_cases e3 : k = n
    · subst e3; unfold rim; omega
    · exact hb k (by omega)
/-- the state between two spreadings -/
def XC (S0 : Int → Int → Int → Bool) (R : Int → Int → Prop) (a : Nat → Int32) (S : Int → Int → Int → Bool) : Prop :=
  XP a S ∧ (∀ s, s ≠ 6 → S s = S0 s) ∧ (∀ i j, S 6 i j = true ↔ S0 6 i j = true ∧ ¬ R i j)
theorem xc_s {S0 S S' : Int → Int → Int → Bool} {R : Int → Int → Prop} {a a' re st : Nat → Int32} (h : XC S0 R a S) {m : Nat} {qi qj qd : Nat → Int} (h' : STQ S m qi qj qd a' re st S') : XC S0 (fun i j => R i j ∨ InQ m qi qj i j) a' S' := by
  refine ⟨h'.1, fun s hs => (h'.2.1 s hs).trans (h.2.1 s hs), fun i j => ?_⟩
  rw [h'.2.2.1 i j, h.2.2 i j]
  exact ⟨fun z => ⟨z.1.1, fun q => q.elim z.1.2 z.2⟩, fun z => ⟨⟨z.1, fun q => z.2 (Or.inl q)⟩, fun q => z.2 (Or.inr q)⟩⟩
theorem kp_i {S0 : Int → Int → Int → Bool} {post : Int32 → SX → Prop} {J : Int32 → Int32 → Int32 → Int32 → Int32 → Int32 → Int32 → (Nat → Int32) → (Nat → Int32) → (Nat → Int32) → (Nat → Int32) → (Nat → Int32) → (Nat → Int32) → Prop} {j : Int} (H0 : Sup (S0 6)) (hj : 0 ≤ j ∧ j ≤ 24)
    (hJ : ∀ rc a re st S R t cm hl, XC S0 R a S → CP (S0 6) R t cm hl → (∀ i' j', S0 6 i' j' = true → j' < j + 1 → R i' j') → J (zI t) (zI (j + 1)) c rc gc lr rk a cx cy re st dg) :
    ∀ (N : Nat) (i : Int) (rc : Int32) (a re st : Nat → Int32) (S : Int → Int → Int → Bool) (R : Int → Int → Prop) (t : Nat) (cm : Int → Int → Int) (hl : Nat → Bool), 0 ≤ i → i ≤ 25 → (25 - i).toNat < N → XC S0 R a S → CP (S0 6) R t cm hl → (∀ i' j', S0 6 i' j' = true → (j' < j ∨ (j' = j ∧ i' < i)) → R i' j') → wX_countPieces_20 post J (zI j) N (zI t) (zI i) c rc gc lr rk a cx cy re st dg := by
  intro N
  induction N with
  | zero => intro i rc a re st S R t cm hl h0 h1; omega
  | succ N ih =>
    intro i rc a re st S R t cm hl h0 h1 h2 hX hC hE
    refine zb_le 25 i (fun h => nm_r (zi_1 j) (hJ rc a re st S R t cm hl hX hC (fun i' j' hg hlt => hE i' j' hg ?_))) (fun h => ?_)
    · have gd := H0 i' j' hg
      omega
    · refine xp_has hX.1 6 i j (by omega) (by omega) (by omega) (bb_0 (fun e => nm_r (zi_1 i) ?_) (fun e => ?_))
      · refine ih (i + 1) rc a re st S R t cm hl (by omega) (by omega) (by omega) hX hC (fun i' j' hg hlt => ?_)
        by_cases e2 : i' = i ∧ j' = j
        · obtain ⟨rfl, rfl⟩ := e2
          rcases Classical.em (R i' j') with r | r
          · exact r
          · rw [(hX.2.2 i' j').mpr ⟨hg, r⟩] at e; exact absurd e (by decide)
        · exact hE i' j' hg (by omega)
      · refine xp_spread hX.1 i j (by omega) (fun m qi qj qd a' re' st' S' F hS => nm_r (zi_1 _) (nm_r (zi_1 i) ?_))
        have hC' := cp_add (b := @decide (∀ k, k < m → ¬ rim (qi k) (qj k)) (Classical.propDecidable _)) hC hX.2.2 F e (@decide_eq_true_iff _ (Classical.propDecidable _))
        refine ih (i + 1) _ a' re' st' S' _ (t + 1) _ _ (by omega) (by omega) (by omega) (xc_s hX hS) hC' (fun i' j' hg hlt => ?_)
        by_cases e2 : i' = i ∧ j' = j
        · obtain ⟨rfl, rfl⟩ := e2
          have hm := F.1.1 e
          obtain ⟨b1, b2, -⟩ := F.1.2.2.1 hm
          exact Or.inr ⟨0, hm, b1, b2⟩
        · exact Or.inl (hE i' j' hg (by omega))
theorem kp_o {S0 : Int → Int → Int → Bool} {post : Int32 → SX → Prop} (H0 : Sup (S0 6))
    (f : ∀ rc a re st S t cm hl, XP a S → (∀ s, s ≠ 6 → S s = S0 s) → CPF (S0 6) t cm hl → post (zI t) (c, rc, gc, lr, rk, a, cx, cy, re, st, dg)) :
    ∀ (N : Nat) (j : Int) (rc : Int32) (a re st : Nat → Int32) (S : Int → Int → Int → Bool) (R : Int → Int → Prop) (t : Nat) (cm : Int → Int → Int) (hl : Nat → Bool), 0 ≤ j → j ≤ 25 → (25 - j).toNat < N → XC S0 R a S → CP (S0 6) R t cm hl → (∀ i' j', S0 6 i' j' = true → j' < j → R i' j') → wX_countPieces_11 post N (zI t) (zI j) c rc gc lr rk a cx cy re st dg := by
  intro N
  induction N with
  | zero => intro i rc a re st S R t cm hl h0 h1; omega
  | succ N ih =>
    intro j rc a re st S R t cm hl h0 h1 h2 hX hC hE
    refine zb_le 25 j (fun h => f rc a re st S t cm hl hX.1 hX.2.1 (cp_fin hC (fun i' j' hg => hE i' j' hg (by have := H0 i' j' hg; omega)))) (fun h => ⟨26, ?_⟩)
    exact kp_i H0 (by omega) (fun rc a re st S R t cm hl hX hC hE => ih (j + 1) rc a re st S R t cm hl (by omega) (by omega) (by omega) hX hC hE) 26 0 rc a re st S R t cm hl (by omega) (by omega) (by omega) hX hC (fun i' j' hg hlt => hE i' j' hg (by have := H0 i' j' hg; omega))
theorem kh_i {S0 : Int → Int → Int → Bool} {post : Int32 → SX → Prop} {J : Int32 → Int32 → Int32 → Int32 → Int32 → Int32 → Int32 → (Nat → Int32) → (Nat → Int32) → (Nat → Int32) → (Nat → Int32) → (Nat → Int32) → (Nat → Int32) → Prop} {j : Int} (H0 : Sup (S0 6)) (hj : 0 ≤ j ∧ j ≤ 24)
    (hJ : ∀ rc a re st S R t cm hl, XC S0 R a S → CP (S0 6) R t cm hl → (∀ i' j', S0 6 i' j' = true → j' < j + 1 → R i' j') → J (zI (cnt hl t)) (zI (j + 1)) c rc gc lr rk a cx cy re st dg) :
    ∀ (N : Nat) (i : Int) (rc : Int32) (a re st : Nat → Int32) (S : Int → Int → Int → Bool) (R : Int → Int → Prop) (t : Nat) (cm : Int → Int → Int) (hl : Nat → Bool), 0 ≤ i → i ≤ 25 → (25 - i).toNat < N → XC S0 R a S → CP (S0 6) R t cm hl → (∀ i' j', S0 6 i' j' = true → (j' < j ∨ (j' = j ∧ i' < i)) → R i' j') → wX_countHoles_20 post J (zI j) N (zI (cnt hl t)) (zI i) c rc gc lr rk a cx cy re st dg := by
  intro N
  induction N with
  | zero => intro i rc a re st S R t cm hl h0 h1; omega
  | succ N ih =>
    intro i rc a re st S R t cm hl h0 h1 h2 hX hC hE
    refine zb_le 25 i (fun h => nm_r (zi_1 j) (hJ rc a re st S R t cm hl hX hC (fun i' j' hg hlt => hE i' j' hg ?_))) (fun h => ?_)
    · have gd := H0 i' j' hg
      omega
    · refine xp_has hX.1 6 i j (by omega) (by omega) (by omega) (bb_0 (fun e => nm_r (zi_1 i) ?_) (fun e => ?_))
      · refine ih (i + 1) rc a re st S R t cm hl (by omega) (by omega) (by omega) hX hC (fun i' j' hg hlt => ?_)
        by_cases e2 : i' = i ∧ j' = j
        · obtain ⟨rfl, rfl⟩ := e2
          rcases Classical.em (R i' j') with r | r
          · exact r
          · rw [(hX.2.2 i' j').mpr ⟨hg, r⟩] at e; exact absurd e (by decide)
        · exact hE i' j' hg (by omega)
      · refine xp_spread hX.1 i j (by omega) (fun m qi qj qd a' re' st' S' F hS => ?_)
        unfold wpX_reachedRim
        refine ⟨626, rr_2 (fun i j => hX.1.2 6 i j) F.1 hS.2.2.2 (fun b hb => ?_) 626 0 (by omega) (by omega) (fun k hk => absurd hk (by omega))⟩
        have hC' := cp_add hC hX.2.2 F e hb
        have go : ∀ z : Int, z = cnt hl t + bZ b → wX_countHoles_20 post J (zI j) N (zI z) (zI (i + 1)) c (zI m) gc lr rk a' cx cy re' st' dg := by
          intro z ez
          have e3 : z = cnt (fun κ => if κ = t then b else hl κ) (t + 1) := by
            rw [cn_s, ez]
            have e4 : cnt (fun κ => if κ = t then b else hl κ) t = cnt hl t := cn_eq (fun k hk => if_neg (by omega))
            have e5 : (if t = t then b else hl t) = b := if_pos rfl
            rw [e4, e5]
            cases b <;> simp [bN, bZ]
          rw [e3]
          refine ih (i + 1) _ a' re' st' S' _ (t + 1) _ _ (by omega) (by omega) (by omega) (xc_s hX hS) hC' (fun i' j' hg hlt => ?_)
          by_cases e2 : i' = i ∧ j' = j
          · obtain ⟨rfl, rfl⟩ := e2
            have hm := F.1.1 e
            obtain ⟨b1, b2, -⟩ := F.1.2.2.1 hm
            exact Or.inr ⟨0, hm, b1, b2⟩
          · exact Or.inl (hE i' j' hg (by omega))
        refine bb_0 (fun eb => nm_r (zi_1 _) (nm_r (zi_1 i) (go _ ?_))) (fun eb => nm_r (zi_add _ 0) (nm_r (zi_1 i) (go _ ?_)))
        · have : b = true := by cases b <;> first | rfl | exact absurd eb (by decide)
          rw [this]; rfl
        · have : b = false := by cases b <;> first | rfl | exact absurd eb (by decide)
          rw [this]; rfl
theorem kh_o {S0 : Int → Int → Int → Bool} {post : Int32 → SX → Prop} (H0 : Sup (S0 6))
    (f : ∀ rc a re st S t cm hl, XP a S → (∀ s, s ≠ 6 → S s = S0 s) → CPF (S0 6) t cm hl → post (zI (cnt hl t)) (c, rc, gc, lr, rk, a, cx, cy, re, st, dg)) :
    ∀ (N : Nat) (j : Int) (rc : Int32) (a re st : Nat → Int32) (S : Int → Int → Int → Bool) (R : Int → Int → Prop) (t : Nat) (cm : Int → Int → Int) (hl : Nat → Bool), 0 ≤ j → j ≤ 25 → (25 - j).toNat < N → XC S0 R a S → CP (S0 6) R t cm hl → (∀ i' j', S0 6 i' j' = true → j' < j → R i' j') → wX_countHoles_11 post N (zI (cnt hl t)) (zI j) c rc gc lr rk a cx cy re st dg := by
  intro N
  induction N with
  | zero => intro i rc a re st S R t cm hl h0 h1; omega
  | succ N ih =>
    intro j rc a re st S R t cm hl h0 h1 h2 hX hC hE
    refine zb_le 25 j (fun h => f rc a re st S t cm hl hX.1 hX.2.1 (cp_fin hC (fun i' j' hg => hE i' j' hg (by have := H0 i' j' hg; omega)))) (fun h => ⟨26, ?_⟩)
    exact kh_i H0 (by omega) (fun rc a re st S R t cm hl hX hC hE => ih (j + 1) rc a re st S R t cm hl (by omega) (by omega) (by omega) hX hC hE) 26 0 rc a re st S R t cm hl (by omega) (by omega) (by omega) hX hC (fun i' j' hg hlt => hE i' j' hg (by have := H0 i' j' hg; omega))
theorem xp_pieces {post : Int32 → SX → Prop} {rc : Int32} {a re st : Nat → Int32} {S : Int → Int → Int → Bool} (P : XP a S) {l : Int} (hl : 0 ≤ l ∧ l ≤ 5)
    (f : ∀ rc a re st S' t cm hl, XP a S' → (∀ s, s ≤ 5 → S' s = S s) → CPF (AsF (S l) true 2) t cm hl → post (zI t) (c, rc, gc, lr, rk, a, cx, cy, re, st, dg)) : wpX_countPieces post (c, rc, gc, lr, rk, a, cx, cy, re, st, dg) (zI l) := by
  unfold wpX_countPieces
  have e6 : setl S 6 (AsF (S l) true 2) 6 = AsF (S l) true 2 := by unfold setl; rw [if_pos rfl]
  have el : ∀ s : Int, s ≤ 5 → setl S 6 (AsF (S l) true 2) s = S s := by intro s hs; unfold setl; rw [if_neg (by omega)]
  refine xp_as P l 2 true hl (by omega) (fun a1 P1 => ⟨26, ?_⟩)
  refine kp_o (S0 := setl S 6 (AsF (S l) true 2)) (fun i j => P1.2 6 i j) (fun rc a re st S' t cm hl P' h' C' => f rc a re st S' t cm hl P' (fun s hs => by rw [h' s (by omega), el s hs]) (by rw [e6] at C'; exact C')) 26 0 rc a1 re st _ (fun _ _ => False) 0 (fun _ _ => 0) (fun _ => false) (by omega) (by omega) (by omega) ⟨P1, fun _ _ => rfl, fun i j => ⟨fun h => ⟨h, fun h => h⟩, fun h => h.1⟩⟩ cp_0 (fun i' j' hg hlt => ?_)
  have := P1.2 6 i' j' hg; omega
theorem xp_holes {post : Int32 → SX → Prop} {rc : Int32} {a re st : Nat → Int32} {S : Int → Int → Int → Bool} (P : XP a S) {l : Int} (hl : 0 ≤ l ∧ l ≤ 5)
    (f : ∀ rc a re st S' t cm hl, XP a S' → (∀ s, s ≤ 5 → S' s = S s) → CPF (AsF (S l) false 2) t cm hl → post (zI (cnt hl t)) (c, rc, gc, lr, rk, a, cx, cy, re, st, dg)) : wpX_countHoles post (c, rc, gc, lr, rk, a, cx, cy, re, st, dg) (zI l) := by
  unfold wpX_countHoles
  have e6 : setl S 6 (AsF (S l) false 2) 6 = AsF (S l) false 2 := by unfold setl; rw [if_pos rfl]
  have el : ∀ s : Int, s ≤ 5 → setl S 6 (AsF (S l) false 2) s = S s := by intro s hs; unfold setl; rw [if_neg (by omega)]
  refine xp_as P l 2 false hl (by omega) (fun a1 P1 => ⟨26, ?_⟩)
  refine kh_o (S0 := setl S 6 (AsF (S l) false 2)) (fun i j => P1.2 6 i j) (fun rc a re st S' t cm hl P' h' C' => f rc a re st S' t cm hl P' (fun s hs => by rw [h' s (by omega), el s hs]) (by rw [e6] at C'; exact C')) 26 0 rc a1 re st _ (fun _ _ => False) 0 (fun _ _ => 0) (fun _ => false) (by omega) (by omega) (by omega) ⟨P1, fun _ _ => rfl, fun i j => ⟨fun h => ⟨h, fun h => h⟩, fun h => h.1⟩⟩ cp_0 (fun i' j' hg hlt => ?_)
  have := P1.2 6 i' j' hg; omega
end
section
variable {c : Int32} {fi ly ma se px py la : Nat → Int32}
theorem yp_cpc {post : Int32 → Prop} {L : Int → Int} (A : LB la L) (f : post (zI (cnt (fun n => decide (L n = n)) 625))) : wpY_countPieces post (c, ly, fi, ma, se, px, py, la) := by
  have key : ∀ (N n : Nat), n ≤ 625 → 625 - n < N → wY_countPieces_4 post c ly fi ma se px py la N (zI (cnt (fun n => decide (L n = n)) n)) (zI n) := by
    intro N
    induction N with
    | zero => intro n h0 h1; omega
    | succ N ih =>
      intro n h0 h1
      refine zb_le 625 (n : Int) (fun h => ?_) (fun h => ⟨zv_in (n : Int) (by omega), ?_⟩)
      · have : n = 625 := by omega
        rw [this]; exact f
      · have an := A n (by omega) (by omega)
        have w := ih (n + 1) (by omega) (by omega)
        rw [cn_s] at w
        rw [zi_cl (by omega), an.1]
        refine zb_eq (L n) n (fun q => nm_r (zi_1 _) (nm_r (zi_1 _) ?_)) (fun q => nm_r (zi_1 _) ?_)
        · have : decide (L (n : Int) = (n : Int)) = true := by rw [decide_eq_true_eq]; exact q
          rw [this] at w; exact w
        · have : decide (L (n : Int) = (n : Int)) = false := by rw [decide_eq_false_iff_not]; exact q
          rw [this] at w; exact w
  unfold wpY_countPieces
  exact ⟨626, key 626 0 (by omega) (by omega)⟩
theorem yh_30 {post : Int32 → Prop} {J : Int32 → Int32 → Prop} {L : Int → Int} (A : LB la L) {k : Int} {n : Int} (hn : 0 ≤ n ∧ n ≤ 624)
    (hJ : ∀ b : Bool, (b = true ↔ L n = n ∧ ∀ m, 0 ≤ m → m ≤ 624 → L m = n → ¬ rim (m / 25) (m % 25)) → J (zI (k + bZ b)) (zI (n + 1))) :
    ∀ (N : Nat) (m : Int) (b : Bool), 0 ≤ m → m ≤ 625 → (625 - m).toNat < N → (b = true ↔ L n = n ∧ ∀ m', 0 ≤ m' → m' < m → L m' = n → ¬ rim (m' / 25) (m' % 25)) → wY_countHoles_30 post J (zI k) (zI n) c ly fi ma se px py la N (bI b) (zI m) := by
  intro N
  induction N with
  | zero => intro m b h0 h1; omega
  | succ N ih =>
    intro m b h0 h1 h2 hb
    have k99 : ∀ b : Bool, (b = true ↔ L n = n ∧ ∀ m, 0 ≤ m → m ≤ 624 → L m = n → ¬ rim (m / 25) (m % 25)) → wY_countHoles_99 post J (zI k) (zI n) (bI b) c ly fi ma se px py la := by
      intro b hb
      have := hJ b hb
      refine bb_0 (fun e => nm_r (zi_1 n) ?_) (fun e => nm_r (zi_1 k) (nm_r (zi_1 n) ?_))
      · rw [e] at this; simpa [bZ] using this
      · rw [e] at this; exact this
    refine zb_le 625 m (fun h => k99 b (hb.trans ⟨fun z => ⟨z.1, fun m' a1 a2 => z.2 m' a1 (by omega)⟩, fun z => ⟨z.1, fun m' a1 a2 => z.2 m' a1 (by omega)⟩⟩)) (fun h => bb_0 (fun e => ?_) (fun e => ?_))
    · refine k99 b ⟨fun z => by rw [e] at z; exact absurd z (by decide), fun z => ?_⟩
      exact hb.mpr ⟨z.1, fun m' a1 a2 => z.2 m' a1 (by omega)⟩
    · have am := A m (by omega) (by omega)
      refine ⟨by decide, nm_r (zi_d25 (by omega)) ⟨by decide, nm_r (zi_r25 (by omega)) ⟨zv_in m (by omega), ?_⟩⟩⟩
      rw [zi_cl (by omega), am.1]
      have keep : (L m = n → ¬ rim (m / 25) (m % 25)) → wY_countHoles_30 post J (zI k) (zI n) c ly fi ma se px py la N (bI b) (zI (m + 1)) := by
        intro hh
        refine ih (m + 1) b (by omega) (by omega) (by omega) (hb.trans ⟨fun z => ⟨z.1, fun m' a1 a2 => ?_⟩, fun z => ⟨z.1, fun m' a1 a2 => z.2 m' a1 (by omega)⟩⟩)
        by_cases e2 : m' = m
        · rw [e2]; exact hh
        · exact z.2 m' a1 (by omega)
      have drop : L m = n → rim (m / 25) (m % 25) → wY_countHoles_30 post J (zI k) (zI n) c ly fi ma se px py la N 0 (zI (m + 1)) := by
        intro h1 h2
        exact ih (m + 1) false (by omega) (by omega) (by omega) ⟨fun z => (nomatch z), fun z => absurd h2 (z.2 m h0 (by omega) h1)⟩
      refine zb_eq (L m) n (fun q => zb_eq (m / 25) 0 (fun q1 => nm_r (zi_1 m) (drop q (Or.inl q1))) (fun q1 => zb_eq (m / 25) 24 (fun q2 => nm_r (zi_1 m) (drop q (Or.inr (Or.inl q2)))) (fun q2 => zb_eq (m % 25) 0 (fun q3 => nm_r (zi_1 m) (drop q (Or.inr (Or.inr (Or.inl q3))))) (fun q3 => zb_eq (m % 25) 24 (fun q4 => nm_r (zi_1 m) (drop q (Or.inr (Or.inr (Or.inr q4))))) (fun q4 => nm_r (zi_1 m) (keep (fun _ => ?_))))))) (fun q => nm_r (zi_1 m) (keep (fun z => absurd z q)))
      unfold rim; omega
theorem yp_chl {post : Int32 → Prop} {L : Int → Int} (A : LB la L) (f : post (zI (cnt (hB L) 625))) : wpY_countHoles post (c, ly, fi, ma, se, px, py, la) := by
  have key : ∀ (N n : Nat), n ≤ 625 → 625 - n < N → wY_countHoles_4 post c ly fi ma se px py la N (zI (cnt (hB L) n)) (zI n) := by
    intro N
    induction N with
    | zero => intro n h0 h1; omega
    | succ N ih =>
      intro n h0 h1
      refine zb_le 625 (n : Int) (fun h => ?_) (fun h => ⟨zv_in (n : Int) (by omega), ?_⟩)
      · have : n = 625 := by omega
        rw [this]; exact f
      · have an := A n (by omega) (by omega)
        have w := ih (n + 1) (by omega) (by omega)
        rw [cn_s] at w
        rw [zi_cl (by omega), an.1]
        have go : ∀ b : Bool, (b = true ↔ L n = n) → ∃ n30, wY_countHoles_30 post (wY_countHoles_4 post c ly fi ma se px py la N) (zI (cnt (hB L) n)) (zI n) c ly fi ma se px py la n30 (bI b) 0 := by
          intro b hb
          refine ⟨626, yh_30 A (by omega) (fun b' hb' => ?_) 626 0 b (by omega) (by omega) (by omega) (hb.trans ⟨fun z => ⟨z, fun m' a1 a2 => absurd a2 (by omega)⟩, fun z => z.1⟩)⟩
          have e : hB L n = b' := be (hB_i.trans hb'.symm)
          rw [e] at w
          have e2 : ((cnt (hB L) n + bN b' : Nat) : Int) = (cnt (hB L) n : Int) + bZ b' := by cases b' <;> simp [bN, bZ]
          rw [e2] at w; exact w
        refine zb_eq (L n) n (fun q => go true ⟨fun _ => q, fun _ => rfl⟩) (fun q => go false ⟨fun z => (nomatch z), fun z => absurd z q⟩)
  unfold wpY_countHoles
  exact ⟨626, key 626 0 (by omega) (by omega)⟩
end
