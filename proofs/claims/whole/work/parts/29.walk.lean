/-! X walks the rings -/
noncomputable def cR (g : Int → Int → Bool) (R : Int → Prop) : Nat := cnt (fun n => @decide (R n ∧ eN g n ≠ dN g n) (Classical.propDecidable _)) 625
theorem cr_add {g : Int → Int → Bool} {R R' : Int → Prop} {x : Int} (hx : 0 ≤ x ∧ x ≤ 624) (hR : ¬ R x) (h : ∀ n, R' n ↔ R n ∨ n = x) : (cR g R' : Int) = cR g R + (if eN g x = dN g x then 0 else 1) := by
  have ex : ((x.toNat : Nat) : Int) = x := by omega
  unfold cR
  by_cases e : eN g x = dN g x
  · rw [if_pos e, Int.add_zero]
    congr 1
    refine cn_eq (fun k hk => ?_)
    refine be ?_
    rw [@decide_eq_true_iff _ (Classical.propDecidable _), @decide_eq_true_iff _ (Classical.propDecidable _), h]
    constructor
    · rintro ⟨h1 | h1, h2⟩
      · exact ⟨h1, h2⟩
      · rw [h1] at h2; exact absurd e h2
    · rintro ⟨h1, h2⟩; exact ⟨Or.inl h1, h2⟩
  · rw [if_neg e]
    have := cn_add (P := fun n : Nat => @decide (R n ∧ eN g n ≠ dN g n) (Classical.propDecidable _)) (Q := fun n : Nat => @decide (R' n ∧ eN g n ≠ dN g n) (Classical.propDecidable _)) (a := x.toNat) (N := 625) (by
      show @decide (R (x.toNat : Int) ∧ eN g (x.toNat : Int) ≠ dN g (x.toNat : Int)) (Classical.propDecidable _) = false
      rw [@decide_eq_false_iff_not _ (Classical.propDecidable _), ex]
      exact fun z => hR z.1) (by
      show @decide (R' (x.toNat : Int) ∧ eN g (x.toNat : Int) ≠ dN g (x.toNat : Int)) (Classical.propDecidable _) = true
      rw [@decide_eq_true_iff _ (Classical.propDecidable _), ex]
      exact ⟨(h x).mpr (Or.inr rfl), e⟩) (fun k hk hne => be (by
      show @decide (R (k : Int) ∧ eN g (k : Int) ≠ dN g (k : Int)) (Classical.propDecidable _) = true ↔ @decide (R' (k : Int) ∧ eN g (k : Int) ≠ dN g (k : Int)) (Classical.propDecidable _) = true
      rw [@decide_eq_true_iff _ (Classical.propDecidable _), @decide_eq_true_iff _ (Classical.propDecidable _), h]
      exact ⟨fun z => ⟨Or.inl z.1, z.2⟩, fun z => ⟨z.1.elim id (fun q => absurd q (by omega)), z.2⟩⟩)) (by omega)
    rw [this]; omega
theorem be_s {g : Int → Int → Bool} : Sup (BE g) := by
  intro i j h
  unfold BE at h
  rw [decide_eq_true_eq] at h
  exact h.1
section
variable {c rc gc lr : Int32} {cx cy re st dg : Nat → Int32} {S : Int → Int → Int → Bool}
theorem ba_i {rk : Int32} {post : SX → Prop} {J : Int32 → Int32 → Int32 → Int32 → Int32 → Int32 → (Nat → Int32) → (Nat → Int32) → (Nat → Int32) → (Nat → Int32) → (Nat → Int32) → (Nat → Int32) → Prop} {l j : Int} (hl : 0 ≤ l ∧ l ≤ 5) (hj : 0 ≤ j ∧ j ≤ 24)
    (hJ : ∀ a', XP a' (swp S 6 (BE (S l)) 0 (j + 1)) → J (zI (j + 1)) c rc gc lr rk a' cx cy re st dg) :
    ∀ (N : Nat) (i : Int) (a : Nat → Int32), 0 ≤ i → i ≤ 25 → (25 - i).toNat < N → XP a (swp S 6 (BE (S l)) i j) → wX_setBoundaryEdgesAside_10 post J (zI l) (zI j) N (zI i) c rc gc lr rk a cx cy re st dg := by
  intro N
  induction N with
  | zero => intro i a h0 h1; omega
  | succ N ih =>
    intro i a h0 h1 h2 P
    refine zb_le 25 i (fun h => ?_) (fun h => ?_)
    · have e : i = 25 := by omega
      subst e; exact nm_r (zi_1 j) (hJ a (px_c P sw_r))
    · have w41 : ∀ b : Bool, b = BE (S l) i j → wX_setBoundaryEdgesAside_41 post J (wX_setBoundaryEdgesAside_10 post J (zI l) (zI j) N) (zI l) (zI j) (zI i) (bI b) c rc gc lr rk a cx cy re st dg := by
        intro b eb
        unfold wX_setBoundaryEdgesAside_41
        refine xp_write P 6 i j b (by omega) (by omega) (fun a' P' => nm_r (zi_1 i) (ih (i + 1) a' (by omega) (by omega) (by omega) ?_))
        rw [eb] at P'
        exact px_c P' (sw_w (by omega))
      have cr := cc_r (S l) i j
      refine xp_dim i j (by omega) (by omega) (zb_eq (i % 2 + j % 2) 1 (fun q => xp_cells P l i j (by omega) (by omega) ?_) (fun q => w41 false ?_))
      · rw [sw_o (by omega)]
        refine zb_eq (cc (S l) i j) 1 (fun q2 => w41 true ?_) (fun q2 => w41 false ?_)
        · unfold BE; symm; rw [decide_eq_true_eq]; exact ⟨by omega, q, q2⟩
        · unfold BE; symm; rw [decide_eq_false_iff_not]; exact fun z => q2 z.2.2
      · unfold BE; symm; rw [decide_eq_false_iff_not]; exact fun z => q z.2.1
theorem xp_ba {rk : Int32} {post : SX → Prop} {a : Nat → Int32} (P : XP a S) {l : Int} (hl : 0 ≤ l ∧ l ≤ 5)
    (f : ∀ a', XP a' (setl S 6 (BE (S l))) → post (c, rc, gc, lr, rk, a', cx, cy, re, st, dg)) : wpX_setBoundaryEdgesAside post (c, rc, gc, lr, rk, a, cx, cy, re, st, dg) (zI l) := by
  have key : ∀ (N : Nat) (j : Int) (a : Nat → Int32), 0 ≤ j → j ≤ 25 → (25 - j).toNat < N → XP a (swp S 6 (BE (S l)) 0 j) → wX_setBoundaryEdgesAside_2 post (zI l) N (zI j) c rc gc lr rk a cx cy re st dg := by
    intro N
    induction N with
    | zero => intro i a h0 h1; omega
    | succ N ih =>
      intro j a h0 h1 h2 P'
      refine zb_le 25 j (fun h => ?_) (fun h => ⟨26, ba_i hl (by omega) (fun a' P' => ih (j + 1) a' (by omega) (by omega) (by omega) P') 26 0 a (by omega) (by omega) (by omega) P'⟩)
      have e : j = 25 := by omega
      subst e
      exact f a (sw_set P.2 be_s P')
  unfold wpX_setBoundaryEdgesAside
  exact ⟨26, key 26 0 a (by omega) (by omega) (by omega) (px_c P sw_0)⟩
theorem zi_r4 {a : Int} (h : 0 ≤ a ∧ a < 2147483648) : zI a - zI a / 4 * 4 = zI (a % 4) := zi_rem (d := 4) h (by omega)
theorem xp_after {rk : Int32} {post : Int32 → Prop} {a : Nat → Int32} (P : XP a S) {l i j d : Int} (hl : 0 ≤ l ∧ l ≤ 6) (hg : Gd i j) (hd : 0 ≤ d ∧ d ≤ 3) (f : post (zI (nD (S l) i j d))) : wpX_directionAfter post (c, rc, gc, lr, rk, a, cx, cy, re, st, dg) (zI l) (zI i) (zI j) (zI d) := by
  have e5 : (zI d + 1) - (zI d + 1) / 4 * 4 = zI ((d + 1) % 4) := by rw [zi_1]; exact zi_r4 (by omega)
  have e6 : (zI d + 3) - (zI d + 3) / 4 * 4 = zI ((d + 3) % 4) := by
    have e : zI d + 3 = zI (d + 3) := zi_add d 3
    rw [e]; exact zi_r4 (by omega)
  have ea : ∀ p x y : Int, (zI p + (2 * zI x)) + zI y = zI (p + 2 * x + y) := fun p x y => by rw [zi_dbl, zi_add, zi_add]
  have b1 := ea_r d
  have b2 := no_r d
  have b3 := ea_r ((d + 1) % 4)
  have b4 := no_r ((d + 1) % 4)
  have b5 := ea_r ((d + 3) % 4)
  have b6 := no_r ((d + 3) % 4)
  unfold nD at f
  unfold wpX_directionAfter
  refine ⟨by decide, nm_r e5 ⟨by decide, nm_r e6 ?_⟩⟩
  refine xp_east d (by omega) (xp_east _ (by omega) (nm_r (ea _ _ _) ?_))
  refine xp_north d (by omega) (xp_north _ (by omega) (nm_r (ea _ _ _) ?_))
  refine xp_has P l _ _ hl (by omega) (by omega) (bb_0 (fun e => ?_) (fun e => ?_))
  · rw [if_pos e] at f; exact f
  · rw [if_neg (by rw [e]; decide)] at f
    refine xp_east d (by omega) (xp_east _ (by omega) (nm_r (ea _ _ _) ?_))
    refine xp_north d (by omega) (xp_north _ (by omega) (nm_r (ea _ _ _) ?_))
    refine xp_has P l _ _ hl (by omega) (by omega) (bb_0 (fun e2 => ?_) (fun e2 => ?_))
    · rw [if_neg (by rw [e2]; decide)] at f; exact f
    · rw [if_pos e2] at f; exact f
/-- the state while a ring is walked: the edges of R and of the way are taken -/
def WS (S0 : Int → Int → Int → Bool) (l : Int) (R : Int → Prop) (a : Nat → Int32) (S : Int → Int → Int → Bool) : Prop :=
  XP a S ∧ (∀ s, s ≠ 6 → S s = S0 s) ∧ (∀ i j, Gd i j → (S 6 i j = true ↔ BE (S0 l) i j = true ∧ ¬ R (25 * i + j)))
theorem it_len {g : Int → Int → Bool} (H : Sup g) {e : Int} (he : Bn g e) {q : Nat} (en : ∀ s, 0 < s → s < q → itf g s e ≠ e) : q < 625 := by
  have nz : ∀ s, itf g s e ≠ 0 := by
    intro s hz
    have b := it_b H he s
    rw [hz] at b
    have o := bn_o b
    unfold OB at o
    omega
  have key : q + 1 ≤ 625 := by
    refine ph (fun s => if s = q then 0 else (itf g s e).toNat) (fun s hs => ?_) (fun s s' hs hs' h => ?_)
    · show (if s = q then 0 else (itf g s e).toNat) < 625
      have := (it_b H he s).1
      split <;> omega
    · have h' : (if s = q then 0 else (itf g s e).toNat) = (if s' = q then 0 else (itf g s' e).toNat) := h
      have r1 := (it_b H he s).1
      have r2 := (it_b H he s').1
      have n1 := nz s
      have n2 := nz s'
      by_cases c1 : s = q
      · by_cases c2 : s' = q
        · omega
        · rw [if_pos c1, if_neg c2] at h'; omega
      · by_cases c2 : s' = q
        · rw [if_neg c1, if_pos c2] at h'; omega
        · rw [if_neg c1, if_neg c2] at h'
          have eq : itf g s e = itf g s' e := by omega
          rcases Nat.lt_trichotomy s s' with z | z | z
          · exfalso
            have e1 : s' = s + (s' - s) := by omega
            rw [e1, it_a] at eq
            exact en (s' - s) (by omega) (by omega) (it_i H (it_b H he _) he s eq.symm)
          · exact z
          · exfalso
            have e1 : s = s' + (s - s') := by omega
            rw [e1, it_a] at eq
            exact en (s - s') (by omega) (by omega) (it_i H (it_b H he _) he s' eq)
  omega
theorem wr_30 {S0 : Int → Int → Int → Bool} {post : Int32 → SX → Prop} {l : Int} (hl : 0 ≤ l ∧ l ≤ 5) (H : Sup (S0 l)) {R : Int → Prop} {t : Nat} {cm : Int → Int} {len : Nat → Nat} (P : RG (S0 l) R t cm len) {e : Int} (he : Bn (S0 l) e) (hR : ¬ R e)
    (f : ∀ q a S, 1 ≤ q → q < 625 → itf (S0 l) q e = e → (∀ s, 0 < s → s < q → itf (S0 l) s e ≠ e) → WS S0 l (fun n => R n ∨ InR (S0 l) q e n) a S → post (zI q) (c, rc, gc, lr, zI (cR (S0 l) (fun n => R n ∨ InR (S0 l) q e n)), a, cx, cy, re, st, dg)) :
    ∀ (N q : Nat) (a : Nat → Int32) (S : Int → Int → Int → Bool), 625 - q < N → (∀ s, 0 < s → s < q → itf (S0 l) s e ≠ e) → WS S0 l (fun n => R n ∨ InR (S0 l) q e n) a S → wX_walkRing_30 post (zI l) N (zI (itf (S0 l) q e / 25)) (zI (itf (S0 l) q e % 25)) (zI (dN (S0 l) (itf (S0 l) q e))) (zI q) c rc gc lr (zI (cR (S0 l) (fun n => R n ∨ InR (S0 l) q e n))) a cx cy re st dg := by
  intro N
  induction N with
  | zero =>
    intro q a S h1 en
    have := it_len H he en
    omega
  | succ N ih =>
    intro q a S h1 en hW
    have hq := it_len H he en
    have b := it_b H he q
    have bo := bn_o b
    have gd : Gd (itf (S0 l) q e / 25) (itf (S0 l) q e % 25) := ob_g H bo
    have e25 : 25 * (itf (S0 l) q e / 25) + itf (S0 l) q e % 25 = itf (S0 l) q e := by omega
    have dr := ob_r bo
    refine zb_le 625 (q : Int) (fun h => absurd h (by omega)) (fun _ => ?_)
    have h6 := hW.2.2 _ _ gd
    rw [e25] at h6
    have sl : S l = S0 l := hW.2.1 l (by omega)
    refine xp_has hW.1 6 _ _ (by omega) (by omega) (by omega) (bb_0 (fun z => ?_) (fun z => ?_))
    · -- the way has come back
      have hin : R (itf (S0 l) q e) ∨ InR (S0 l) q e (itf (S0 l) q e) := by
        rcases Classical.em (R (itf (S0 l) q e) ∨ InR (S0 l) q e (itf (S0 l) q e)) with y | y
        · exact y
        · rw [h6.mpr ⟨b.2, y⟩] at z; exact absurd z (by decide)
      rcases hin with y | ⟨s, hs, y⟩
      · exact absurd (rg_p H P he q y) hR
      · have s0 : s = 0 := by
          rcases Nat.eq_zero_or_pos s with w | w
          · exact w
          · exfalso
            have e1 : q = s + (q - s) := by omega
            have y2 := y
            rw [e1, it_a] at y2
            exact en (q - s) (by omega) (by omega) (it_i H (it_b H he _) he s y2.symm)
        subst s0
        exact f q a S (by omega) hq y.symm en hW
    · have nin := (h6.mp z).2
      have n0 : ∀ s, 0 < s → s < q + 1 → itf (S0 l) s e ≠ e := by
        intro s s0 s1 hs
        by_cases w : s = q
        · subst w
          exact nin (Or.inr ⟨0, s0, hs.symm⟩)
        · exact en s s0 (by omega) hs
      refine xp_write hW.1 6 _ _ false (by omega) gd (fun a' P' => nm_r (zi_1 _) ?_)
      have sl' : sto S 6 (itf (S0 l) q e / 25) (itf (S0 l) q e % 25) false l = S0 l := by
        rw [← sl]; funext i j; unfold sto; rw [if_neg (fun w => by omega)]
      have hI : ∀ n, (R n ∨ InR (S0 l) (q + 1) e n) ↔ (R n ∨ InR (S0 l) q e n) ∨ n = itf (S0 l) q e := by
        intro n
        constructor
        · rintro (w | ⟨s, hs, w⟩)
          · exact Or.inl (Or.inl w)
          · by_cases w2 : s = q
            · subst w2; exact Or.inr w.symm
            · exact Or.inl (Or.inr ⟨s, by omega, w⟩)
        · rintro ((w | ⟨s, hs, w⟩) | w)
          · exact Or.inl w
          · exact Or.inr ⟨s, by omega, w⟩
          · exact Or.inr ⟨q, by omega, w.symm⟩
      have hW' : WS S0 l (fun n => R n ∨ InR (S0 l) (q + 1) e n) a' (sto S 6 (itf (S0 l) q e / 25) (itf (S0 l) q e % 25) false) := by
        refine ⟨P', fun s hs => ?_, fun i j gij => ?_⟩
        · rw [← hW.2.1 s hs]; funext i j; unfold sto; rw [if_neg (fun w => hs w.1)]
        · unfold sto
          by_cases w : (6 : Int) = 6 ∧ i = itf (S0 l) q e / 25 ∧ j = itf (S0 l) q e % 25
          · rw [if_pos w]
            refine ⟨fun y => (nomatch y), fun y => absurd ((hI _).mpr (Or.inr ?_)) y.2⟩
            rw [w.2.1, w.2.2]; exact e25
          · rw [if_neg w, hW.2.2 i j gij]
            refine ⟨fun y => ⟨y.1, fun y2 => ?_⟩, fun y => ⟨y.1, fun y2 => y.2 ((hI _).mpr (Or.inl y2))⟩⟩
            rcases (hI _).mp y2 with y3 | y3
            · exact y.2 y3
            · exact w ⟨rfl, by omega, by omega⟩
      have cadd := cr_add (g := S0 l) (R := fun n => R n ∨ InR (S0 l) q e n) (R' := fun n => R n ∨ InR (S0 l) (q + 1) e n) b.1 nin hI
      obtain ⟨fb, f1, f2, f3⟩ := fn_b H b
      have w := ih (q + 1) a' _ (by omega) n0 hW'
      have ei : itf (S0 l) (q + 1) e = fN (S0 l) (itf (S0 l) q e) := rfl
      rw [ei, f1, f2, f3, cadd] at w
      refine xp_after P' (by omega) gd dr ?_
      rw [sl']
      have go : ∀ k : Int, k = (if eN (S0 l) (itf (S0 l) q e) = dN (S0 l) (itf (S0 l) q e) then 0 else 1) → wX_walkRing_95 post (wX_walkRing_30 post (zI l) N) (zI l) (zI (itf (S0 l) q e / 25)) (zI (itf (S0 l) q e % 25)) (zI (dN (S0 l) (itf (S0 l) q e))) (zI (q + 1)) (zI (eN (S0 l) (itf (S0 l) q e))) (zI k) (zI (cR (S0 l) (fun n => R n ∨ InR (S0 l) q e n))) c rc gc lr (zI (cR (S0 l) (fun n => R n ∨ InR (S0 l) q e n))) a' cx cy re st dg := by
        intro k ek
        have er := ob_r (nx_c bo).1
        have er' : 0 ≤ eN (S0 l) (itf (S0 l) q e) ∧ eN (S0 l) (itf (S0 l) q e) ≤ 3 := er
        unfold wX_walkRing_95
        refine nm_r (zi_add _ _) (xp_east _ (by omega) (xp_east _ (by omega) ?_))
        rw [zi_add]
        refine nm_r (zi_add _ _) (xp_north _ (by omega) (xp_north _ (by omega) ?_))
        rw [zi_add]
        refine nm_r (zi_add _ _) ?_
        rw [ek]
        exact w
      have dr2 := ob_r (nx_c bo).1
      refine zb_eq (eN (S0 l) (itf (S0 l) q e)) (dN (S0 l) (itf (S0 l) q e)) (fun y => go 0 (by rw [if_pos y])) (fun y => go 1 (by rw [if_neg y])) rfl rfl (by
        have : 0 ≤ eN (S0 l) (itf (S0 l) q e) ∧ eN (S0 l) (itf (S0 l) q e) ≤ 3 := dr2
        omega)
end
