/-! the pieces that X finds, as a ghost numbering -/
def rim (i j : Int) : Prop := i = 0 ∨ i = 24 ∨ j = 0 ∨ j = 24
def CP (G : Int → Int → Bool) (R : Int → Int → Prop) (t : Nat) (cm : Int → Int → Int) (hl : Nat → Bool) : Prop :=
  (∀ i j, R i j → G i j = true ∧ 0 ≤ cm i j ∧ cm i j < t) ∧
  (∀ i j d, 0 ≤ d → d ≤ 3 → R i j → G (i + eaD d) (j + noD d) = true → R (i + eaD d) (j + noD d) ∧ cm i j = cm (i + eaD d) (j + noD d)) ∧
  (∀ f, Inv4 G f → ∀ i j i' j', R i j → R i' j' → cm i j = cm i' j' → f i j = f i' j') ∧
  (∀ κ : Nat, κ < t → ∃ i j, R i j ∧ cm i j = κ) ∧
  (∀ κ : Nat, κ < t → (hl κ = true ↔ ∀ i j, R i j → cm i j = κ → ¬ rim i j))
noncomputable def cmA (m : Nat) (qi qj : Nat → Int) (t : Nat) (cm : Int → Int → Int) : Int → Int → Int := fun i j => @ite Int (InQ m qi qj i j) (Classical.propDecidable _) (t : Int) (cm i j)
theorem ca_1 {m : Nat} {qi qj : Nat → Int} {t : Nat} {cm : Int → Int → Int} {i j : Int} (h : InQ m qi qj i j) : cmA m qi qj t cm i j = t := by unfold cmA; rw [if_pos h]
theorem ca_0 {m : Nat} {qi qj : Nat → Int} {t : Nat} {cm : Int → Int → Int} {i j : Int} (h : ¬ InQ m qi qj i j) : cmA m qi qj t cm i j = cm i j := by unfold cmA; rw [if_neg h]
theorem cp_add {G S6 : Int → Int → Bool} {R : Int → Int → Prop} {t : Nat} {cm : Int → Int → Int} {hl : Nat → Bool} (P : CP G R t cm hl) (h6 : ∀ i j, S6 i j = true ↔ G i j = true ∧ ¬ R i j) {i0 j0 : Int} {m : Nat} {qi qj qd : Nat → Int} (F : FIN S6 i0 j0 m qi qj qd) (h0 : S6 i0 j0 = true) {b : Bool} (hb : b = true ↔ ∀ k, k < m → ¬ rim (qi k) (qj k)) :
    CP G (fun i j => R i j ∨ InQ m qi qj i j) (t + 1) (cmA m qi qj t cm) (fun κ => if κ = t then b else hl κ) := by
  obtain ⟨p1, p2, p3, p4, p5⟩ := P
  have q6 : ∀ i j, InQ m qi qj i j → S6 i j = true := by
    rintro i j ⟨k, hk, e1, e2⟩
    rw [← e1, ← e2]; exact F.1.2.2.2.1 k hk
  have nR : ∀ i j, InQ m qi qj i j → ¬ R i j := fun i j h => ((h6 i j).mp (q6 i j h)).2
  have qG : ∀ i j, InQ m qi qj i j → G i j = true := fun i j h => ((h6 i j).mp (q6 i j h)).1
  have nQ : ∀ i j, R i j → ¬ InQ m qi qj i j := fun i j h h' => nR i j h' h
  refine ⟨fun i j h => ?_, fun i j d d0 d3 h hg => ?_, fun f I i j i' j' h h' e => ?_, fun κ hκ => ?_, fun κ hκ => ?_⟩
  · rcases h with h | h
    · rw [ca_0 (nQ _ _ h)]; have := p1 i j h; exact ⟨this.1, by omega⟩
    · rw [ca_1 h]; exact ⟨qG _ _ h, by omega⟩
  · rcases h with h | h
    · obtain ⟨a1, a2⟩ := p2 i j d d0 d3 h hg
      rw [ca_0 (nQ _ _ h), ca_0 (nQ _ _ a1)]
      exact ⟨Or.inl a1, a2⟩
    · have nr : ¬ R (i + eaD d) (j + noD d) := by
        intro hr
        obtain ⟨o1, o2, o3⟩ := op_d ⟨d0, d3⟩
        have b1 : i + eaD d + eaD (opD d) = i := by rw [o2]; omega
        have b2 : j + noD d + noD (opD d) = j := by rw [o3]; omega
        have := (p2 _ _ (opD d) o1.1 o1.2 hr (by rw [b1, b2]; exact qG _ _ h)).1
        rw [b1, b2] at this
        exact nR _ _ h this
      have hq := fq_s F ⟨d0, d3⟩ h ((h6 _ _).mpr ⟨hg, nr⟩)
      rw [ca_1 h, ca_1 hq]
      exact ⟨Or.inr hq, rfl⟩
  · have I6 : Inv4 S6 f := fun i j d d0 d3 a1 a2 => I i j d d0 d3 ((h6 _ _).mp a1).1 ((h6 _ _).mp a2).1
    have fq : ∀ i j, InQ m qi qj i j → f i j = f i0 j0 := by
      rintro i j ⟨k, hk, e1, e2⟩
      rw [← e1, ← e2]; exact fin_inv F.1 I6 (k + 1) k (by omega) hk
    rcases h with h | h <;> rcases h' with h' | h'
    · rw [ca_0 (nQ _ _ h), ca_0 (nQ _ _ h')] at e
      exact p3 f I i j i' j' h h' e
    · rw [ca_0 (nQ _ _ h), ca_1 h'] at e
      have := p1 i j h; omega
    · rw [ca_1 h, ca_0 (nQ _ _ h')] at e
      have := p1 i' j' h'; omega
    · rw [fq _ _ h, fq _ _ h']
  · by_cases e : κ = t
    · have hm := F.1.1 h0
      obtain ⟨b1, b2, -⟩ := F.1.2.2.1 hm
      have hq : InQ m qi qj i0 j0 := ⟨0, hm, b1, b2⟩
      exact ⟨i0, j0, Or.inr hq, by rw [ca_1 hq, e]⟩
    · obtain ⟨i, j, h, hc⟩ := p4 κ (by omega)
      exact ⟨i, j, Or.inl h, by rw [ca_0 (nQ _ _ h)]; exact hc⟩
  · by_cases e : κ = t
    · show (if κ = t then b else hl κ) = true ↔ _
      rw [if_pos e, hb]
      constructor
      · intro hk i j h hc
        rcases h with h | h
        · rw [ca_0 (nQ _ _ h)] at hc; have := p1 i j h; omega
        · obtain ⟨k, hk', e1, e2⟩ := h
          rw [← e1, ← e2]; exact hk k hk'
      · intro hh k hk
        have hq : InQ m qi qj (qi k) (qj k) := ⟨k, hk, rfl, rfl⟩
        exact hh _ _ (Or.inr hq) (by rw [ca_1 hq, e])
    · show (if κ = t then b else hl κ) = true ↔ _
      rw [if_neg e, p5 κ (by omega)]
      constructor
      · intro hh i j h hc
        rcases h with h | h
        · rw [ca_0 (nQ _ _ h)] at hc; exact hh i j h hc
        · rw [ca_1 h] at hc; omega
      · intro hh i j h hc
        exact hh i j (Or.inl h) (by rw [ca_0 (nQ _ _ h)]; exact hc)
/-- the whole numbering -/
def CPF (G : Int → Int → Bool) (t : Nat) (cm : Int → Int → Int) (hl : Nat → Bool) : Prop := CP G (fun i j => G i j = true) t cm hl
theorem cp_fin {G : Int → Int → Bool} {R : Int → Int → Prop} {t : Nat} {cm : Int → Int → Int} {hl : Nat → Bool} (P : CP G R t cm hl) (h : ∀ i j, G i j = true → R i j) : CPF G t cm hl := by
  have e : R = fun i j => G i j = true := by
    funext i j
    exact propext ⟨fun r => (P.1 i j r).1, h i j⟩
  rw [e] at P; exact P
theorem cp_0 {G : Int → Int → Bool} : CP G (fun _ _ => False) 0 (fun _ _ => 0) (fun _ => false) :=
  ⟨fun _ _ h => h.elim, fun _ _ _ _ _ h => h.elim, fun _ _ _ _ _ _ h => h.elim, fun κ h => absurd h (by omega), fun κ h => absurd h (by omega)⟩
theorem cp_inv {G : Int → Int → Bool} {t : Nat} {cm : Int → Int → Int} {hl : Nat → Bool} (P : CPF G t cm hl) : Inv4 G cm :=
  fun i j d d0 d3 h1 h2 => (P.2.1 i j d d0 d3 h1 h2).2
noncomputable def hB (L : Int → Int) (n : Nat) : Bool := @decide (L n = n ∧ ∀ m, 0 ≤ m → m ≤ 624 → L m = n → ¬ rim (m / 25) (m % 25)) (Classical.propDecidable _)
theorem hB_i {L : Int → Int} {n : Nat} : hB L n = true ↔ L n = n ∧ ∀ m, 0 ≤ m → m ≤ 624 → L m = n → ¬ rim (m / 25) (m % 25) := by
  unfold hB
  exact @decide_eq_true_iff _ (Classical.propDecidable _)
theorem co_f {t : Nat} {Pq : Nat → Int → Prop} (h : ∀ κ, κ < t → ∃ x, Pq κ x) : ∃ r : Nat → Int, ∀ κ, κ < t → Pq κ (r κ) := by
  refine ⟨fun κ => @dite Int (κ < t) (Classical.propDecidable _) (fun q => Classical.choose (h κ q)) (fun _ => 0), fun κ q => ?_⟩
  show Pq κ (@dite Int (κ < t) (Classical.propDecidable _) (fun q => Classical.choose (h κ q)) (fun _ => 0))
  rw [dif_pos q]
  exact Classical.choose_spec (h κ q)
/-- the labels that stand at themselves are one a piece -/
theorem cp_eq {g : Int → Int → Bool} {mb : Bool} {t : Nat} {cm : Int → Int → Int} {hl : Nat → Bool} (P : CPF (AsF g mb 2) t cm hl) {la : Nat → Int32} {L : Int → Int} (A : LB la L) (G : GI (AsF g mb 2) L) (K : CI cm L) (X : ∀ n, 0 ≤ n → n ≤ 624 → FXP L n) :
    cnt (fun n => decide (L n = n)) 625 = t ∧ cnt (hB L) 625 = cnt hl t := by
  have I := fx_inv A G X
  obtain ⟨p1, p2, p3, p4, p5⟩ := P
  obtain ⟨r, hr⟩ := co_f (t := t) (Pq := fun κ n => (0 ≤ n ∧ n ≤ 624) ∧ AsF g mb 2 (n / 25) (n % 25) = true ∧ cm (n / 25) (n % 25) = κ) (fun κ hκ => by
    obtain ⟨i, j, h, hc⟩ := p4 κ hκ
    have gd := as_s _ _ h
    have e1 : (25 * i + j) / 25 = i := by omega
    have e2 : (25 * i + j) % 25 = j := by omega
    exact ⟨25 * i + j, by omega, by rw [e1, e2]; exact h, by rw [e1, e2]; exact hc⟩)
  have same : ∀ n m, (0 ≤ n ∧ n ≤ 624) → (0 ≤ m ∧ m ≤ 624) → 0 ≤ L n → 0 ≤ L m → cm (n / 25) (n % 25) = cm (m / 25) (m % 25) → L n = L m := by
    intro n m hn hm h1 h2 e
    have := p3 _ I _ _ _ _ ((G n hn.1 hn.2).mp h1) ((G m hm.1 hm.2).mp h2) e
    have e1 : 25 * (n / 25) + n % 25 = n := by omega
    have e2 : 25 * (m / 25) + m % 25 = m := by omega
    have t1 : L (25 * (n / 25) + n % 25) = L (25 * (m / 25) + m % 25) := this
    rw [e1, e2] at t1; exact t1
  -- the label of piece κ
  have lab : ∀ κ, κ < t → (0 ≤ L (r κ) ∧ L (r κ) ≤ 624) ∧ L (L (r κ)) = L (r κ) ∧ cm (L (r κ) / 25) (L (r κ) % 25) = κ := by
    intro κ hκ
    obtain ⟨h1, h2, h3⟩ := hr κ hκ
    have q : 0 ≤ L (r κ) := (G _ h1.1 h1.2).mpr h2
    have b := A (r κ) h1.1 h1.2
    obtain ⟨k1, k2⟩ := K (r κ) h1.1 h1.2 q
    refine ⟨by omega, ?_, by rw [k2, h3]⟩
    exact same _ _ (by omega) h1 k1 q k2
  have inj : ∀ κ κ', κ < t → κ' < t → (L (r κ)).toNat = (L (r κ')).toNat → κ = κ' := by
    intro κ κ' h h' e
    obtain ⟨a1, a2, a3⟩ := lab κ h
    obtain ⟨b1, b2, b3⟩ := lab κ' h'
    have e' : L (r κ) = L (r κ') := by omega
    rw [e', b3] at a3; omega
  have sur : ∀ n : Nat, n < 625 → L n = n → ∃ κ, κ < t ∧ L (r κ) = n := by
    intro n hn e
    have q : 0 ≤ L (n : Int) := by omega
    have gn := (G n (by omega) (by omega)).mp q
    obtain ⟨-, c0, c1⟩ := p1 _ _ gn
    obtain ⟨h1, h2, h3⟩ := hr (cm ((n : Int) / 25) ((n : Int) % 25)).toNat (by omega)
    refine ⟨(cm ((n : Int) / 25) ((n : Int) % 25)).toNat, by omega, ?_⟩
    have := same (r (cm ((n : Int) / 25) ((n : Int) % 25)).toNat) n h1 (by omega) ((G _ h1.1 h1.2).mpr h2) q (by rw [h3]; omega)
    rw [this, e]
  constructor
  · have e : cnt (fun n : Nat => decide (L n = n)) 625 = cnt (fun _ => true) t := by
      refine cn_bij (P := fun _ => true) (N := 625) (fun _ => true) (fun κ => (L (r κ)).toNat) t _ (fun κ h _ => ?_) (fun κ κ' h h' _ _ => inj κ κ' h h') (fun n hn hp => ?_)
      · obtain ⟨a1, a2, a3⟩ := lab κ h
        refine ⟨by show (L (r κ)).toNat < 625; omega, ?_⟩
        show decide (L ((L (r κ)).toNat : Int) = ((L (r κ)).toNat : Int)) = true
        rw [decide_eq_true_eq]
        have e : ((L (r κ)).toNat : Int) = L (r κ) := by omega
        rw [e]; exact a2
      · have hp' : decide (L (n : Int) = (n : Int)) = true := hp
        rw [decide_eq_true_eq] at hp'
        obtain ⟨κ, h1, h2⟩ := sur n hn hp'
        exact ⟨κ, h1, rfl, by show (L (r κ)).toNat = n; omega⟩
    rw [e]
    have h1 := cn_le (fun _ => true) t
    have h2 : t ≤ cnt (fun _ => true) t := cn_full.mpr (fun _ _ => rfl)
    omega
  · have hole : ∀ κ, κ < t → (hl κ = true ↔ ∀ m, 0 ≤ m → m ≤ 624 → L m = L (r κ) → ¬ rim (m / 25) (m % 25)) := by
      intro κ h
      obtain ⟨a1, a2, a3⟩ := lab κ h
      obtain ⟨h1, h2, h3⟩ := hr κ h
      rw [p5 κ h]
      constructor
      · intro hh m m0 m1 e
        have q : 0 ≤ L m := by omega
        refine hh _ _ ((G m m0 m1).mp q) ?_
        have := (K m m0 m1 q).2
        rw [e, a3] at this; exact this.symm
      · intro hh i j hg hc
        have gd := as_s _ _ hg
        have e1 : (25 * i + j) / 25 = i := by omega
        have e2 : (25 * i + j) % 25 = j := by omega
        have := hh (25 * i + j) (by omega) (by omega) (same _ _ (by omega) h1 ((G _ (by omega) (by omega)).mpr (by rw [e1, e2]; exact hg)) ((G _ h1.1 h1.2).mpr h2) (by rw [e1, e2, hc, h3]))
        rw [e1, e2] at this; exact this
    refine cn_bij (P := fun _ => true) (N := 625) hl (fun κ => (L (r κ)).toNat) t _ (fun κ h hh => ?_) (fun κ κ' h h' _ _ => inj κ κ' h h') (fun n hn hp => ?_)
    · obtain ⟨a1, a2, a3⟩ := lab κ h
      refine ⟨by show (L (r κ)).toNat < 625; omega, ?_⟩
      show hB L (L (r κ)).toNat = true
      rw [hB_i]
      have e : ((L (r κ)).toNat : Int) = L (r κ) := by omega
      rw [e]
      exact ⟨a2, (hole κ h).mp hh⟩
    · have hp' := hB_i.mp hp
      obtain ⟨κ, h1, h2⟩ := sur n hn hp'.1
      refine ⟨κ, h1, (hole κ h1).mpr ?_, by show (L (r κ)).toNat = n; omega⟩
      rw [h2]; exact hp'.2
