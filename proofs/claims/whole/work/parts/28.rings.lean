/-! the edge that follows, as a map of indices; rings as a numbering -/
def Bn (g : Int → Int → Bool) (n : Int) : Prop := (0 ≤ n ∧ n ≤ 624) ∧ BE g (n / 25) (n % 25) = true
def dN (g : Int → Int → Bool) (n : Int) : Int := drX g (n / 25) (n % 25)
def eN (g : Int → Int → Bool) (n : Int) : Int := nD g (n / 25) (n % 25) (dN g n)
def fN (g : Int → Int → Bool) (n : Int) : Int := 25 * nxI g (n / 25) (n % 25) (dN g n) + nxJ g (n / 25) (n % 25) (dN g n)
theorem bn_o {g : Int → Int → Bool} {n : Int} (h : Bn g n) : OB g (n / 25) (n % 25) (dN g n) := be_ob h.2
theorem ob_n {g : Int → Int → Bool} (H : Sup g) {i j d : Int} (h : OB g i j d) : Bn g (25 * i + j) ∧ (25 * i + j) / 25 = i ∧ (25 * i + j) % 25 = j ∧ dN g (25 * i + j) = d := by
  have gd := ob_g H h
  have e1 : (25 * i + j) / 25 = i := by omega
  have e2 : (25 * i + j) % 25 = j := by omega
  have := ob_be H h
  refine ⟨⟨by omega, by rw [e1, e2]; exact this.1⟩, e1, e2, ?_⟩
  unfold dN; rw [e1, e2]; exact this.2
theorem fn_b {g : Int → Int → Bool} (H : Sup g) {n : Int} (h : Bn g n) : Bn g (fN g n) ∧ fN g n / 25 = nxI g (n / 25) (n % 25) (dN g n) ∧ fN g n % 25 = nxJ g (n / 25) (n % 25) (dN g n) ∧ dN g (fN g n) = eN g n :=
  ob_n H (nx_c (bn_o h)).1
theorem fn_i {g : Int → Int → Bool} (H : Sup g) {n m : Int} (hn : Bn g n) (hm : Bn g m) (e : fN g n = fN g m) : n = m := by
  obtain ⟨-, a1, a2, a3⟩ := fn_b H hn
  obtain ⟨-, b1, b2, b3⟩ := fn_b H hm
  have p1 := (nx_c (bn_o hn)).2
  have p2 := (nx_c (bn_o hm)).2
  rw [e] at a1 a2 a3
  have ee : eN g n = eN g m := by rw [← a3, b3]
  have x1 : nxI g (n / 25) (n % 25) (dN g n) = nxI g (m / 25) (m % 25) (dN g m) := by rw [← a1, b1]
  have x2 : nxJ g (n / 25) (n % 25) (dN g n) = nxJ g (m / 25) (m % 25) (dN g m) := by rw [← a2, b2]
  have x3 : nD g (n / 25) (n % 25) (dN g n) = nD g (m / 25) (m % 25) (dN g m) := ee
  rw [x1, x2, x3, p2] at p1
  unfold nxI at x1
  unfold nxJ at x2
  rw [x3, ← p1] at x1
  rw [x3, ← p1] at x2
  have := hn.1
  have := hm.1
  omega
def itf (g : Int → Int → Bool) : Nat → Int → Int
  | 0, n => n
  | q + 1, n => fN g (itf g q n)
theorem it_b {g : Int → Int → Bool} (H : Sup g) {n : Int} (h : Bn g n) : ∀ q, Bn g (itf g q n)
  | 0 => h
  | q + 1 => (fn_b H (it_b H h q)).1
theorem it_a {g : Int → Int → Bool} (n : Int) (q : Nat) : ∀ p, itf g (p + q) n = itf g p (itf g q n)
  | 0 => by rw [Nat.zero_add]; rfl
  | p + 1 => by
    have e : p + 1 + q = (p + q) + 1 := by omega
    rw [e]
    show fN g (itf g (p + q) n) = fN g (itf g p (itf g q n))
    rw [it_a n q p]
theorem it_i {g : Int → Int → Bool} (H : Sup g) {n m : Int} (hn : Bn g n) (hm : Bn g m) : ∀ q, itf g q n = itf g q m → n = m
  | 0, e => e
  | q + 1, e => it_i H hn hm q (fn_i H (it_b H hn q) (it_b H hm q) e)
theorem it_m {g : Int → Int → Bool} {n : Int} {p : Nat} (hp : 1 ≤ p) (e : itf g p n = n) : ∀ N q, q < N → ∃ r, r < p ∧ itf g q n = itf g r n := by
  intro N
  induction N with
  | zero => intro q h; omega
  | succ N ih =>
    intro q h
    by_cases hq : q < p
    · exact ⟨q, hq, rfl⟩
    · obtain ⟨r, hr, er⟩ := ih (q - p) (by omega)
      refine ⟨r, hr, ?_⟩
      have e1 : q = (q - p) + p := by omega
      rw [e1, it_a, e]; exact er
def RG (g : Int → Int → Bool) (R : Int → Prop) (t : Nat) (cm : Int → Int) (len : Nat → Nat) : Prop :=
  (∀ n, R n → Bn g n ∧ 0 ≤ cm n ∧ cm n < t) ∧ (∀ n, R n → R (fN g n) ∧ cm (fN g n) = cm n) ∧ (∀ n, Bn g n → R (fN g n) → R n) ∧
  (∀ n m, R n → R m → cm n = cm m → ∃ q, itf g q n = m) ∧ (∀ κ : Nat, κ < t → ∃ n, R n ∧ cm n = κ) ∧
  (∀ n, R n → 1 ≤ len (cm n).toNat ∧ itf g (len (cm n).toNat) n = n ∧ ∀ q, 0 < q → q < len (cm n).toNat → itf g q n ≠ n)
theorem rg_0 {g : Int → Int → Bool} : RG g (fun _ => False) 0 (fun _ => 0) (fun _ => 0) :=
  ⟨fun _ h => h.elim, fun _ h => h.elim, fun _ _ h => h, fun _ _ h => h.elim, fun κ h => absurd h (by omega), fun _ h => h.elim⟩
theorem rg_p {g : Int → Int → Bool} (H : Sup g) {R : Int → Prop} {t : Nat} {cm : Int → Int} {len : Nat → Nat} (P : RG g R t cm len) {e : Int} (he : Bn g e) : ∀ s, R (itf g s e) → R e
  | 0, h => h
  | s + 1, h => rg_p H P he s (P.2.2.1 _ (it_b H he s) h)
def InR (g : Int → Int → Bool) (q : Nat) (e n : Int) : Prop := ∃ s, s < q ∧ itf g s e = n
noncomputable def cmR (g : Int → Int → Bool) (q : Nat) (e : Int) (t : Nat) (cm : Int → Int) : Int → Int := fun n => @ite Int (InR g q e n) (Classical.propDecidable _) (t : Int) (cm n)
theorem cr_1 {g : Int → Int → Bool} {q : Nat} {e : Int} {t : Nat} {cm : Int → Int} {n : Int} (h : InR g q e n) : cmR g q e t cm n = t := by unfold cmR; rw [if_pos h]
theorem cr_0 {g : Int → Int → Bool} {q : Nat} {e : Int} {t : Nat} {cm : Int → Int} {n : Int} (h : ¬ InR g q e n) : cmR g q e t cm n = cm n := by unfold cmR; rw [if_neg h]
theorem rg_add {g : Int → Int → Bool} (H : Sup g) {R : Int → Prop} {t : Nat} {cm : Int → Int} {len : Nat → Nat} (P : RG g R t cm len) {e : Int} (he : Bn g e) (hR : ¬ R e) {q : Nat} (hq : 1 ≤ q) (ec : itf g q e = e) (en : ∀ s, 0 < s → s < q → itf g s e ≠ e) :
    RG g (fun n => R n ∨ InR g q e n) (t + 1) (cmR g q e t cm) (fun κ => if κ = t then q else len κ) := by
  have nR : ∀ n, InR g q e n → ¬ R n := by
    rintro n ⟨s, hs, rfl⟩ hr
    exact hR (rg_p H P he s hr)
  have nI : ∀ n, R n → ¬ InR g q e n := fun n h h' => nR n h' h
  have iB : ∀ n, InR g q e n → Bn g n := by
    rintro n ⟨s, hs, rfl⟩; exact it_b H he s
  have iF : ∀ n, InR g q e n → InR g q e (fN g n) := by
    rintro n ⟨s, hs, rfl⟩
    by_cases e1 : s + 1 < q
    · exact ⟨s + 1, e1, rfl⟩
    · have e2 : s + 1 = q := by omega
      refine ⟨0, by omega, ?_⟩
      show e = fN g (itf g s e)
      have : fN g (itf g s e) = itf g (s + 1) e := rfl
      rw [this, e2, ec]
  obtain ⟨p1, p2, p3, p4, p5, p6⟩ := P
  have lo : ∀ n, R n → len (cm n).toNat = (if (cm n).toNat = t then q else len (cm n).toNat) := by
    intro n h
    have := p1 n h
    rw [if_neg (by omega)]
  refine ⟨fun n h => ?_, fun n h => ?_, fun n hb h => ?_, fun n m hn hm ecm => ?_, fun κ hκ => ?_, fun n h => ?_⟩
  · rcases h with h | h
    · rw [cr_0 (nI n h)]; have := p1 n h; exact ⟨this.1, by omega⟩
    · rw [cr_1 h]; exact ⟨iB n h, by omega⟩
  · rcases h with h | h
    · obtain ⟨a1, a2⟩ := p2 n h
      rw [cr_0 (nI n h), cr_0 (nI _ a1)]; exact ⟨Or.inl a1, a2⟩
    · rw [cr_1 h, cr_1 (iF n h)]; exact ⟨Or.inr (iF n h), rfl⟩
  · rcases h with h | ⟨s, hs, h⟩
    · exact Or.inl (p3 n hb h)
    · right
      by_cases e0 : s = 0
      · subst e0
        refine ⟨q - 1, by omega, ?_⟩
        refine fn_i H (it_b H he _) hb ?_
        have : fN g (itf g (q - 1) e) = itf g (q - 1 + 1) e := rfl
        rw [this, ← h]
        have e2 : q - 1 + 1 = q := by omega
        rw [e2, ec]; rfl
      · refine ⟨s - 1, by omega, ?_⟩
        refine fn_i H (it_b H he _) hb ?_
        have : fN g (itf g (s - 1) e) = itf g (s - 1 + 1) e := rfl
        rw [this, ← h]
        have e2 : s - 1 + 1 = s := by omega
        rw [e2]
  · rcases hn with hn | hn <;> rcases hm with hm | hm
    · rw [cr_0 (nI n hn), cr_0 (nI m hm)] at ecm; exact p4 n m hn hm ecm
    · rw [cr_0 (nI n hn), cr_1 hm] at ecm; have := p1 n hn; omega
    · rw [cr_1 hn, cr_0 (nI m hm)] at ecm; have := p1 m hm; omega
    · obtain ⟨s, hs, rfl⟩ := hn
      obtain ⟨s', hs', rfl⟩ := hm
      refine ⟨(q - s) + s', ?_⟩
      rw [← it_a]
      have e2 : (q - s) + s' + s = s' + q := by omega
      rw [e2, it_a, ec]
  · by_cases e0 : κ = t
    · have : InR g q e e := ⟨0, by omega, rfl⟩
      exact ⟨e, Or.inr this, by rw [cr_1 this, e0]⟩
    · obtain ⟨n, h1, h2⟩ := p5 κ (by omega)
      exact ⟨n, Or.inl h1, by rw [cr_0 (nI n h1)]; exact h2⟩
  · rcases h with h | h
    · rw [cr_0 (nI n h)]
      show 1 ≤ (if (cm n).toNat = t then q else len (cm n).toNat) ∧ itf g (if (cm n).toNat = t then q else len (cm n).toNat) n = n ∧ ∀ r, 0 < r → r < (if (cm n).toNat = t then q else len (cm n).toNat) → itf g r n ≠ n
      rw [← lo n h]; exact p6 n h
    · have ht : ((t : Int)).toNat = t := Int.toNat_natCast t
      rw [cr_1 h, ht]
      show 1 ≤ (if t = t then q else len t) ∧ itf g (if t = t then q else len t) n = n ∧ ∀ r, 0 < r → r < (if t = t then q else len t) → itf g r n ≠ n
      rw [if_pos rfl]
      obtain ⟨s, hs, rfl⟩ := h
      refine ⟨hq, ?_, fun r r0 r1 er => ?_⟩
      · rw [← it_a]
        have e2 : q + s = s + q := by omega
        rw [e2, it_a, ec]
      · rw [← it_a] at er
        have e2 : r + s = s + r := by omega
        rw [e2, it_a] at er
        exact en r r0 r1 (it_i H (it_b H he r) he s er)
def RGF (g : Int → Int → Bool) (t : Nat) (cm : Int → Int) (len : Nat → Nat) : Prop := RG g (Bn g) t cm len
theorem rg_fin {g : Int → Int → Bool} {R : Int → Prop} {t : Nat} {cm : Int → Int} {len : Nat → Nat} (P : RG g R t cm len) (h : ∀ n, Bn g n → R n) : RGF g t cm len := by
  have e : R = Bn g := by
    funext n
    exact propext ⟨fun r => (P.1 n r).1, h n⟩
  rw [e] at P; exact P
/-- every ring has a level edge -/
theorem rg_lv {g : Int → Int → Bool} (H : Sup g) {R : Int → Prop} {t : Nat} {cm : Int → Int} {len : Nat → Nat} (P : RG g R t cm len) (h : ∀ n, Bn g n → n % 25 % 2 = 0 → R n) : ∀ n, Bn g n → R n := by
  have up : ∀ (N : Nat) n, Bn g n → dN g n = 1 → (24 - n % 25).toNat < N → R n := by
    intro N
    induction N with
    | zero => intro n _ _ hh; omega
    | succ N ih =>
      intro n hb hd hh
      refine P.2.2.1 n hb ?_
      obtain ⟨b, f1, f2, f3⟩ := fn_b H hb
      by_cases l : fN g n % 25 % 2 = 0
      · exact h _ b l
      · have o1 := bn_o hb
        have o2 := bn_o b
        have hlt : (24 - fN g n % 25).toNat < N := by
          have e : nxJ g (n / 25) (n % 25) (dN g n) = n % 25 + (noD (dN g n) + noD (eN g n)) := rfl
          rw [e, hd] at f2
          rw [f3] at o2
          have g2 := ob_g H o2
          rw [hd] at o1
          have q1 : noD 1 = 1 := rfl
          unfold OB at o1 o2
          have r := no_r (eN g n)
          rw [q1] at f2
          by_cases z : eN g n = 1
          · rw [z, q1] at f2; omega
          · by_cases z3 : eN g n = 3
            · exfalso
              have u : eN g n = nD g (n / 25) (n % 25) (dN g n) := rfl
              rw [hd] at u
              unfold nD at u
              rw [z3] at u
              split at u
              · exact absurd u (by decide)
              · split at u
                · exact absurd u (by decide)
                · exact absurd u (by decide)
            · omega
        by_cases z : dN g (fN g n) = 1
        · exact ih _ b z hlt
        · exfalso
          rw [f3] at z
          have u : eN g n = nD g (n / 25) (n % 25) (dN g n) := rfl
          rw [hd] at u
          rw [f3] at o2
          unfold OB at o2
          have z0 : eN g n = 3 := by omega
          unfold nD at u
          rw [z0] at u
          split at u
          · exact absurd u (by decide)
          · split at u
            · exact absurd u (by decide)
            · exact absurd u (by decide)
  have dn : ∀ (N : Nat) n, Bn g n → dN g n = 3 → (n % 25).toNat < N → R n := by
    intro N
    induction N with
    | zero => intro n _ _ hh; omega
    | succ N ih =>
      intro n hb hd hh
      refine P.2.2.1 n hb ?_
      obtain ⟨b, f1, f2, f3⟩ := fn_b H hb
      by_cases l : fN g n % 25 % 2 = 0
      · exact h _ b l
      · have o1 := bn_o hb
        have o2 := bn_o b
        have u : eN g n = nD g (n / 25) (n % 25) (dN g n) := rfl
        rw [hd] at u
        have z0 : eN g n = 3 := by
          rw [f3] at o2
          unfold OB at o2
          by_cases z1 : eN g n = 1
          · exfalso
            unfold nD at u
            rw [z1] at u
            split at u
            · exact absurd u (by decide)
            · split at u
              · exact absurd u (by decide)
              · exact absurd u (by decide)
          · omega
        refine ih _ b (by rw [f3]; exact z0) ?_
        have e : nxJ g (n / 25) (n % 25) (dN g n) = n % 25 + (noD (dN g n) + noD (eN g n)) := rfl
        have q1 : noD 3 = -1 := rfl
        rw [e, hd, z0, q1] at f2
        have := b.1
        have := hb.1
        omega
  intro n hb
  by_cases l : n % 25 % 2 = 0
  · exact h n hb l
  · have o := bn_o hb
    unfold OB at o
    have : dN g n = 1 ∨ dN g n = 3 := by omega
    rcases this with e | e
    · exact up _ n hb e (Nat.lt_succ_self _)
    · exact dn _ n hb e (Nat.lt_succ_self _)
