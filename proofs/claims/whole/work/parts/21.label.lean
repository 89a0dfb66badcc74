/-! Y's labels of pieces -/
def nbY (n d : Int) : Int := n + 25 * (d / 3 - 1) + (d % 3 - 1)
def JN (n d : Int) : Prop := (d / 3 - 1 = 0 ∨ d % 3 - 1 = 0 ∨ (n / 25 + n % 25) % 2 = 0) ∧ Gd (n / 25 + (d / 3 - 1)) (n % 25 + (d % 3 - 1))
theorem jn_r {n d : Int} (hn : 0 ≤ n ∧ n ≤ 624) (hd : 0 ≤ d ∧ d ≤ 8) (h : JN n d) : (0 ≤ nbY n d ∧ nbY n d ≤ 624) ∧ nbY n d / 25 = n / 25 + (d / 3 - 1) ∧ nbY n d % 25 = n % 25 + (d % 3 - 1) := by
  have := h.2
  unfold nbY
  omega
def LB (la : Nat → Int32) (L : Int → Int) : Prop := ∀ n, 0 ≤ n → n ≤ 624 → la n.toNat = zI (L n) ∧ -1 ≤ L n ∧ L n ≤ 624
def LWp (L : Int → Int) (n d v : Int) : Prop := (0 ≤ v ∧ v ≤ L n) ∧ (∀ d', 0 ≤ d' → d' < d → JN n d' → 0 ≤ L (nbY n d') → v ≤ L (nbY n d')) ∧ (v = L n ∨ ∃ d', 0 ≤ d' ∧ d' < d ∧ JN n d' ∧ 0 ≤ L (nbY n d') ∧ v = L (nbY n d'))
theorem lw_k {L : Int → Int} {n d v : Int} (h : LWp L n d v) (hk : JN n d → 0 ≤ L (nbY n d) → v ≤ L (nbY n d)) : LWp L n (d + 1) v := by
  refine ⟨h.1, fun d' h0 h1 hj hp => ?_, ?_⟩
  · by_cases e : d' = d
    · subst e; exact hk hj hp
    · exact h.2.1 d' h0 (by omega) hj hp
  · rcases h.2.2 with e | ⟨d', h0, h1, h2⟩
    · exact Or.inl e
    · exact Or.inr ⟨d', h0, by omega, h2⟩
theorem lw_c {L : Int → Int} {n d v : Int} (h : LWp L n d v) (h0 : 0 ≤ d) (hj : JN n d) (hp : 0 ≤ L (nbY n d)) (hlt : L (nbY n d) < v) : LWp L n (d + 1) (L (nbY n d)) := by
  refine ⟨by have := h.1; omega, fun d' h0 h1 hj' hp' => ?_, Or.inr ⟨d, h0, by omega, hj, hp, rfl⟩⟩
  by_cases e : d' = d
  · subst e; omega
  · have := h.2.1 d' h0 (by omega) hj' hp'; omega
section
variable {c : Int32} {fi ly ma se px py : Nat → Int32}
theorem lo_21 {post : Int32 → SY → Prop} {la : Nat → Int32} {L : Int → Int} (A : LB la L) {n : Int} (hn : 0 ≤ n ∧ n ≤ 624)
    (f : ∀ v b, LWp L n 9 v → (b = true ↔ v < L n) → post (bI b) (c, ly, fi, ma, se, px, py, upd la n.toNat (zI v))) :
    ∀ (N : Nat) (d v : Int), 0 ≤ d → d ≤ 9 → (9 - d).toNat < N → LWp L n d v → wY_lowered_21 post (zI n) (zI (n / 25)) (zI (n % 25)) c ly fi ma se px py la N (zI v) (zI d) := by
  have an := A n hn.1 hn.2
  have c1 : (zI n).toNatClampNeg = n.toNat := zi_cl (by omega)
  have v1 : vp_in (zI n) 625 := zv_in n (by omega)
  intro N
  induction N with
  | zero => intro d v h0 h1; omega
  | succ N ih =>
    intro d v h0 h1 h2 hw
    have hv := hw.1
    refine zb_le 9 d (fun h => ⟨v1, ?_⟩) (fun h => ?_)
    · have e : d = 9 := by omega
      subst e
      rw [c1, an.1]
      have k : ∀ b : Bool, (b = true ↔ v < L n) → wY_lowered_144 post (zI n) (zI v) (bI b) c ly fi ma se px py la := by
        intro b hb
        refine ⟨v1, nm_e ⟨bi_n b, ?_⟩⟩
        rw [c1]; exact f v b hw hb
      refine zb_le (L n) v (fun h => k false ?_) (fun h => k true ?_)
      · exact ⟨fun z => (nomatch z), fun z => by omega⟩
      · exact ⟨fun _ => h, fun _ => rfl⟩
    · have e5 : zI d / 3 - 1 = zI (d / 3 - 1) := by rw [zi_d3 (by omega), zi_s1]
      have e6 : (zI d - zI d / 3 * 3) - 1 = zI (d % 3 - 1) := by rw [zi_r3 (by omega), zi_s1]
      have sk : (JN n d → 0 ≤ L (nbY n d) → v ≤ L (nbY n d)) → wY_lowered_21 post (zI n) (zI (n / 25)) (zI (n % 25)) c ly fi ma se px py la N (zI v) (zI (d + 1)) :=
        fun hh => ih (d + 1) v (by omega) (by omega) (by omega) (lw_k hw hh)
      have go : (d / 3 - 1 = 0 ∨ d % 3 - 1 = 0 ∨ (n / 25 + n % 25) % 2 = 0) → wY_lowered_62 post (wY_lowered_21 post (zI n) (zI (n / 25)) (zI (n % 25)) c ly fi ma se px py la N) (zI n) (zI (n / 25)) (zI (n % 25)) (zI v) (zI d) (zI (d / 3 - 1)) (zI (d % 3 - 1)) c ly fi ma se px py la := by
        intro hj
        unfold wY_lowered_62 wY_lowered_67
        refine b1_f ?_
        rw [zi_add, zi_add]
        refine yg_atom _ _ (by omega) (by omega) (fun ga => b1_f ?_) (fun ga => b0_t (nm_r (zi_1 d) (sk (fun hj' => absurd hj'.2 ga))))
        have hJ : JN n d := ⟨hj, ga⟩
        obtain ⟨r, -⟩ := jn_r hn ⟨h0, by omega⟩ hJ
        have ab := A _ r.1 r.2
        have ei : (zI n + (25 * zI (d / 3 - 1))) + zI (d % 3 - 1) = zI (nbY n d) := by
          have e : 25 * zI (d / 3 - 1) = zI (25 * (d / 3 - 1)) := zi_mul 25 _
          rw [e, zi_add, zi_add]; rfl
        refine ⟨zv_in (nbY n d) (by omega) ei, nm_e ?_⟩
        rw [zv_cl (nbY n d) ei, ab.1]
        refine zb_lt (L (nbY n d)) 0 (fun q => nm_r (zi_1 d) (sk (fun _ h' => by omega))) (fun q => zb_le v (L (nbY n d)) (fun q2 => nm_r (zi_1 d) (sk (fun _ _ => q2))) (fun q2 => nm_r (zi_1 d) ?_))
        exact ih (d + 1) _ (by omega) (by omega) (by omega) (lw_c hw h0 hJ q q2)
      refine ⟨by decide, nm_r e5 ⟨by decide, nm_r e6 ?_⟩⟩
      rw [zi_add, zi_r2 (by omega)]
      refine zb_eq (d / 3 - 1) 0 (fun q => go (Or.inl q)) (fun q => zb_eq (d % 3 - 1) 0 (fun q2 => go (Or.inr (Or.inl q2))) (fun q2 => ⟨by decide, zb_eq ((n / 25 + n % 25) % 2) 0 (fun q3 => go (Or.inr (Or.inr q3))) (fun q3 => ?_)⟩))
      unfold wY_lowered_67
      exact b0_t (nm_r (zi_1 d) (sk (fun hj => absurd hj.1 (by omega))))
theorem yp_low {post : Int32 → SY → Prop} {la : Nat → Int32} {L : Int → Int} (A : LB la L) {n : Int} (hn : 0 ≤ n ∧ n ≤ 624) (hp : 0 ≤ L n)
    (f : ∀ v b, LWp L n 9 v → (b = true ↔ v < L n) → post (bI b) (c, ly, fi, ma, se, px, py, upd la n.toNat (zI v))) : wpY_lowered post (c, ly, fi, ma, se, px, py, la) (zI n) := by
  have an := A n hn.1 hn.2
  have c1 : (zI n).toNatClampNeg = n.toNat := zi_cl (by omega)
  unfold wpY_lowered
  dsimp only
  rw [c1, an.1]
  refine ⟨by decide, nm_r (zi_d25 (by omega)) ⟨by decide, nm_r (zi_r25 (by omega)) ⟨zv_in n (by omega), nm_e ⟨10, ?_⟩⟩⟩⟩
  exact lo_21 A hn f 10 0 (L n) (by omega) (by omega) (by omega) ⟨⟨hp, Int.le_refl _⟩, fun d' h0 h1 => absurd h1 (by omega), Or.inl rfl⟩
end
/-- functions that 4-neighbours in the set share -/
def Inv4 (G : Int → Int → Bool) (f : Int → Int → Int) : Prop := ∀ i j d, 0 ≤ d → d ≤ 3 → G i j = true → G (i + eaD d) (j + noD d) = true → f i j = f (i + eaD d) (j + noD d)
theorem in_e {G : Int → Int → Bool} {f : Int → Int → Int} (I : Inv4 G f) {i j i' j' : Int} (h : (i' = i ∧ (j' = j + 1 ∨ j' = j - 1)) ∨ (j' = j ∧ (i' = i + 1 ∨ i' = i - 1))) (hg : G i j = true) (hg' : G i' j' = true) : f i j = f i' j' := by
  have k : ∀ d, 0 ≤ d → d ≤ 3 → i' = i + eaD d → j' = j + noD d → f i j = f i' j' := by
    intro d d0 d3 e1 e2
    subst e1; subst e2
    exact I i j d d0 d3 hg hg'
  rcases h with ⟨h1, h2 | h2⟩ | ⟨h1, h2 | h2⟩
  · exact k 1 (by omega) (by omega) (by simp [eaD]; omega) (by simp [noD]; omega)
  · exact k 3 (by omega) (by omega) (by simp [eaD]; omega) (by simp [noD]; omega)
  · exact k 0 (by omega) (by omega) (by simp [eaD]; omega) (by simp [noD]; omega)
  · exact k 2 (by omega) (by omega) (by simp [eaD]; omega) (by simp [noD]; omega)
theorem as_i {g : Int → Int → Bool} {mb : Bool} {i j : Int} : AsF g mb 2 i j = true ↔ Gd i j ∧ g i j = mb := by
  unfold AsF; rw [decide_eq_true_eq]
  exact ⟨fun h => ⟨h.1, h.2.1⟩, fun h => ⟨h.1, h.2, by omega⟩⟩
theorem as_mid {g : Int → Int → Bool} (C : clo g) {mb : Bool} {i j p q : Int} (hp : p = 1 ∨ p = -1) (hq : q = 1 ∨ q = -1) (he : (i + j) % 2 = 0) (h1 : AsF g mb 2 i j = true) (h2 : AsF g mb 2 (i + p) (j + q) = true) : AsF g mb 2 (i + p) j = true := by
  rw [as_i] at h1 h2 ⊢
  refine ⟨by omega, ?_⟩
  have back : i + p - p = i := by omega
  by_cases o : i % 2 = 1
  · -- (i, j) is a cell
    cases mb
    · cases z : g (i + p) j
      · rfl
      · have := (C _ _ z).2 (by omega)
        rcases hq with rfl | rfl
        · rw [this.2] at h2; exact absurd h2.2 (by decide)
        · have t := this.1
          have e : j - 1 = j + -1 := rfl
          rw [e] at t
          rw [t] at h2; exact absurd h2.2 (by decide)
    · have := (C _ _ h1.2).1 o
      rcases hp with rfl | rfl
      · exact this.2
      · exact this.1
  · cases mb
    · cases z : g (i + p) j
      · rfl
      · have := (C _ _ z).1 (by omega)
        rcases hp with rfl | rfl
        · have e : i + 1 - 1 = i := by omega
          rw [e] at this
          rw [this.1] at h1; exact absurd h1.2 (by decide)
        · have e : i + -1 + 1 = i := by omega
          rw [e] at this
          rw [this.2] at h1; exact absurd h1.2 (by decide)
    · have := (C _ _ h2.2).2 (by omega)
      rcases hq with rfl | rfl
      · have e : j + 1 - 1 = j := by omega
        rw [e] at this; exact this.1
      · have e : j + -1 + 1 = j := by omega
        rw [e] at this; exact this.2
theorem in_j {g : Int → Int → Bool} (C : clo g) {mb : Bool} {f : Int → Int → Int} (I : Inv4 (AsF g mb 2) f) {i j p q : Int} (hp : -1 ≤ p ∧ p ≤ 1) (hq : -1 ≤ q ∧ q ≤ 1) (hj : p = 0 ∨ q = 0 ∨ (i + j) % 2 = 0) (h1 : AsF g mb 2 i j = true) (h2 : AsF g mb 2 (i + p) (j + q) = true) : f i j = f (i + p) (j + q) := by
  have z1 : i + 0 = i := by omega
  have z2 : j + 0 = j := by omega
  by_cases ep : p = 0
  · subst ep
    by_cases eq : q = 0
    · subst eq; rw [z1, z2]
    · rw [z1] at h2 ⊢
      exact in_e I (by omega) h1 h2
  · by_cases eq : q = 0
    · subst eq
      rw [z2] at h2 ⊢
      exact in_e I (by omega) h1 h2
    · have mid := as_mid C (by omega) (by omega) (by omega) h1 h2
      exact (in_e I (by omega) h1 mid).trans (in_e I (by omega) mid h2)
def GI (G : Int → Int → Bool) (L : Int → Int) : Prop := ∀ n, 0 ≤ n → n ≤ 624 → (0 ≤ L n ↔ G (n / 25) (n % 25) = true)
def CI (cm : Int → Int → Int) (L : Int → Int) : Prop := ∀ n, 0 ≤ n → n ≤ 624 → 0 ≤ L n → 0 ≤ L (L n) ∧ cm (L n / 25) (L n % 25) = cm (n / 25) (n % 25)
def FXP (L : Int → Int) (n : Int) : Prop := 0 ≤ L n → ∀ d, 0 ≤ d → d ≤ 8 → JN n d → 0 ≤ L (nbY n d) → L n ≤ L (nbY n d)
def sumB (L : Int → Int) : Nat := sm (fun k => (L k + 1).toNat) 625
theorem sb_lt {L : Int → Int} {n v : Int} (hn : 0 ≤ n ∧ n ≤ 624) (hv : 0 ≤ v) (h : v < L n) : sumB (lset L n v) < sumB L := by
  unfold sumB
  refine sm_lt (a := n.toNat) ?_ (fun k hk hne => ?_) (by omega)
  · have e : ((n.toNat : Nat) : Int) = n := by omega
    show (lset L n v (n.toNat : Int) + 1).toNat < (L (n.toNat : Int) + 1).toNat
    rw [e]; unfold lset; rw [if_pos rfl]; omega
  · show (lset L n v (k : Int) + 1).toNat = (L (k : Int) + 1).toNat
    unfold lset; rw [if_neg (by omega)]
theorem lb_u {la : Nat → Int32} {L : Int → Int} (h : LB la L) {n v : Int} (hn : 0 ≤ n ∧ n ≤ 624) (hv : 0 ≤ v ∧ v ≤ 624) : LB (upd la n.toNat (zI v)) (lset L n v) := by
  intro q q0 q1
  unfold upd lset
  by_cases e : q = n
  · subst e; simp only [if_pos]; exact ⟨trivial, by omega⟩
  · have e2 : q.toNat ≠ n.toNat := by omega
    simp only [if_neg e, if_neg e2]; exact h q q0 q1
theorem gi_u {G : Int → Int → Bool} {L : Int → Int} (h : GI G L) {n v : Int} (hp : 0 ≤ L n) (hv : 0 ≤ v) : GI G (lset L n v) := by
  intro q q0 q1
  unfold lset
  by_cases e : q = n
  · rw [if_pos e, ← h q q0 q1, e]; exact ⟨fun _ => hp, fun _ => hv⟩
  · rw [if_neg e]; exact h q q0 q1
theorem ci_u {g : Int → Int → Bool} (C : clo g) {mb : Bool} {cm : Int → Int → Int} (I : Inv4 (AsF g mb 2) cm) {la : Nat → Int32} {L : Int → Int} (A : LB la L) (h : CI cm L) (hG : GI (AsF g mb 2) L) {n v : Int} (hn : 0 ≤ n ∧ n ≤ 624) (hp : 0 ≤ L n) (hw : LWp L n 9 v) : CI cm (lset L n v) := by
  have key : 0 ≤ L v ∧ cm (v / 25) (v % 25) = cm (n / 25) (n % 25) := by
    rcases hw.2.2 with e | ⟨d, d0, d9, hJ, hL, e⟩
    · rw [e]; exact h n hn.1 hn.2 hp
    · obtain ⟨r, r1, r2⟩ := jn_r hn ⟨d0, by omega⟩ hJ
      have hb := h _ r.1 r.2 hL
      rw [e]
      refine ⟨hb.1, hb.2.trans ?_⟩
      rw [r1, r2]
      refine (in_j C I (by omega) (by omega) hJ.1 ((hG n hn.1 hn.2).mp hp) ?_).symm
      have := (hG _ r.1 r.2).mp hL
      rw [r1, r2] at this; exact this
  have hv := hw.1
  have z : ∀ q : Int, 0 ≤ L q → 0 ≤ lset L n v q := by
    intro q hq; unfold lset; split <;> omega
  intro q q0 q1 hq
  have e0 : lset L n v q = if q = n then v else L q := rfl
  by_cases e : q = n
  · rw [e0, if_pos e]
    exact ⟨z v key.1, by rw [e]; exact key.2⟩
  · rw [e0, if_neg e] at hq ⊢
    have := h q q0 q1 hq
    exact ⟨z _ this.1, this.2⟩
