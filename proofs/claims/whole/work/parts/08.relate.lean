/-! relate -/
theorem zi_shr {a : Int} (h : 0 ≤ a ∧ a < 2147483648) (s : Int32) (k : Nat) (hs : (s.toBitVec.smod 32).toNat = k) : zI a >>> s = zI (a / 2 ^ k) := by
  apply Int32.toInt_inj.mp
  have e : (zI a >>> s).toInt = (zI a).toInt >>> k := by
    show ((zI a).toBitVec.sshiftRight (s.toBitVec.smod 32).toNat).toInt = _
    rw [hs, BitVec.toInt_sshiftRight]
    rfl
  have hp : (0 : Int) < 2 ^ k := Int.pow_pos (by decide)
  have h1 : 0 ≤ a / 2 ^ k := Int.ediv_nonneg h.1 (Int.le_of_lt hp)
  have h2 : a / 2 ^ k ≤ a := Int.ediv_le_self _ h.1
  rw [e, zi_toInt (by omega), zi_toInt (by omega), Int.shiftRight_eq_div_pow]
  simp
theorem zi_and3 {a : Int} (ha : 0 ≤ a ∧ a < 2147483648) : zI a &&& 3 = zI (a % 4) := by
  apply Int32.toBitVec_inj.mp
  apply BitVec.eq_of_toNat_eq
  have e1 : (zI a &&& 3).toBitVec.toNat = (zI a).toBitVec.toNat % 4 := by
    rw [Int32.toBitVec_and, BitVec.toNat_and]
    exact Nat.and_two_pow_sub_one_eq_mod _ 2
  have e2 : (zI a).toBitVec = BitVec.ofInt 32 a := rfl
  have e3 : (zI (a % 4)).toBitVec = BitVec.ofInt 32 (a % 4) := rfl
  rw [e1, e2, e3, BitVec.toNat_ofInt, BitVec.toNat_ofInt]
  omega
theorem zi_shl : ∀ d : Fin 4, ∀ p : Fin 9, zI (d.val : Int) <<< (zI (2 * (p.val : Int)) &&& 31) = zI ((d.val : Int) * 4 ^ p.val) := by decide +kernel
theorem zi_shl' {d p : Int} (hd : 0 ≤ d ∧ d ≤ 3) (hp : 0 ≤ p ∧ p ≤ 8) : zI d <<< (zI (2 * p) &&& 31) = zI (d * 4 ^ p.toNat) := by
  have h := zi_shl ⟨d.toNat, by omega⟩ ⟨p.toNat, by omega⟩
  simp only [Int.toNat_of_nonneg hd.1, Int.toNat_of_nonneg hp.1] at h
  exact h
def enc (D : Int → Int) : Int := D 0 + 4 * D 1 + 16 * D 2 + 64 * D 3 + 256 * D 4 + 1024 * D 5 + 4096 * D 6 + 16384 * D 7 + 196608
def D03 (D : Int → Int) : Prop := ∀ p, 0 ≤ p → p ≤ 8 → 0 ≤ D p ∧ D p ≤ 3
theorem en_r {D : Int → Int} (h : D03 D) : 0 ≤ enc D ∧ enc D ≤ 262143 := by
  have h0 := h 0 (by omega) (by omega)
  have h1 := h 1 (by omega) (by omega)
  have h2 := h 2 (by omega) (by omega)
  have h3 := h 3 (by omega) (by omega)
  have h4 := h 4 (by omega) (by omega)
  have h5 := h 5 (by omega) (by omega)
  have h6 := h 6 (by omega) (by omega)
  have h7 := h 7 (by omega) (by omega)
  unfold enc; omega
theorem p9 {p : Int} (h : 0 ≤ p ∧ p ≤ 8) : p = 0 ∨ p = 1 ∨ p = 2 ∨ p = 3 ∨ p = 4 ∨ p = 5 ∨ p = 6 ∨ p = 7 ∨ p = 8 := by omega
theorem en_get {D : Int → Int} (h : D03 D) {p : Int} (hp : 0 ≤ p ∧ p ≤ 8) : (zI (enc D) >>> (zI (2 * p) &&& 31)) &&& 3 = zI (if p = 8 then 3 else D p) := by
  have hr := en_r h
  have h0 := h 0 (by omega) (by omega)
  have h1 := h 1 (by omega) (by omega)
  have h2 := h 2 (by omega) (by omega)
  have h3 := h 3 (by omega) (by omega)
  have h4 := h 4 (by omega) (by omega)
  have h5 := h 5 (by omega) (by omega)
  have h6 := h 6 (by omega) (by omega)
  have h7 := h 7 (by omega) (by omega)
  rcases p9 hp with rfl | rfl | rfl | rfl | rfl | rfl | rfl | rfl | rfl
  · rw [zi_shr (by omega) _ 0 (by decide), zi_and3 (by omega), if_neg (by decide)]
    apply congrArg zI; unfold enc; omega
  · rw [zi_shr (by omega) _ 2 (by decide), zi_and3 (by omega), if_neg (by decide)]
    apply congrArg zI; unfold enc; omega
  · rw [zi_shr (by omega) _ 4 (by decide), zi_and3 (by omega), if_neg (by decide)]
    apply congrArg zI; unfold enc; omega
  · rw [zi_shr (by omega) _ 6 (by decide), zi_and3 (by omega), if_neg (by decide)]
    apply congrArg zI; unfold enc; omega
  · rw [zi_shr (by omega) _ 8 (by decide), zi_and3 (by omega), if_neg (by decide)]
    apply congrArg zI; unfold enc; omega
  · rw [zi_shr (by omega) _ 10 (by decide), zi_and3 (by omega), if_neg (by decide)]
    apply congrArg zI; unfold enc; omega
  · rw [zi_shr (by omega) _ 12 (by decide), zi_and3 (by omega), if_neg (by decide)]
    apply congrArg zI; unfold enc; omega
  · rw [zi_shr (by omega) _ 14 (by decide), zi_and3 (by omega), if_neg (by decide)]
    apply congrArg zI; unfold enc; omega
  · rw [zi_shr (by omega) _ 16 (by decide), zi_and3 (by omega), if_pos rfl]
    apply congrArg zI; unfold enc; omega
def dset (D : Int → Int) (p s : Int) : Int → Int := fun q => if q = p then s else D q
theorem en_put {D : Int → Int} {p s : Int} (hp : 0 ≤ p ∧ p ≤ 7) : enc (dset D p s) = enc D + (s - D p) * 4 ^ p.toNat := by
  rcases p9 (p := p) (by omega) with rfl | rfl | rfl | rfl | rfl | rfl | rfl | rfl | rfl
  · have e : (4 : Int) ^ (0 : Int).toNat = 1 := by decide
    rw [e]; simp [enc, dset]; omega
  · have e : (4 : Int) ^ (1 : Int).toNat = 4 := by decide
    rw [e]; simp [enc, dset]; omega
  · have e : (4 : Int) ^ (2 : Int).toNat = 16 := by decide
    rw [e]; simp [enc, dset]; omega
  · have e : (4 : Int) ^ (3 : Int).toNat = 64 := by decide
    rw [e]; simp [enc, dset]; omega
  · have e : (4 : Int) ^ (4 : Int).toNat = 256 := by decide
    rw [e]; simp [enc, dset]; omega
  · have e : (4 : Int) ^ (5 : Int).toNat = 1024 := by decide
    rw [e]; simp [enc, dset]; omega
  · have e : (4 : Int) ^ (6 : Int).toNat = 4096 := by decide
    rw [e]; simp [enc, dset]; omega
  · have e : (4 : Int) ^ (7 : Int).toNat = 16384 := by decide
    rw [e]; simp [enc, dset]; omega
  · omega
theorem en_8 {D : Int → Int} {s : Int} : enc (dset D 8 s) = enc D := by simp [enc, dset]
def pai (g h : Int → Int → Bool) (i j : Int) : Int := 3 * prt g i j + prt h i j
theorem pa_r (g h : Int → Int → Bool) (i j : Int) : 0 ≤ pai g h i j ∧ pai g h i j ≤ 8 := by
  have := pr_r g i j; have := pr_r h i j; unfold pai; omega
def Dgt (g h : Int → Int → Bool) (K : Int → Int → Prop) (D : Int → Int) : Prop := D03 D ∧ ∀ p, 0 ≤ p → p ≤ 8 →
  (∀ i j, Gd i j → K i j → pai g h i j = p → i % 2 + j % 2 + 1 ≤ D p) ∧ (D p = 0 ∨ ∃ i j, Gd i j ∧ K i j ∧ pai g h i j = p ∧ i % 2 + j % 2 + 1 = D p)
theorem dg_c {g h : Int → Int → Bool} {K K' : Int → Int → Prop} {D : Int → Int} (d : Dgt g h K D) (e : ∀ i j, Gd i j → (K i j ↔ K' i j)) : Dgt g h K' D := by
  refine ⟨d.1, fun p h0 h8 => ?_⟩
  obtain ⟨d1, d2⟩ := d.2 p h0 h8
  refine ⟨fun i j gd k => d1 i j gd ((e i j gd).mpr k), ?_⟩
  rcases d2 with d2 | ⟨i, j, gd, k, d3⟩
  · exact Or.inl d2
  · exact Or.inr ⟨i, j, gd, (e i j gd).mp k, d3⟩
theorem dg_u {g h : Int → Int → Bool} {K : Int → Int → Prop} {D D' : Int → Int} (d : Dgt g h K D) (d' : Dgt g h K D') {p : Int} (h0 : 0 ≤ p) (h8 : p ≤ 8) : D p = D' p := by
  obtain ⟨d1, d2⟩ := d.2 p h0 h8
  obtain ⟨e1, e2⟩ := d'.2 p h0 h8
  have r1 := d.1 p h0 h8
  have r2 := d'.1 p h0 h8
  rcases d2 with d2 | ⟨i, j, gd, k, d3, d4⟩
  · rcases e2 with e2 | ⟨i', j', gd', k', e3, e4⟩
    · omega
    · have := d1 i' j' gd' k' e3; omega
  · rcases e2 with e2 | ⟨i', j', gd', k', e3, e4⟩
    · have := e1 i j gd k d3; omega
    · have := d1 i' j' gd' k' e3; have := e1 i j gd k d3; omega
theorem dg_a {g h : Int → Int → Bool} {K K' : Int → Int → Prop} {D : Int → Int} {i0 j0 : Int} (d : Dgt g h K D) (e : ∀ i j, Gd i j → (K' i j ↔ K i j ∨ (i = i0 ∧ j = j0))) (hs : i0 % 2 + j0 % 2 + 1 ≤ D (pai g h i0 j0)) : Dgt g h K' D := by
  refine ⟨d.1, fun p h0 h8 => ?_⟩
  obtain ⟨d1, d2⟩ := d.2 p h0 h8
  refine ⟨fun i j gd k hp => ?_, ?_⟩
  · rcases (e i j gd).mp k with k | ⟨rfl, rfl⟩
    · exact d1 i j gd k hp
    · rw [hp] at hs; exact hs
  · rcases d2 with d2 | ⟨i, j, gd, k, d3⟩
    · exact Or.inl d2
    · exact Or.inr ⟨i, j, gd, (e i j gd).mpr (Or.inl k), d3⟩
theorem dg_b {g h : Int → Int → Bool} {K K' : Int → Int → Prop} {D : Int → Int} {i0 j0 : Int} (gd0 : Gd i0 j0) (d : Dgt g h K D) (e : ∀ i j, Gd i j → (K' i j ↔ K i j ∨ (i = i0 ∧ j = j0))) (hs : D (pai g h i0 j0) < i0 % 2 + j0 % 2 + 1) : Dgt g h K' (dset D (pai g h i0 j0) (i0 % 2 + j0 % 2 + 1)) := by
  refine ⟨fun p h0 h8 => ?_, fun p h0 h8 => ?_⟩
  · have := d.1 p h0 h8
    unfold dset; split <;> omega
  · obtain ⟨d1, d2⟩ := d.2 p h0 h8
    unfold dset
    by_cases q : p = pai g h i0 j0
    · rw [if_pos q]
      refine ⟨fun i j gd k hp => ?_, Or.inr ⟨i0, j0, gd0, (e i0 j0 gd0).mpr (Or.inr ⟨rfl, rfl⟩), q.symm, rfl⟩⟩
      rcases (e i j gd).mp k with k | ⟨rfl, rfl⟩
      · have := d1 i j gd k hp; rw [q] at this; omega
      · omega
    · rw [if_neg q]
      refine ⟨fun i j gd k hp => ?_, ?_⟩
      · rcases (e i j gd).mp k with k | ⟨rfl, rfl⟩
        · exact d1 i j gd k hp
        · exact absurd hp.symm q
      · rcases d2 with d2 | ⟨i, j, gd, k, d3⟩
        · exact Or.inl d2
        · exact Or.inr ⟨i, j, gd, (e i j gd).mpr (Or.inl k), d3⟩
def DA (dg : Nat → Int32) (D : Int → Int) : Prop := ∀ p, 0 ≤ p → p ≤ 8 → dg p.toNat = zI (D p)
theorem da_u {dg : Nat → Int32} {D : Int → Int} (h : DA dg D) {p s : Int} (hp : 0 ≤ p ∧ p ≤ 8) : DA (upd dg p.toNat (zI s)) (dset D p s) := by
  intro q q0 q8
  unfold upd dset
  by_cases e : q = p
  · rw [if_pos e, if_pos (by omega)]
  · rw [if_neg e, if_neg (by omega)]; exact h q q0 q8
section
variable {c rc gc lr rk : Int32} {a cx cy re st dg : Nat → Int32} {S : Int → Int → Int → Bool}
theorem ho_1 {post : Int32 → SX → Prop} {D : Int → Int} (h : DA dg D) {p k : Int} {n : Nat} (hp : 0 ≤ p ∧ p ≤ 8) (w : wX_relate_133 post c rc gc lr rk a cx cy re st dg n (zI (4 * k + D p)) (zI (p - 1))) : wX_relate_133 post c rc gc lr rk a cx cy re st dg (n + 1) (zI k) (zI p) := by
  refine zb_lt p 0 (fun h => absurd h (by omega)) (fun _ => ⟨zv_in p (by omega), nm_r ?_ (nm_r (zi_m1 p) w)⟩)
  rw [zi_cl (by omega), h p hp.1 hp.2]
  have e : 4 * zI k = zI (4 * k) := zi_mul 4 k
  rw [e, zi_add]
theorem ho_9 {post : Int32 → SX → Prop} {D : Int → Int} (h : DA dg D) (h8 : D 8 = 3) (w : post (zI (enc D)) (c, rc, gc, lr, rk, a, cx, cy, re, st, dg)) : wX_relate_133 post c rc gc lr rk a cx cy re st dg 10 0 8 := by
  refine ho_1 (p := 8) (k := 0) h (by omega) ?_
  refine ho_1 (p := 7) h (by omega) ?_
  refine ho_1 (p := 6) h (by omega) ?_
  refine ho_1 (p := 5) h (by omega) ?_
  refine ho_1 (p := 4) h (by omega) ?_
  refine ho_1 (p := 3) h (by omega) ?_
  refine ho_1 (p := 2) h (by omega) ?_
  refine ho_1 (p := 1) h (by omega) ?_
  refine ho_1 (p := 0) h (by omega) ?_
  refine zb_lt (-1) 0 (fun _ => ?_) (fun h => absurd h (by omega))
  have e : enc D = 4 * (4 * (4 * (4 * (4 * (4 * (4 * (4 * (4 * 0 + D 8) + D 7) + D 6) + D 5) + D 4) + D 3) + D 2) + D 1) + D 0 := by unfold enc; omega
  rw [e] at w; exact w
theorem re_i {post : Int32 → SX → Prop} {J : Int32 → (Nat → Int32) → (Nat → Int32) → (Nat → Int32) → (Nat → Int32) → (Nat → Int32) → (Nat → Int32) → Prop} (P : XP a S) {l m j : Int} (hl : 0 ≤ l ∧ l ≤ 5) (hm : 0 ≤ m ∧ m ≤ 5) (hj : 0 ≤ j ∧ j ≤ 24)
    (hJ : ∀ dg D, DA dg D → Dgt (S l) (S m) (fun _ j' => j' < j + 1) D → J (zI (j + 1)) a cx cy re st dg) :
    ∀ (N : Nat) (i : Int) (dg : Nat → Int32) (D : Int → Int), 0 ≤ i → i ≤ 25 → (25 - i).toNat < N → DA dg D → Dgt (S l) (S m) (fun i' j' => j' < j ∨ (j' = j ∧ i' < i)) D → wX_relate_48 post J (zI l) (zI m) (zI j) c rc gc lr rk N (zI i) a cx cy re st dg := by
  intro N
  induction N with
  | zero => intro i dg D h0 h1 h2; omega
  | succ N ih =>
    intro i dg D h0 h1 h2 hd hD
    refine zb_le 25 i (fun h => nm_r (zi_1 j) (hJ dg D hd (dg_c hD (fun i j gd => by omega)))) (fun h => ?_)
    refine xp_part P l i j (by omega) (by omega) (by omega) (xp_part P m i j (by omega) (by omega) (by omega) ?_)
    have q1 := pa_r (S l) (S m) i j
    have e3 : (3 * zI (prt (S l) i j)) + zI (prt (S m) i j) = zI (pai (S l) (S m) i j) := by
      have e : 3 * zI (prt (S l) i j) = zI (3 * prt (S l) i j) := zi_mul 3 _
      rw [e, zi_add]; rfl
    have r3 := hD.1 _ q1.1 q1.2
    have ed : ∀ i' j', Gd i' j' → ((j' < j ∨ (j' = j ∧ i' < i + 1)) ↔ (j' < j ∨ (j' = j ∧ i' < i)) ∨ (i' = i ∧ j' = j)) := fun i' j' _ => by omega
    refine nm_r e3 (xp_dim i j (by omega) (by omega) (nm_r (zi_1 _) ⟨zv_in (pai (S l) (S m) i j) (by omega), ?_⟩))
    rw [zi_cl (by omega), hd _ q1.1 q1.2]
    refine zb_le (i % 2 + j % 2 + 1) _ (fun h3 => nm_r (zi_1 i) ?_) (fun h3 => ⟨zv_in (pai (S l) (S m) i j) (by omega), nm_e (nm_r (zi_1 i) ?_)⟩)
    · exact ih (i + 1) dg D (by omega) (by omega) (by omega) hd (dg_a hD ed h3)
    · exact ih (i + 1) _ _ (by omega) (by omega) (by omega) (da_u hd q1) (dg_b (by omega) hD ed h3)
theorem re_o {post : Int32 → SX → Prop} (P : XP a S) {l m : Int} (hl : 0 ≤ l ∧ l ≤ 5) (hm : 0 ≤ m ∧ m ≤ 5)
    (f : ∀ dg D, Dgt (S l) (S m) (fun _ _ => True) D → post (zI (enc D)) (c, rc, gc, lr, rk, a, cx, cy, re, st, dg)) :
    ∀ (N : Nat) (j : Int) (dg : Nat → Int32) (D : Int → Int), 0 ≤ j → j ≤ 25 → (25 - j).toNat < N → DA dg D → Dgt (S l) (S m) (fun _ j' => j' < j) D → wX_relate_39 post (zI l) (zI m) c rc gc lr rk N (zI j) a cx cy re st dg := by
  intro N
  induction N with
  | zero => intro i dg D h0 h1 h2; omega
  | succ N ih =>
    intro j dg D h0 h1 h2 hd hD
    refine zb_le 25 j (fun h => nm_e ⟨10, ho_9 (da_u (p := 8) (s := 3) hd (by omega)) rfl ?_⟩) (fun h => ⟨26, ?_⟩)
    · rw [en_8]
      exact f _ D (dg_c hD (fun i j gd => ⟨fun _ => trivial, fun _ => by omega⟩))
    · exact re_i P hl hm (by omega) (fun dg' D' hd' hD' => ih (j + 1) dg' D' (by omega) (by omega) (by omega) hd' hD') 26 0 dg D (by omega) (by omega) (by omega) hd (dg_c hD (fun i j gd => by omega))
theorem re_z {post : Int32 → SX → Prop} (P : XP a S) {l m : Int} (hl : 0 ≤ l ∧ l ≤ 5) (hm : 0 ≤ m ∧ m ≤ 5)
    (f : ∀ dg D, Dgt (S l) (S m) (fun _ _ => True) D → post (zI (enc D)) (c, rc, gc, lr, rk, a, cx, cy, re, st, dg)) :
    ∀ (N : Nat) (p : Int) (dg : Nat → Int32), 0 ≤ p → p ≤ 9 → (9 - p).toNat < N → (∀ q, 0 ≤ q → q < p → dg q.toNat = 0) → wX_relate_18 post (zI l) (zI m) c rc gc lr rk N (zI p) a cx cy re st dg := by
  intro N
  induction N with
  | zero => intro i dg h0 h1 h2; omega
  | succ N ih =>
    intro p dg h0 h1 h2 hd
    refine zb_le 9 p (fun h => ⟨26, ?_⟩) (fun h => ⟨zv_in p (by omega), nm_e (nm_r (zi_1 p) ?_)⟩)
    · refine re_o P hl hm f 26 0 dg (fun _ => 0) (by omega) (by omega) (by omega) (fun q q0 q8 => hd q q0 (by omega)) ⟨fun p _ _ => ⟨Int.le_refl _, (by decide : (0 : Int) ≤ 3)⟩, fun p _ _ => ⟨fun i j gd hh => absurd hh (by omega), Or.inl rfl⟩⟩
    · refine ih (p + 1) _ (by omega) (by omega) (by omega) (fun q q0 q1 => ?_)
      rw [zi_cl (by omega)]
      unfold upd
      by_cases e : q = p
      · rw [if_pos (by omega)]
      · rw [if_neg (by omega)]; exact hd q q0 (by omega)
end
section
variable {c : Int32} {ly fi ma se px py la : Nat → Int32} {S : Int → Int → Int → Bool}
theorem re_y {post : Int32 → Prop} (Q : YP ly S) (H : HS S) {l m : Int} (hl : 0 ≤ l ∧ l ≤ 5) (hm : 0 ≤ m ∧ m ≤ 5)
    (f : ∀ D, Dgt (S l) (S m) (fun _ _ => True) D → post (zI (enc D))) :
    ∀ (N : Nat) (n : Int) (D : Int → Int), 0 ≤ n → n ≤ 625 → (625 - n).toNat < N → Dgt (S l) (S m) (fun i' j' => 25 * i' + j' < n) D → wY_relate_24 post (zI l) (zI m) c ly fi ma se px py la N (zI (enc D)) (zI n) := by
  intro N
  induction N with
  | zero => intro n D h0 h1 h2; omega
  | succ N ih =>
    intro n D h0 h1 h2 hD
    refine zb_le 625 n (fun h => f D (dg_c hD (fun i j gd => ⟨fun _ => trivial, fun _ => by omega⟩))) (fun h => ?_)
    refine ⟨by decide, nm_r (zi_d25 (by omega)) ⟨by decide, nm_r (zi_r25 (by omega)) ⟨by decide, by decide, ?_⟩⟩⟩
    rw [zi_r2 (by omega), zi_r2 (by omega), zi_add]
    refine nm_r (zi_1 _) (yp_part Q H l _ _ hl (by omega) (by omega) (yp_part Q H m _ _ hm (by omega) (by omega) ?_))
    have q1 := pa_r (S l) (S m) (n / 25) (n % 25)
    have e3 : 2 * ((3 * zI (prt (S l) (n / 25) (n % 25))) + zI (prt (S m) (n / 25) (n % 25))) = zI (2 * pai (S l) (S m) (n / 25) (n % 25)) := by
      have e : 3 * zI (prt (S l) (n / 25) (n % 25)) = zI (3 * prt (S l) (n / 25) (n % 25)) := zi_mul 3 _
      rw [e, zi_add, zi_dbl]; rfl
    have r3 := hD.1 _ q1.1 q1.2
    have ed : ∀ i' j', Gd i' j' → ((25 * i' + j' < n + 1) ↔ (25 * i' + j' < n) ∨ (i' = n / 25 ∧ j' = n % 25)) := fun i' j' _ => by omega
    refine nm_r e3 (nm_r (en_get hD.1 q1) ?_)
    by_cases h8 : pai (S l) (S m) (n / 25) (n % 25) = 8
    · rw [if_pos h8]
      refine zb_le (n / 25 % 2 + n % 25 % 2 + 1) 3 (fun _ => nm_r (zi_1 n) ?_) (fun h => absurd h (by omega))
      by_cases h9 : n / 25 % 2 + n % 25 % 2 + 1 ≤ D (pai (S l) (S m) (n / 25) (n % 25))
      · exact ih (n + 1) D (by omega) (by omega) (by omega) (dg_a hD ed h9)
      · have := ih (n + 1) _ (by omega) (by omega) (by omega) (dg_b (by omega) hD ed (by omega))
        rw [h8, en_8] at this; exact this
    · rw [if_neg h8]
      refine zb_le (n / 25 % 2 + n % 25 % 2 + 1) _ (fun h9 => nm_r (zi_1 n) ?_) (fun h9 => nm_e (nm_r (zi_1 n) ?_))
      · exact ih (n + 1) D (by omega) (by omega) (by omega) (dg_a hD ed h9)
      · have := ih (n + 1) _ (by omega) (by omega) (by omega) (dg_b (by omega) hD ed h9)
        rw [zi_sub, zi_shl' (by omega) q1, zi_add]
        rw [en_put (by omega)] at this; exact this
end
theorem i_vc_relate {k : Nat} {u : SX} {v : SY} (I : i_Rel k u v) (hk : k + 5 ≤ 2560) (v1 : Int32) (v2 : Int32) : wpX_relate (fun r u' => wpY_relate (fun r' => r' = r ∧ i_Rel (k + 5) u' v) v v1 v2) u v1 v2 := by
  obtain ⟨c, rc, gc, lr, rk, a, cx, cy, re, st, dg⟩ := u
  obtain ⟨c', ly, fi, ma, se, px, py, la⟩ := v
  obtain ⟨S, n, X, Y, P, Q, C, T, rfl, rfl⟩ := I
  obtain ⟨l, hl, rfl⟩ := zi_ex v1
  obtain ⟨m, hm, rfl⟩ := zi_ex v2
  have R0 : i_Rel (k + 5) (zI n, rc, gc, lr, rk, a, cx, cy, re, st, dg) (zI n, ly, fi, ma, se, px, py, la) := i_mk P Q C T
  unfold wpX_relate
  refine xg_layer l hl (fun h1 => b1_f (xg_layer m hm (fun h2 => b1_f ?_) (fun h2 => b0_t ?_))) (fun h1 => b0_t ?_)
  · refine ⟨10, re_z P h1 h2 (fun dg' D hD => ?_) 10 0 dg (by omega) (by omega) (by omega) (fun q q0 q1 => absurd q1 (by omega))⟩
    unfold wpY_relate
    refine yg_layer l hl (fun _ => b1_f (yg_layer m hm (fun _ => b1_f ?_) (fun h => absurd h2 h))) (fun h => absurd h1 h)
    refine ⟨626, re_y Q P.2 h1 h2 (fun D' hD' => ⟨?_, i_mk P Q C T⟩) 626 0 (fun _ => 0) (by omega) (by omega) (by omega) ⟨fun p _ _ => ⟨Int.le_refl _, (by decide : (0 : Int) ≤ 3)⟩, fun p _ _ => ⟨fun i j gd hh => absurd hh (by omega), Or.inl rfl⟩⟩⟩
    unfold enc
    rw [dg_u hD' hD (p := 0) (by omega) (by omega), dg_u hD' hD (p := 1) (by omega) (by omega), dg_u hD' hD (p := 2) (by omega) (by omega), dg_u hD' hD (p := 3) (by omega) (by omega), dg_u hD' hD (p := 4) (by omega) (by omega), dg_u hD' hD (p := 5) (by omega) (by omega), dg_u hD' hD (p := 6) (by omega) (by omega), dg_u hD' hD (p := 7) (by omega) (by omega)]
  · unfold wpY_relate
    exact yg_layer l hl (fun _ => b1_f (yg_layer m hm (fun h => absurd h h2) (fun _ => b0_t ⟨rfl, R0⟩))) (fun h => absurd h1 h)
  · unfold wpY_relate
    exact yg_layer l hl (fun h => absurd h h1) (fun _ => b0_t ⟨rfl, R0⟩)
