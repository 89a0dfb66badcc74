/-! measure: counting atoms -/
def cX (F : Int → Int → Bool) (q : Nat) : Nat := cnt (fun m => F ((m : Int) % 25) ((m : Int) / 25)) q
def cY (F : Int → Int → Bool) (q : Nat) : Nat := cnt (fun m => F ((m : Int) / 25) ((m : Int) % 25)) q
theorem cX_s {F : Int → Int → Bool} {i j : Int} (hi : 0 ≤ i ∧ i ≤ 24) (hj : 0 ≤ j) : (cX F (25 * j + (i + 1)).toNat : Int) = cX F (25 * j + i).toNat + bZ (F i j) := by
  have e : (25 * j + (i + 1)).toNat = (25 * j + i).toNat + 1 := by omega
  have e1 : (((25 * j + i).toNat : Nat) : Int) % 25 = i := by omega
  have e2 : (((25 * j + i).toNat : Nat) : Int) / 25 = j := by omega
  unfold cX
  rw [e, cn_s]
  rw [e1, e2]
  cases F i j <;> simp [bN, bZ]
theorem cY_s {F : Int → Int → Bool} {n : Int} (hn : 0 ≤ n) : (cY F (n + 1).toNat : Int) = cY F n.toNat + bZ (F (n / 25) (n % 25)) := by
  have e : (n + 1).toNat = n.toNat + 1 := by omega
  have e1 : ((n.toNat : Nat) : Int) = n := by omega
  unfold cY
  rw [e, cn_s]
  rw [e1]
  cases F (n / 25) (n % 25) <;> simp [bN, bZ]
theorem c_tr (F : Int → Int → Bool) : cX F 625 = cY F 625 := by
  unfold cX cY
  refine cn_bij (P := fun _ => true) (N := 625) (fun n => F ((n : Int) / 25) ((n : Int) % 25)) (fun k => (25 * (k % 25) + k / 25)) 625 _ (fun k hk h => ?_) (fun k k' hk hk' _ _ e => ?_) (fun n hn h => ?_)
  · refine ⟨by show 25 * (k % 25) + k / 25 < 625; omega, ?_⟩
    show F (((25 * (k % 25) + k / 25 : Nat) : Int) % 25) (((25 * (k % 25) + k / 25 : Nat) : Int) / 25) = true
    have e1 : ((25 * (k % 25) + k / 25 : Nat) : Int) % 25 = (k : Int) / 25 := by omega
    have e2 : ((25 * (k % 25) + k / 25 : Nat) : Int) / 25 = (k : Int) % 25 := by omega
    rw [e1, e2]; exact h
  · have e' : 25 * (k % 25) + k / 25 = 25 * (k' % 25) + k' / 25 := e
    omega
  · refine ⟨25 * (n % 25) + n / 25, by omega, ?_, ?_⟩
    · show F (((25 * (n % 25) + n / 25 : Nat) : Int) / 25) (((25 * (n % 25) + n / 25 : Nat) : Int) % 25) = true
      have e1 : ((25 * (n % 25) + n / 25 : Nat) : Int) % 25 = (n : Int) / 25 := by omega
      have e2 : ((25 * (n % 25) + n / 25 : Nat) : Int) / 25 = (n : Int) % 25 := by omega
      rw [e1, e2]; exact h
    · show 25 * ((25 * (n % 25) + n / 25) % 25) + (25 * (n % 25) + n / 25) / 25 = n
      omega
def PF (g : Int → Int → Bool) (dm pt : Int) (i j : Int) : Bool := decide (i % 2 + j % 2 = dm) && decide (prt g i j = pt)
def LF (g : Int → Int → Bool) (i j : Int) : Bool := decide (i % 2 + j % 2 = 1) && (g i j && decide (cc g i j = 0))
section
variable {c rc gc lr rk : Int32} {a cx cy re st dg : Nat → Int32} {S : Int → Int → Int → Bool}
theorem cp_i {post : Int32 → Prop} {J : Int32 → Int32 → Prop} (P : XP a S) {l dm pt j : Int} (hl : 0 ≤ l ∧ l ≤ 6) (hd : 0 ≤ dm ∧ dm ≤ 2) (hp : 0 ≤ pt ∧ pt ≤ 2) (hj : 0 ≤ j ∧ j ≤ 24)
    (hJ : J (zI (cX (PF (S l) dm pt) (25 * (j + 1) + 0).toNat)) (zI (j + 1))) :
    ∀ (N : Nat) (i : Int), 0 ≤ i → i ≤ 25 → (25 - i).toNat < N → wX_countParts_16 post J (zI l) (zI dm) (zI pt) (zI j) c rc gc lr rk a cx cy re st dg N (zI (cX (PF (S l) dm pt) (25 * j + i).toNat)) (zI i) := by
  intro N
  induction N with
  | zero => intro i h0 h1; omega
  | succ N ih =>
    intro i h0 h1 h2
    refine zb_le 25 i (fun h => nm_r (zi_1 j) ?_) (fun h => ?_)
    · have e : 25 * j + i = 25 * (j + 1) + 0 := by omega
      rw [e]; exact hJ
    · have w := ih (i + 1) (by omega) (by omega) (by omega)
      rw [cX_s (by omega) hj.1] at w
      have pr := pr_r (S l) i j
      have no : PF (S l) dm pt i j = false → wX_countParts_16 post J (zI l) (zI dm) (zI pt) (zI j) c rc gc lr rk a cx cy re st dg N (zI (cX (PF (S l) dm pt) (25 * j + i).toNat)) (zI (i + 1)) := by
        intro hh; rw [hh] at w; simpa [bZ] using w
      refine xp_dim i j (by omega) (by omega) (zb_eq (i % 2 + j % 2) dm (fun q => xp_part P l i j hl (by omega) (by omega) (zb_eq (prt (S l) i j) pt (fun q2 => nm_r (zi_1 _) (nm_r (zi_1 _) ?_)) (fun q2 => nm_r (zi_1 _) (no ?_)))) (fun q => nm_r (zi_1 _) (no ?_)))
      · have : PF (S l) dm pt i j = true := by unfold PF; rw [Bool.and_eq_true, decide_eq_true_eq, decide_eq_true_eq]; exact ⟨q, q2⟩
        rw [this] at w; exact w
      · unfold PF
        have : decide (prt (S l) i j = pt) = false := by rw [decide_eq_false_iff_not]; exact q2
        rw [this, Bool.and_false]
      · unfold PF
        have : decide (i % 2 + j % 2 = dm) = false := by rw [decide_eq_false_iff_not]; exact q
        rw [this, Bool.false_and]
theorem xp_cp {post : Int32 → Prop} (P : XP a S) {l dm pt : Int} (hl : 0 ≤ l ∧ l ≤ 6) (hd : 0 ≤ dm ∧ dm ≤ 2) (hp : 0 ≤ pt ∧ pt ≤ 2) (f : post (zI (cX (PF (S l) dm pt) 625))) : wpX_countParts post (c, rc, gc, lr, rk, a, cx, cy, re, st, dg) (zI l) (zI dm) (zI pt) := by
  unfold wpX_countParts
  have key : ∀ (N : Nat) (j : Int), 0 ≤ j → j ≤ 25 → (25 - j).toNat < N → wX_countParts_6 post (zI l) (zI dm) (zI pt) c rc gc lr rk a cx cy re st dg N (zI (cX (PF (S l) dm pt) (25 * j + 0).toNat)) (zI j) := by
    intro N
    induction N with
    | zero => intro i h0 h1; omega
    | succ N ih =>
      intro j h0 h1 h2
      refine zb_le 25 j (fun h => ?_) (fun h => ⟨26, ?_⟩)
      · have e : (25 * j + 0).toNat = 625 := by omega
        rw [e]; exact f
      · exact cp_i P hl hd hp (by omega) (ih (j + 1) (by omega) (by omega) (by omega)) 26 0 (by omega) (by omega) (by omega)
  exact ⟨26, key 26 0 (by omega) (by omega) (by omega)⟩
theorem cl_i {post : Int32 → Prop} {J : Int32 → Int32 → Prop} (P : XP a S) {l j : Int} (hl : 0 ≤ l ∧ l ≤ 6) (hj : 0 ≤ j ∧ j ≤ 24)
    (hJ : J (zI (cX (LF (S l)) (25 * (j + 1) + 0).toNat)) (zI (j + 1))) :
    ∀ (N : Nat) (i : Int), 0 ≤ i → i ≤ 25 → (25 - i).toNat < N → wX_countLineEdges_13 post J (zI l) (zI j) c rc gc lr rk a cx cy re st dg N (zI (cX (LF (S l)) (25 * j + i).toNat)) (zI i) := by
  intro N
  induction N with
  | zero => intro i h0 h1; omega
  | succ N ih =>
    intro i h0 h1 h2
    refine zb_le 25 i (fun h => nm_r (zi_1 j) ?_) (fun h => ?_)
    · have e : 25 * j + i = 25 * (j + 1) + 0 := by omega
      rw [e]; exact hJ
    · have w := ih (i + 1) (by omega) (by omega) (by omega)
      rw [cX_s (by omega) hj.1] at w
      have cr := cc_r (S l) i j
      have no : LF (S l) i j = false → wX_countLineEdges_13 post J (zI l) (zI j) c rc gc lr rk a cx cy re st dg N (zI (cX (LF (S l)) (25 * j + i).toNat)) (zI (i + 1)) := by
        intro hh; rw [hh] at w; simpa [bZ] using w
      have k45 : LF (S l) i j = false → wX_countLineEdges_45 post J (wX_countLineEdges_13 post J (zI l) (zI j) c rc gc lr rk a cx cy re st dg N) (zI l) (zI (cX (LF (S l)) (25 * j + i).toNat)) (zI j) (zI i) c rc gc lr rk a cx cy re st dg := by
        intro hh
        unfold wX_countLineEdges_45 wX_countLineEdges_46
        exact b0_t (nm_r (zi_1 i) (no hh))
      refine xp_dim i j (by omega) (by omega) (zb_eq (i % 2 + j % 2) 1 (fun q => xp_has P l i j hl (by omega) (by omega) (bb_0 (fun q2 => k45 ?_) (fun q2 => ?_))) (fun q => k45 ?_))
      · unfold LF; rw [q2, Bool.false_and, Bool.and_false]
      · unfold wX_countLineEdges_46
        refine b1_f (xp_cells P l i j hl (by omega) (zb_eq (cc (S l) i j) 0 (fun q3 => nm_r (zi_1 _) (nm_r (zi_1 _) ?_)) (fun q3 => nm_r (zi_1 _) (no ?_))))
        · have : LF (S l) i j = true := by
            unfold LF; rw [Bool.and_eq_true, Bool.and_eq_true, decide_eq_true_eq, decide_eq_true_eq]; exact ⟨q, q2, q3⟩
          rw [this] at w; exact w
        · unfold LF
          have : decide (cc (S l) i j = 0) = false := by rw [decide_eq_false_iff_not]; exact q3
          rw [this, Bool.and_false, Bool.and_false]
      · unfold LF
        have : decide (i % 2 + j % 2 = 1) = false := by rw [decide_eq_false_iff_not]; exact q
        rw [this, Bool.false_and]
theorem xp_cl {post : Int32 → Prop} (P : XP a S) {l : Int} (hl : 0 ≤ l ∧ l ≤ 6) (f : post (zI (cX (LF (S l)) 625))) : wpX_countLineEdges post (c, rc, gc, lr, rk, a, cx, cy, re, st, dg) (zI l) := by
  unfold wpX_countLineEdges
  have key : ∀ (N : Nat) (j : Int), 0 ≤ j → j ≤ 25 → (25 - j).toNat < N → wX_countLineEdges_4 post (zI l) c rc gc lr rk a cx cy re st dg N (zI (cX (LF (S l)) (25 * j + 0).toNat)) (zI j) := by
    intro N
    induction N with
    | zero => intro i h0 h1; omega
    | succ N ih =>
      intro j h0 h1 h2
      refine zb_le 25 j (fun h => ?_) (fun h => ⟨26, ?_⟩)
      · have e : (25 * j + 0).toNat = 625 := by omega
        rw [e]; exact f
      · exact cl_i P hl (by omega) (ih (j + 1) (by omega) (by omega) (by omega)) 26 0 (by omega) (by omega) (by omega)
  exact ⟨26, key 26 0 (by omega) (by omega) (by omega)⟩
end
def MF (g : Int → Int → Bool) (w : Int) : Int → Int → Bool := if w = 0 then PF g 2 0 else if w = 1 then LF g else if w = 2 then PF g 1 1 else PF g 0 1
section
variable {c : Int32} {fi ly ma se px py la : Nat → Int32} {S : Int → Int → Int → Bool}
theorem ms_190 {post : Int32 → SY → Prop} {J : Int32 → Int32 → Prop} {l w k n dm pt : Int} (hw : 0 ≤ w ∧ w ≤ 3) (hd : 0 ≤ dm ∧ dm ≤ 2) (hp : 0 ≤ pt ∧ pt ≤ 2)
    (f : J (zI (k + bZ (decide (w = 3 ∧ dm = 0 ∧ pt = 1)))) (zI (n + 1))) : wY_measure_190 post J (zI l) (zI w) (zI k) (zI n) (zI dm) (zI pt) c ly fi ma se px py la := by
  have no : ¬ (w = 3 ∧ dm = 0 ∧ pt = 1) → J (zI k) (zI (n + 1)) := by
    intro h
    have : decide (w = 3 ∧ dm = 0 ∧ pt = 1) = false := by rw [decide_eq_false_iff_not]; exact h
    rw [this] at f; simpa [bZ] using f
  refine zb_eq w 3 (fun q1 => zb_eq dm 0 (fun q2 => zb_eq pt 1 (fun q3 => nm_r (zi_1 k) (nm_r (zi_1 n) ?_)) (fun q3 => nm_r (zi_1 n) (no (by omega)))) (fun q2 => nm_r (zi_1 n) (no (by omega)))) (fun q1 => nm_r (zi_1 n) (no (by omega)))
  have : decide (w = 3 ∧ dm = 0 ∧ pt = 1) = true := by rw [decide_eq_true_eq]; exact ⟨q1, q2, q3⟩
  rw [this] at f; exact f
theorem ms_170 {post : Int32 → SY → Prop} {J : Int32 → Int32 → Prop} {l w k n dm pt : Int} (hw : 0 ≤ w ∧ w ≤ 3) (hd : 0 ≤ dm ∧ dm ≤ 2) (hp : 0 ≤ pt ∧ pt ≤ 2)
    (f : J (zI (k + bZ (decide (w = 2 ∧ dm = 1 ∧ pt = 1)) + bZ (decide (w = 3 ∧ dm = 0 ∧ pt = 1)))) (zI (n + 1))) : wY_measure_170 post J (zI l) (zI w) (zI k) (zI n) (zI dm) (zI pt) c ly fi ma se px py la := by
  have no : ¬ (w = 2 ∧ dm = 1 ∧ pt = 1) → wY_measure_190 post J (zI l) (zI w) (zI k) (zI n) (zI dm) (zI pt) c ly fi ma se px py la := by
    intro h
    have : decide (w = 2 ∧ dm = 1 ∧ pt = 1) = false := by rw [decide_eq_false_iff_not]; exact h
    rw [this] at f
    have e : k + bZ false = k := by simp [bZ]
    rw [e] at f
    exact ms_190 hw hd hp f
  refine zb_eq w 2 (fun q1 => zb_eq dm 1 (fun q2 => zb_eq pt 1 (fun q3 => nm_r (zi_1 k) ?_) (fun q3 => no (by omega))) (fun q2 => no (by omega))) (fun q1 => no (by omega))
  have : decide (w = 2 ∧ dm = 1 ∧ pt = 1) = true := by rw [decide_eq_true_eq]; exact ⟨q1, q2, q3⟩
  rw [this] at f
  exact ms_190 hw hd hp f
theorem ms_139 {post : Int32 → SY → Prop} {J : Int32 → Int32 → Prop} (Q : YP ly S) (H : HS S) {l w k n i j : Int} (hl : 0 ≤ l ∧ l ≤ 5) (hw : 0 ≤ w ∧ w ≤ 3) (hg : Gd i j)
    (f : J (zI (k + bZ (decide (w = 1 ∧ i % 2 + j % 2 = 1 ∧ prt (S l) i j = 0 ∧ cc (S l) i j = 0)) + bZ (decide (w = 2 ∧ i % 2 + j % 2 = 1 ∧ prt (S l) i j = 1)) + bZ (decide (w = 3 ∧ i % 2 + j % 2 = 0 ∧ prt (S l) i j = 1)))) (zI (n + 1))) : wY_measure_139 post J (zI l) (zI w) (zI k) (zI n) (zI i) (zI j) (zI (i % 2 + j % 2)) (zI (prt (S l) i j)) c ly fi ma se px py la := by
  have hp := pr_r (S l) i j
  have cr := cc_r (S l) i j
  have no : ¬ (w = 1 ∧ i % 2 + j % 2 = 1 ∧ prt (S l) i j = 0 ∧ cc (S l) i j = 0) → wY_measure_170 post J (zI l) (zI w) (zI k) (zI n) (zI (i % 2 + j % 2)) (zI (prt (S l) i j)) c ly fi ma se px py la := by
    intro h
    have : decide (w = 1 ∧ i % 2 + j % 2 = 1 ∧ prt (S l) i j = 0 ∧ cc (S l) i j = 0) = false := by rw [decide_eq_false_iff_not]; exact h
    rw [this] at f
    have e : k + bZ false = k := by simp [bZ]
    rw [e] at f
    exact ms_170 hw (by omega) hp f
  refine zb_eq w 1 (fun q1 => zb_eq (i % 2 + j % 2) 1 (fun q2 => zb_eq (prt (S l) i j) 0 (fun q3 => yp_cells Q H l i j hl hg (by omega) (zb_eq (cc (S l) i j) 0 (fun q4 => nm_r (zi_1 k) ?_) (fun q4 => no (by omega)))) (fun q3 => no (by omega))) (fun q2 => no (by omega))) (fun q1 => no (by omega))
  have : decide (w = 1 ∧ i % 2 + j % 2 = 1 ∧ prt (S l) i j = 0 ∧ cc (S l) i j = 0) = true := by rw [decide_eq_true_eq]; exact ⟨q1, q2, q3, q4⟩
  rw [this] at f
  exact ms_170 hw (by omega) hp f
theorem mf_e {g : Int → Int → Bool} {w i j : Int} (hw : 0 ≤ w ∧ w ≤ 3) : bZ (decide (w = 0 ∧ i % 2 + j % 2 = 2 ∧ prt g i j = 0)) + bZ (decide (w = 1 ∧ i % 2 + j % 2 = 1 ∧ prt g i j = 0 ∧ cc g i j = 0)) + bZ (decide (w = 2 ∧ i % 2 + j % 2 = 1 ∧ prt g i j = 1)) + bZ (decide (w = 3 ∧ i % 2 + j % 2 = 0 ∧ prt g i j = 1)) = bZ (MF g w i j) := by
  have e : w = 0 ∨ w = 1 ∨ w = 2 ∨ w = 3 := by omega
  rcases e with rfl | rfl | rfl | rfl
  · simp [MF, PF, bZ]
  · have : LF g i j = decide (i % 2 + j % 2 = 1 ∧ prt g i j = 0 ∧ cc g i j = 0) := by
      refine be ?_
      unfold LF
      rw [Bool.and_eq_true, Bool.and_eq_true, decide_eq_true_eq, decide_eq_true_eq, decide_eq_true_eq]
      constructor
      · rintro ⟨h1, h2, h3⟩
        refine ⟨h1, ?_, h3⟩
        unfold prt
        rw [if_neg (by rw [h2]; decide), if_neg (by omega), if_pos (by omega), if_neg (by omega)]
      · rintro ⟨h1, h2, h3⟩
        refine ⟨h1, ?_, h3⟩
        cases z : g i j
        · unfold prt at h2; rw [if_pos z] at h2; omega
        · rfl
    simp [MF, this, bZ]
  · simp [MF, PF, bZ]
  · simp [MF, PF, bZ]
theorem ms_77 {post : Int32 → SY → Prop} (Q : YP ly S) (H : HS S) {l w : Int} (hl : 0 ≤ l ∧ l ≤ 5) (hw : 0 ≤ w ∧ w ≤ 3)
    (f : post (zI (cY (MF (S l) w) 625)) (c, ly, fi, ma, se, px, py, la)) :
    ∀ (N : Nat) (n : Int), 0 ≤ n → n ≤ 625 → (625 - n).toNat < N → wY_measure_77 post (zI l) (zI w) c ly fi ma se px py la N (zI (cY (MF (S l) w) n.toNat)) (zI n) := by
  intro N
  induction N with
  | zero => intro n h0 h1; omega
  | succ N ih =>
    intro n h0 h1 h2
    refine zb_le 625 n (fun h => ?_) (fun h => ?_)
    · have e : n.toNat = 625 := by omega
      rw [e]; exact f
    · have gq : Gd (n / 25) (n % 25) := by omega
      have hp := pr_r (S l) (n / 25) (n % 25)
      have w1 := ih (n + 1) (by omega) (by omega) (by omega)
      rw [cY_s h0, ← mf_e hw] at w1
      refine ⟨by decide, nm_r (zi_d25 (by omega)) ⟨by decide, nm_r (zi_r25 (by omega)) ⟨by decide, by decide, ?_⟩⟩⟩
      rw [zi_r2 (by omega), zi_r2 (by omega), zi_add]
      refine nm_e (yp_part Q H l _ _ hl (by omega) (by omega) ?_)
      generalize (cY (MF (S l) w) n.toNat : Int) = k at w1 ⊢
      have no : ¬ (w = 0 ∧ n / 25 % 2 + n % 25 % 2 = 2 ∧ prt (S l) (n / 25) (n % 25) = 0) → wY_measure_139 post (wY_measure_77 post (zI l) (zI w) c ly fi ma se px py la N) (zI l) (zI w) (zI k) (zI n) (zI (n / 25)) (zI (n % 25)) (zI (n / 25 % 2 + n % 25 % 2)) (zI (prt (S l) (n / 25) (n % 25))) c ly fi ma se px py la := by
        intro hh
        refine ms_139 Q H hl hw gq ?_
        have : decide (w = 0 ∧ n / 25 % 2 + n % 25 % 2 = 2 ∧ prt (S l) (n / 25) (n % 25) = 0) = false := by rw [decide_eq_false_iff_not]; exact hh
        rw [this] at w1
        have e : bZ false = 0 := rfl
        rw [e, Int.zero_add, ← Int.add_assoc, ← Int.add_assoc] at w1
        exact w1
      refine zb_eq w 0 (fun q1 => zb_eq (n / 25 % 2 + n % 25 % 2) 2 (fun q2 => zb_eq (prt (S l) (n / 25) (n % 25)) 0 (fun q3 => nm_r (zi_1 k) ?_) (fun q3 => no (fun z => q3 z.2.2))) (fun q2 => no (fun z => q2 z.2.1))) (fun q1 => no (fun z => q1 z.1))
      refine ms_139 Q H hl hw gq ?_
      have : decide (w = 0 ∧ n / 25 % 2 + n % 25 % 2 = 2 ∧ prt (S l) (n / 25) (n % 25) = 0) = true := by rw [decide_eq_true_eq]; exact ⟨q1, q2, q3⟩
      rw [this] at w1
      have e : bZ true = 1 := rfl
      rw [e, ← Int.add_assoc, ← Int.add_assoc, ← Int.add_assoc] at w1
      exact w1
end
