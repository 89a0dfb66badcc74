/-! Y's fill -/
def FY (X Y : Int → Int) (t : Int) (i j : Int) : Bool := decide (Gd i j ∧ i % 2 = 1 ∧ j % 2 = 1) && fo (psY X Y i j) t.toNat
theorem fy_s {X Y : Int → Int} {t : Int} : Sup (FY X Y t) := by
  intro i j h
  unfold FY at h
  rw [Bool.and_eq_true, decide_eq_true_eq] at h
  exact h.1.1
/-- the steps that Y passes over: its corners up to t, t included -/
def PtY (t : Int) (X Y : Int → Int) (px py : Nat → Int32) : Prop := (0 ≤ t ∧ t ≤ 24) ∧ ∀ k, 0 ≤ k → k ≤ t → (0 ≤ X k ∧ X k ≤ 12) ∧ (0 ≤ Y k ∧ Y k ≤ 12) ∧ px k.toNat = zI (X k) ∧ py k.toNat = zI (Y k)
section
variable {c : Int32} {fi ly se px py la : Nat → Int32} {S : Int → Int → Int → Bool}
theorem yp_6 {ma : Nat → Int32} {post : Int32 → Prop} {i j t : Int} {X Y : Int → Int} (T : PtY t X Y px py) (hi : 0 ≤ i ∧ i ≤ 24) (hj : 0 ≤ j ∧ j ≤ 24) (f : post (zI (cnt (psY X Y i j) t.toNat))) :
    ∀ (N : Nat) (k : Int), 0 ≤ k → k ≤ t → (t - k).toNat < N → wY_passes_6 post (zI i) (zI j) (zI t) c ly fi ma se px py la N (zI (cnt (psY X Y i j) k.toNat)) (zI k) := by
  have ht := T.1
  intro N
  induction N with
  | zero => intro k h0 h1; omega
  | succ N ih =>
    intro k h0 h1 h2
    refine zb_le t k (fun h => ?_) (fun h => ?_)
    · have e : k = t := by omega
      subst e; exact f
    · obtain ⟨b1, b2, b3, b4⟩ := T.2 k h0 (by omega)
      obtain ⟨d1, d2, d3, d4⟩ := T.2 (k + 1) (by omega) (by omega)
      have c1 : (zI k).toNatClampNeg = k.toNat := zi_cl (by omega)
      have c2 : (zI k + 1).toNatClampNeg = (k + 1).toNat := zv_cl (k + 1) (zi_1 k)
      have v1 : vp_in (zI k) 25 := zv_in k (by omega)
      have v2 : vp_in (zI k + 1) 25 := zv_in (k + 1) (by omega) (zi_1 k)
      have e2 : (k + 1).toNat = k.toNat + 1 := by omega
      have e3 : ((k.toNat : Nat) : Int) = k := by omega
      have w := ih (k + 1) (by omega) (by omega) (by omega)
      rw [e2] at w
      simp only [cnt] at w
      have no : psY X Y i j k.toNat = false → wY_passes_6 post (zI i) (zI j) (zI t) c ly fi ma se px py la N (zI (cnt (psY X Y i j) k.toNat)) (zI (k + 1)) := by
        intro hf
        rw [hf] at w
        simpa using w
      have ye : psY X Y i j k.toNat = true → wY_passes_6 post (zI i) (zI j) (zI t) c ly fi ma se px py la N (zI (cnt (psY X Y i j) k.toNat + 1)) (zI (k + 1)) := by
        intro hf
        rw [hf] at w
        simpa using w
      have psd : psY X Y i j k.toNat = (decide (X k = X (k + 1)) && (decide (2 * X k < i) && decide ((2 * Y k ≤ j ∧ j ≤ 2 * Y (k + 1)) ∨ (2 * Y (k + 1) ≤ j ∧ j ≤ 2 * Y k)))) := by
        unfold psY; rw [e3]; rfl
      rw [c1, c2, b3, d3, zi_dbl]
      refine ⟨v1, v2, zb_eq (X k) (X (k + 1)) (fun q1 => ⟨v1, zb_le i (2 * X k) (fun q2 => nm_r (zi_1 k) (no ?_)) (fun q2 => ⟨v1, ?_⟩)⟩) (fun q1 => nm_r (zi_1 k) (no ?_))⟩
      · have : decide (2 * X k < i) = false := by rw [decide_eq_false_iff_not]; omega
        rw [psd, this]; simp
      · have t1 : decide (X k = X (k + 1)) = true := by rw [decide_eq_true_eq]; exact q1
        have t2 : decide (2 * X k < i) = true := by rw [decide_eq_true_eq]; exact q2
        refine yp_step (by omega) (by omega) (by omega) b1 b2 d1 d2 b3 b4 d3 d4 (fun hr => b1_f (nm_r (zi_1 _) (nm_r (zi_1 k) (ye ?_)))) (fun hr => b0_t (nm_r (zi_1 k) (no ?_)))
        · rw [psd, t1, t2]
          have : decide ((2 * Y k ≤ j ∧ j ≤ 2 * Y (k + 1)) ∨ (2 * Y (k + 1) ≤ j ∧ j ≤ 2 * Y k)) = true := by rw [decide_eq_true_eq]; exact hr.2
          rw [this]; rfl
        · rw [psd, t1, t2]
          have : decide ((2 * Y k ≤ j ∧ j ≤ 2 * Y (k + 1)) ∨ (2 * Y (k + 1) ≤ j ∧ j ≤ 2 * Y k)) = false := by
            rw [decide_eq_false_iff_not]
            exact fun h => hr ⟨Or.inl (by omega), h⟩
          rw [this]; rfl
      · have : decide (X k = X (k + 1)) = false := by rw [decide_eq_false_iff_not]; exact q1
        rw [psd, this, Bool.false_and]
theorem yf_253 {post : Int32 → SY → Prop} {op l : Int} {F : Int → Int → Bool} (ho : 0 ≤ op ∧ op ≤ 3) (hl : 0 ≤ l ∧ l ≤ 5) (H : HS S) (HF : Sup F) (Q : YP ly S) (A : A1 fi F)
    (f : ∀ ly' ma' se', YP ly' (setl S l (clos (fun i j => opB op (S l i j) (F i j)))) → post 1 (c, ly', fi, ma', se', px, py, la)) :
    ∀ (N : Nat) (q : Int) (ma se : Nat → Int32), 0 ≤ q → q ≤ 625 → (625 - q).toNat < N → (∀ i j, Gd i j → 25 * i + j < q → ma (25 * i + j).toNat = bI (opB op (S l i j) (F i j))) → wY_fill_253 post (zI l) (zI op) c N (zI q) ly fi ma se px py la := by
  intro N
  induction N with
  | zero => intro q ma h0 h1; omega
  | succ N ih =>
    intro q ma se h0 h1 h2 hM
    have e1 := zi_in2 l q
    refine zb_le 625 q (fun h => ?_) (fun h => ⟨zv_in (625 * l + q) (by omega) e1, zv_in q (by omega), ?_⟩)
    · refine yp_close (g := fun i j => opB op (S l i j) (F i j)) (op_s (fun i j => H l i j) HF) (fun i j gd => hM i j gd (by omega)) (fun ma' se' A' => ?_)
      exact yp_keep Q l hl A' (fun ly' Q' => f ly' ma' se' Q')
    · have gq : Gd (q / 25) (q % 25) := by omega
      have ix : 625 * l + q = 625 * l + 25 * (q / 25) + q % 25 := by omega
      have ix2 : q = 25 * (q / 25) + q % 25 := by omega
      have r1 : ly (625 * l + q).toNat = bI (S l (q / 25) (q % 25)) := by rw [ix]; exact Q l _ _ hl.1 hl.2 gq
      have r2 : fi q.toNat = bI (F (q / 25) (q % 25)) := by have := A _ _ gq; rw [← ix2] at this; exact this
      rw [zv_cl _ e1, zi_cl (by omega), r1, r2]
      refine yp_mem ho _ _ ⟨zv_in q (by omega), nm_e (nm_r (zi_1 q) ?_)⟩
      refine ih (q + 1) _ se (by omega) (by omega) (by omega) (fun i j gd hlt => ?_)
      rw [bi_v]
      unfold upd
      by_cases e : 25 * i + j = q
      · have ei : i = q / 25 := by omega
        have ej : j = q % 25 := by omega
        rw [if_pos (by omega), ei, ej]
      · rw [if_neg (by omega)]; exact hM i j gd (by omega)
theorem yf_222 {post : Int32 → SY → Prop} {ma : Nat → Int32} {op l : Int} {F : Int → Int → Bool} (ho : 0 ≤ op ∧ op ≤ 3) (hl : 0 ≤ l ∧ l ≤ 5) (H : HS S) (HF : Sup F) (Q : YP ly S) (A : A1 ma F)
    (f : ∀ ly' fi' ma' se', YP ly' (setl S l (clos (fun i j => opB op (S l i j) (F i j)))) → post 1 (c, ly', fi', ma', se', px, py, la)) :
    ∀ (N : Nat) (q : Int) (fi : Nat → Int32), 0 ≤ q → q ≤ 625 → (625 - q).toNat < N → (∀ i j, Gd i j → 25 * i + j < q → fi (25 * i + j).toNat = bI (F i j)) → wY_fill_222 post (zI l) (zI op) c N (zI q) ly fi ma se px py la := by
  intro N
  induction N with
  | zero => intro q ma h0 h1; omega
  | succ N ih =>
    intro q fi h0 h1 h2 hM
    refine zb_le 625 q (fun h => ⟨626, ?_⟩) (fun h => ⟨zv_in q (by omega), zv_in q (by omega), nm_e (nm_r (zi_1 q) ?_)⟩)
    · exact yf_253 (F := F) ho hl H HF Q (fun i j gd => hM i j gd (by omega)) (fun ly' ma' se' Q' => f ly' fi ma' se' Q') 626 0 ma se (by omega) (by omega) (by omega) (fun i j gd hlt => absurd hlt (by omega))
    · refine ih (q + 1) _ (by omega) (by omega) (by omega) (fun i j gd hlt => ?_)
      rw [zi_cl (by omega)]
      unfold upd
      by_cases e : 25 * i + j = q
      · rw [if_pos (by omega), ← e, A i j gd, bi_v]
      · rw [if_neg (by omega)]; exact hM i j gd (by omega)
theorem yf_143 {post : Int32 → SY → Prop} {op l t : Int} {X Y : Int → Int} (ho : 0 ≤ op ∧ op ≤ 3) (hl : 0 ≤ l ∧ l ≤ 5) (H : HS S) (Q : YP ly S) (T : PtY t X Y px py)
    (f : ∀ ly' fi' ma' se', YP ly' (setl S l (clos (fun i j => opB op (S l i j) (clos (FY X Y t) i j)))) → post 1 (c, ly', fi', ma', se', px, py, la)) :
    ∀ (N : Nat) (q : Int) (ma : Nat → Int32), 0 ≤ q → q ≤ 625 → (625 - q).toNat < N → (∀ i j, Gd i j → 25 * i + j < q → ma (25 * i + j).toNat = bI (FY X Y t i j)) → wY_fill_143 post (zI l) (zI op) (zI t) c N (zI q) ly fi ma se px py la := by
  intro N
  induction N with
  | zero => intro q ma h0 h1; omega
  | succ N ih =>
    intro q ma h0 h1 h2 hM
    refine zb_le 625 q (fun h => ?_) (fun h => ⟨by decide, nm_r (zi_d25 (by omega)) ⟨by decide, nm_r (zi_r25 (by omega)) ?_⟩⟩)
    · refine yp_close (g := FY X Y t) fy_s (fun i j gd => hM i j gd (by omega)) (fun ma' se' A' => ⟨626, ?_⟩)
      exact yf_222 ho hl H (cJ_s (cI_s fy_s)) Q A' f 626 0 fi (by omega) (by omega) (by omega) (fun i j gd hlt => absurd hlt (by omega))
    · rw [zi_r2 (by omega), zi_r2 (by omega)]
      have gq : Gd (q / 25) (q % 25) := by omega
      have st : ∀ b : Bool, b = FY X Y t (q / 25) (q % 25) → wY_fill_143 post (zI l) (zI op) (zI t) c N (zI (q + 1)) ly fi (upd ma (zI q).toNatClampNeg (vp_nar .boolean (bI b))) se px py la := by
        intro b eb
        refine ih (q + 1) _ (by omega) (by omega) (by omega) (fun i j gd hlt => ?_)
        rw [zi_cl (by omega), bi_v]
        unfold upd
        by_cases e : 25 * i + j = q
        · have ei : i = q / 25 := by omega
          have ej : j = q % 25 := by omega
          rw [if_pos (by omega), ei, ej, eb]
        · rw [if_neg (by omega)]; exact hM i j gd (by omega)
      have v1 : vp_in (zI q) 625 := zv_in q (by omega)
      refine ⟨by decide, zb_eq (q / 25 % 2) 1 (fun o1 => ⟨by decide, zb_eq (q % 25 % 2) 1 (fun o2 => ?_) (fun o2 => ⟨v1, nm_e (nm_r (zi_1 q) (st false ?_))⟩)⟩) (fun o1 => ⟨v1, nm_e (nm_r (zi_1 q) (st false ?_))⟩)⟩
      · have eF : FY X Y t (q / 25) (q % 25) = fo (psY X Y (q / 25) (q % 25)) t.toNat := by
          unfold FY
          have : decide (Gd (q / 25) (q % 25) ∧ q / 25 % 2 = 1 ∧ q % 25 % 2 = 1) = true := by rw [decide_eq_true_eq]; exact ⟨gq, o1, o2⟩
          rw [this, Bool.true_and]
        have ht := T.1
        have hc : cnt (psY X Y (q / 25) (q % 25)) t.toNat ≤ t.toNat := cn_le _ _
        unfold wpY_passes
        refine ⟨26, yp_6 T (by omega) (by omega) ⟨by decide, ?_⟩ 26 0 (by omega) ht.1 (by omega)⟩
        rw [zi_r2 (by omega)]
        refine zb_eq (((cnt (psY X Y (q / 25) (q % 25)) t.toNat : Nat) : Int) % 2) 1 (fun e => ⟨v1, nm_e (nm_r (zi_1 q) (st true ?_))⟩) (fun e => ⟨v1, nm_e (nm_r (zi_1 q) (st false ?_))⟩)
        · rw [eF, fo_c]; symm; rw [decide_eq_true_eq]; omega
        · rw [eF, fo_c]; symm; rw [decide_eq_false_iff_not]; omega
      · unfold FY
        have : decide (Gd (q / 25) (q % 25) ∧ q / 25 % 2 = 1 ∧ q % 25 % 2 = 1) = false := by rw [decide_eq_false_iff_not]; exact fun h => o2 h.2.2
        rw [this, Bool.false_and]
      · unfold FY
        have : decide (Gd (q / 25) (q % 25) ∧ q / 25 % 2 = 1 ∧ q % 25 % 2 = 1) = false := by rw [decide_eq_false_iff_not]; exact fun h => o1 h.2.1
        rw [this, Bool.false_and]
end
theorem fo_e {p q : Nat → Bool} : ∀ {m : Nat}, (∀ k, k < m → p k = q k) → fo p m = fo q m
  | 0, _ => rfl
  | m + 1, h => by simp only [fo]; rw [fo_e (m := m) (fun k hk => h k (by omega)), h m (by omega)]
/-- one step: X passes where Y does -/
theorem ps_e {x1 y1 x2 y2 i j : Int} (hj : j % 2 = 1) (h : x1 = x2 ∨ y1 = y2) :
    ((decide (2 * y1 < j) != decide (2 * y2 < j)) && decide (2 * x1 < i)) = crs x1 y1 x2 y2 i j := by
  unfold crs
  by_cases e : x1 = x2
  · have t1 : decide (x1 = x2) = true := by rw [decide_eq_true_eq]; exact e
    rw [t1, Bool.true_and, Bool.and_comm]
    congr 1
    by_cases a : 2 * y1 < j <;> by_cases b : 2 * y2 < j
    · have t2 : decide ((2 * y1 ≤ j ∧ j ≤ 2 * y2) ∨ (2 * y2 ≤ j ∧ j ≤ 2 * y1)) = false := by rw [decide_eq_false_iff_not]; omega
      simp [a, b, t2]
    · have t2 : decide ((2 * y1 ≤ j ∧ j ≤ 2 * y2) ∨ (2 * y2 ≤ j ∧ j ≤ 2 * y1)) = true := by rw [decide_eq_true_eq]; omega
      rw [t2]; simp [a, b]
    · have t2 : decide ((2 * y1 ≤ j ∧ j ≤ 2 * y2) ∨ (2 * y2 ≤ j ∧ j ≤ 2 * y1)) = true := by rw [decide_eq_true_eq]; omega
      rw [t2]; simp [a, b]
    · have t2 : decide ((2 * y1 ≤ j ∧ j ≤ 2 * y2) ∨ (2 * y2 ≤ j ∧ j ≤ 2 * y1)) = false := by rw [decide_eq_false_iff_not]; omega
      rw [t2]; simp [a, b]
  · have t1 : decide (x1 = x2) = false := by rw [decide_eq_false_iff_not]; exact e
    have ey : y1 = y2 := by omega
    rw [t1, ey, Bool.false_and]; simp
/-- the same filling: the path ends where it begins -/
theorem ff_1 {n : Int} {X Y : Int → Int} (hn : 1 ≤ n) (A : ∀ k, 0 ≤ k → k + 1 < n → X k = X (k + 1) ∨ Y k = Y (k + 1)) (ex : X (n - 1) = X 0) (ey : Y (n - 1) = Y 0) : FX n X Y = FY X Y (n - 1) := by
  funext i j
  unfold FX FY
  by_cases h : Gd i j ∧ i % 2 = 1 ∧ j % 2 = 1
  · have e : n.toNat = (n - 1).toNat + 1 := by omega
    rw [e]
    simp only [fo]
    have e2 : psX n X Y i j (n - 1).toNat = false := by
      have e3 : (((n - 1).toNat : Nat) : Int) = n - 1 := by omega
      unfold psX nxr
      rw [e3, if_neg (by omega), ey]; simp
    rw [e2, ne_i]
    congr 1
    refine fo_e (fun k hk => ?_)
    unfold psX psY nxr
    rw [if_pos (by omega)]
    exact ps_e h.2.2 (A k (by omega) (by omega))
  · have : decide (Gd i j ∧ i % 2 = 1 ∧ j % 2 = 1) = false := by rw [decide_eq_false_iff_not]; exact h
    rw [this, Bool.false_and, Bool.false_and]
/-- the same filling: one step more leads back -/
theorem ff_2 {n : Int} {X Y : Int → Int} (hn : 1 ≤ n) (A : ∀ k, 0 ≤ k → k + 1 < n → X k = X (k + 1) ∨ Y k = Y (k + 1)) (ex : X (n - 1) = X 0 ∨ Y (n - 1) = Y 0) : FX n X Y = FY (fun k => if k = n then X 0 else X k) (fun k => if k = n then Y 0 else Y k) n := by
  funext i j
  unfold FX FY
  by_cases h : Gd i j ∧ i % 2 = 1 ∧ j % 2 = 1
  · congr 1
    refine fo_e (fun k hk => ?_)
    unfold psX psY nxr
    dsimp only
    have q1 : (if (k : Int) = n then X 0 else X k) = X k := if_neg (by omega)
    have q2 : (if (k : Int) = n then Y 0 else Y k) = Y k := if_neg (by omega)
    rw [q1, q2]
    by_cases e : (k : Int) + 1 < n
    · have q3 : (if (k : Int) + 1 = n then X 0 else X (k + 1)) = X (k + 1) := if_neg (by omega)
      have q4 : (if (k : Int) + 1 = n then Y 0 else Y (k + 1)) = Y (k + 1) := if_neg (by omega)
      rw [q3, q4, if_pos e]
      exact ps_e h.2.2 (A k (by omega) (by omega))
    · have e2 : (k : Int) = n - 1 := by omega
      have q3 : (if (k : Int) + 1 = n then X 0 else X (k + 1)) = X 0 := if_pos (by omega)
      have q4 : (if (k : Int) + 1 = n then Y 0 else Y (k + 1)) = Y 0 := if_pos (by omega)
      rw [q3, q4, if_neg e, e2]
      exact ps_e h.2.2 ex
  · have : decide (Gd i j ∧ i % 2 = 1 ∧ j % 2 = 1) = false := by rw [decide_eq_false_iff_not]; exact h
    rw [this, Bool.false_and, Bool.false_and]
theorem i_vc_fill {k : Nat} {u : SX} {v : SY} (I : i_Rel k u v) (hk : k + 5 ≤ 2560) (v1 : Int32) (v2 : Int32) : wpX_fill (fun r u' => wpY_fill (fun r' v' => r' = r ∧ i_Rel (k + 5) u' v') v v1 v2) u v1 v2 := by
  obtain ⟨c, rc, gc, lr, rk, a, cx, cy, re, st, dg⟩ := u
  obtain ⟨c', ly, fi, ma, se, px, py, la⟩ := v
  obtain ⟨S, n, X, Y, P, Q, C, T, rfl, rfl⟩ := I
  obtain ⟨l, hl, rfl⟩ := zi_ex v1
  obtain ⟨op, ho, rfl⟩ := zi_ex v2
  have hn := T.1
  have R0 : i_Rel (k + 5) (zI n, rc, gc, lr, rk, a, cx, cy, re, st, dg) (zI n, ly, fi, ma, se, px, py, la) := i_mk P Q C T
  have Yc : ∀ post : Int32 → SY → Prop, ((0 ≤ l ∧ l ≤ 5) ∧ (0 ≤ op ∧ op ≤ 3) ∧ 1 ≤ n ∧ (X (n - 1) = X 0 ∨ Y (n - 1) = Y 0) → ∀ ly' fi' ma' se' px' py', Pth n X Y cx cy px' py' → YP ly' (setl S l (clos (fun i j => opB op (S l i j) (clos (FX n X Y) i j)))) → post 1 (zI n, ly', fi', ma', se', px', py', la)) → (¬ ((0 ≤ l ∧ l ≤ 5) ∧ (0 ≤ op ∧ op ≤ 3) ∧ 1 ≤ n ∧ (X (n - 1) = X 0 ∨ Y (n - 1) = Y 0)) → post 0 (zI n, ly, fi, ma, se, px, py, la)) → wpY_fill post (zI n, ly, fi, ma, se, px, py, la) (zI l) (zI op) := by
    intro post f g
    unfold wpY_fill
    refine yg_layer l hl (fun h1 => b1_f ?_) (fun h1 => b0_t (g (by omega)))
    refine zb_lt op 0 (fun h => g (by omega)) (fun h0 => zb_lt 3 op (fun h => g (by omega)) (fun h3 => zb_eq n 0 (fun h => g (by omega)) (fun h4 => ?_)))
    obtain ⟨b1, b2, -, -, b3, b4⟩ := T.2.1 (n - 1) (by omega) (by omega)
    obtain ⟨d1, d2, -, -, d3, d4⟩ := T.2.1 0 (by omega) (by omega)
    have d3' : px 0 = zI (X 0) := d3
    have d4' : py 0 = zI (Y 0) := d4
    have vi : vp_in (zI n - 1) 25 := zv_in (n - 1) (by omega) (zi_s1 n)
    have ec : (zI n - 1).toNatClampNeg = (n - 1).toNat := zv_cl (n - 1) (zi_s1 n)
    rw [ec, b3, b4, d3', d4']
    have k80 : ¬ (X (n - 1) = X 0 ∧ Y (n - 1) = Y 0) → wY_fill_80 post (zI l) (zI op) (zI (X (n - 1))) (zI (Y (n - 1))) (zI n) ly fi ma se px py la := by
      intro hne
      unfold wY_fill_80
      rw [d3', d4']
      refine yp_apart _ _ _ _ (by omega) (by omega) (by omega) (by omega) (fun hr => b1_f ?_) (fun hr => b0_t (g (by omega)))
      refine ⟨zv_in n (by omega), nm_e ⟨zv_in n (by omega), nm_e ⟨626, ?_⟩⟩⟩
      rw [zi_cl (by omega)]
      have T2 : PtY n (fun k => if k = n then X 0 else X k) (fun k => if k = n then Y 0 else Y k) (upd px n.toNat (zI (X 0))) (upd py n.toNat (zI (Y 0))) := by
        refine ⟨by omega, fun q q0 q1 => ?_⟩
        unfold upd
        by_cases e : q = n
        · subst e
          simp only [if_pos]
          exact ⟨d1, d2, trivial, trivial⟩
        · have e2 : q.toNat ≠ n.toNat := by omega
          simp only [if_neg e, if_neg e2]
          obtain ⟨z1, z2, -, -, z3, z4⟩ := T.2.1 q q0 (by omega)
          exact ⟨z1, z2, z3, z4⟩
      refine yf_143 (by omega) h1 P.2 Q T2 (fun ly' fi' ma' se' Q' => f ⟨h1, by omega, by omega, by omega⟩ ly' fi' ma' se' _ _ ?_ ?_) 626 0 ma (by omega) (by omega) (by omega) (fun i j gd hlt => absurd hlt (by omega))
      · refine ⟨hn, fun q q0 q1 => ?_, T.2.2⟩
        unfold upd
        rw [if_neg (by omega), if_neg (by omega)]
        exact T.2.1 q q0 q1
      · rw [ff_2 (by omega) T.2.2 (by omega)]; exact Q'
    refine ⟨vi, nm_e ⟨vi, nm_e (nm_r (zi_s1 n) (zb_eq (X (n - 1)) (X 0) (fun q1 => zb_eq (Y (n - 1)) (Y 0) (fun q2 => ⟨626, ?_⟩) (fun q2 => k80 (by omega))) (fun q1 => k80 (by omega))))⟩⟩
    have T2 : PtY (n - 1) X Y px py := by
      refine ⟨by omega, fun q q0 q1 => ?_⟩
      obtain ⟨z1, z2, -, -, z3, z4⟩ := T.2.1 q q0 (by omega)
      exact ⟨z1, z2, z3, z4⟩
    refine yf_143 (by omega) h1 P.2 Q T2 (fun ly' fi' ma' se' Q' => f ⟨h1, by omega, by omega, by omega⟩ ly' fi' ma' se' px py T ?_) 626 0 ma (by omega) (by omega) (by omega) (fun i j gd hlt => absurd hlt (by omega))
    rw [ff_1 (by omega) T.2.2 q1 q2]; exact Q'
  unfold wpX_fill
  refine xg_layer l hl (fun h1 => b1_f ?_) (fun h1 => b0_t (Yc _ (fun h => absurd h.1 h1) (fun _ => ⟨rfl, R0⟩)))
  refine xg_op op ho (fun h2 => b1_f ?_) (fun h2 => b0_t (Yc _ (fun h => absurd h.2.1 h2) (fun _ => ⟨rfl, R0⟩)))
  refine xp_ring T (fun h3 h4 => b1_f ?_) (fun h3 => b0_t (Yc _ (fun h => absurd h.2.2 h3) (fun _ => ⟨rfl, R0⟩)))
  refine xp_fa P T (fun a1 P1 => ?_)
  refine xp_mix P1 (l := l) (m := 6) (t := l) h2 (by omega) (by omega) (by omega) (fun a2 P2 => ?_)
  refine Yc _ (fun _ ly' fi' ma' se' px' py' T' Q' => ⟨rfl, ?_⟩) (fun h => absurd ⟨h1, h2, h3, h4⟩ h)
  have e6 : setl S 6 (clos (FX n X Y)) 6 = clos (FX n X Y) := by unfold setl; rw [if_pos rfl]
  have el : ∀ s : Int, s ≤ 5 → setl S 6 (clos (FX n X Y)) s = S s := by intro s hs; unfold setl; rw [if_neg (by omega)]
  rw [e6, el l (by omega)] at P2
  refine i_mk P2 (fun l' i j l0 l5 gd => ?_) (cl_set (fun s s0 s5 => by rw [el s s5]; exact C s s0 s5) (cl_clo _)) T'
  rw [Q' l' i j l0 l5 gd]
  unfold setl
  by_cases e : l' = l
  · rw [if_pos e, if_pos e]
  · rw [if_neg e, if_neg e, if_neg (by omega)]
