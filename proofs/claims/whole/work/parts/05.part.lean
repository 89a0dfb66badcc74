/-! cells around, edges around, the part of an atom -/
def cc (g : Int → Int → Bool) (i j : Int) : Int :=
  if i % 2 = 1 then (if j % 2 = 1 then bZ (g i j) else bZ (g i (j - 1)) + bZ (g i (j + 1)))
  else if j % 2 = 1 then bZ (g (i - 1) j) + bZ (g (i + 1) j)
  else bZ (g (i - 1) (j - 1)) + bZ (g (i + 1) (j - 1)) + bZ (g (i - 1) (j + 1)) + bZ (g (i + 1) (j + 1))
def ee (g : Int → Int → Bool) (i j : Int) : Int := bZ (g (i + 1) j) + bZ (g i (j + 1)) + bZ (g (i - 1) j) + bZ (g i (j - 1))
def prt (g : Int → Int → Bool) (i j : Int) : Int :=
  if g i j = false then 2 else if i % 2 = 1 ∧ j % 2 = 1 then 0 else if i % 2 = 1 ∨ j % 2 = 1 then (if cc g i j = 1 then 1 else 0)
  else if cc g i j = 4 then 0 else if 0 < cc g i j then 1 else ee g i j % 2
theorem cc_r (g : Int → Int → Bool) (i j : Int) : 0 ≤ cc g i j ∧ cc g i j ≤ 4 := by
  unfold cc
  have h1 := bz_r (g i j)
  have h2 := bz_r (g i (j - 1))
  have h3 := bz_r (g i (j + 1))
  have h4 := bz_r (g (i - 1) j)
  have h5 := bz_r (g (i + 1) j)
  have h6 := bz_r (g (i - 1) (j - 1))
  have h7 := bz_r (g (i + 1) (j - 1))
  have h8 := bz_r (g (i - 1) (j + 1))
  have h9 := bz_r (g (i + 1) (j + 1))
  split
  · split <;> omega
  · split <;> omega
theorem ee_r (g : Int → Int → Bool) (i j : Int) : 0 ≤ ee g i j ∧ ee g i j ≤ 4 := by
  unfold ee
  have h3 := bz_r (g i (j + 1))
  have h2 := bz_r (g i (j - 1))
  have h4 := bz_r (g (i - 1) j)
  have h5 := bz_r (g (i + 1) j)
  omega
theorem pr_r (g : Int → Int → Bool) (i j : Int) : 0 ≤ prt g i j ∧ prt g i j ≤ 2 := by
  unfold prt
  split
  · omega
  · split
    · omega
    · split
      · split <;> omega
      · split
        · omega
        · split <;> omega
def eaD (d : Int) : Int := if d = 0 then 1 else if d = 2 then -1 else 0
def noD (d : Int) : Int := if d = 1 then 1 else if d = 3 then -1 else 0
theorem ea_r (d : Int) : -1 ≤ eaD d ∧ eaD d ≤ 1 := by unfold eaD; split <;> (try split) <;> omega
theorem no_r (d : Int) : -1 ≤ noD d ∧ noD d ≤ 1 := by unfold noD; split <;> (try split) <;> omega
theorem xp_east {post : Int32 → Prop} (d : Int) (hd : Rg d) (h : post (zI (eaD d))) : wpX_eastward post (zI d) := by
  unfold eaD at h
  refine zb_eq d 0 (fun e => ?_) (fun e => zb_eq d 2 (fun e2 => ?_) (fun e2 => ?_))
  · rw [if_pos e] at h; exact h
  · rw [if_neg e, if_pos e2] at h; exact h
  · rw [if_neg e, if_neg e2] at h; exact h
theorem xp_north {post : Int32 → Prop} (d : Int) (hd : Rg d) (h : post (zI (noD d))) : wpX_northward post (zI d) := by
  unfold noD at h
  refine zb_eq d 1 (fun e => ?_) (fun e => zb_eq d 3 (fun e2 => ?_) (fun e2 => ?_))
  · rw [if_pos e] at h; exact h
  · rw [if_neg e, if_pos e2] at h; exact h
  · rw [if_neg e, if_neg e2] at h; exact h
theorem xd_eq {i j : Int} (hi : Rg i) (hj : Rg j) : (zI i &&& 1) + (zI j &&& 1) = zI (i % 2 + j % 2) := by
  rw [zi_and1 hi, zi_and1 hj, zi_add]
theorem xp_dim {post : Int32 → Prop} (i j : Int) (hi : Rg i) (hj : Rg j) (h : post (zI (i % 2 + j % 2))) : wpX_dimension post (zI i) (zI j) := by
  unfold wpX_dimension; rw [xd_eq hi hj]; exact h
section
variable {c rc gc lr rk : Int32} {a cx cy re st dg : Nat → Int32} {S : Int → Int → Int → Bool}
theorem xc_i1 {post : Int32 → Prop} {J : Int32 → Int32 → Prop} (P : XP a S) {l i j rI rJ jj ii k : Int} {n : Nat} (hl : 0 ≤ l ∧ l ≤ 6) (hr : 0 ≤ rI ∧ rI ≤ 1) (hi : 0 ≤ i ∧ i ≤ 24) (hii : -5 ≤ ii ∧ ii ≤ i + rI) (hjj : -5 ≤ jj ∧ jj ≤ 50) (hk : 0 ≤ k ∧ k ≤ 100) (h : wX_countCells_38 post J (zI l) (zI i) (zI j) (zI rI) (zI rJ) (zI jj) c rc gc lr rk a cx cy re st dg n (zI (k + bZ (S l ii jj))) (zI (ii + 2))) : wX_countCells_38 post J (zI l) (zI i) (zI j) (zI rI) (zI rJ) (zI jj) c rc gc lr rk a cx cy re st dg (n + 1) (zI k) (zI ii) := by
  refine zb_lt (i + rI) ii (fun h' => absurd h' (by omega)) (fun _ => ?_) (zi_add i rI)
  refine xp_has P l ii jj hl (by omega) (by omega) (bb_0 (fun e => nm_r (zi_2 _) ?_) (fun e => nm_r (zi_1 _) (nm_r (zi_2 _) ?_)))
  · rw [e] at h; simpa [bZ] using h
  · rw [e] at h; simpa [bZ] using h
theorem xc_i2 {post : Int32 → Prop} {J : Int32 → Int32 → Prop} {l i j rI rJ jj ii k : Int} {n : Nat} (hi : 0 ≤ i ∧ i ≤ 24) (hr : 0 ≤ rI ∧ rI ≤ 1) (hii : i + rI < ii ∧ ii ≤ 50) (h : J (zI k) (zI (jj + 2))) : wX_countCells_38 post J (zI l) (zI i) (zI j) (zI rI) (zI rJ) (zI jj) c rc gc lr rk a cx cy re st dg (n + 1) (zI k) (zI ii) := by
  refine zb_lt (i + rI) ii (fun _ => nm_r (zi_2 _) h) (fun h' => absurd h' (by omega)) (zi_add i rI)
theorem xc_o1 {post : Int32 → Prop} (P : XP a S) {l i j rI rJ jj k : Int} {n : Nat} (hl : 0 ≤ l ∧ l ≤ 6) (hr : rI = 0 ∨ rI = 1) (hi : 0 ≤ i ∧ i ≤ 24) (hj : 0 ≤ j ∧ j ≤ 24) (hrj : 0 ≤ rJ ∧ rJ ≤ 1) (hjj : -5 ≤ jj ∧ jj ≤ j + rJ) (hk : 0 ≤ k ∧ k ≤ 50) (h : wX_countCells_23 post (zI l) (zI i) (zI j) (zI rI) (zI rJ) c rc gc lr rk a cx cy re st dg n (zI (k + (if rI = 0 then bZ (S l i jj) else bZ (S l (i - 1) jj) + bZ (S l (i + 1) jj)))) (zI (jj + 2))) : wX_countCells_23 post (zI l) (zI i) (zI j) (zI rI) (zI rJ) c rc gc lr rk a cx cy re st dg (n + 1) (zI k) (zI jj) := by
  refine zb_lt (j + rJ) jj (fun h' => absurd h' (by omega)) (fun _ => nm_r (zi_sub i rI) ⟨3, ?_⟩) (zi_add j rJ)
  rcases hr with rfl | rfl
  · rw [if_pos rfl] at h
    have z : i - 0 = i := by omega
    rw [z]
    have hb := bz_r (S l i jj)
    refine xc_i1 P hl (by omega) hi (by omega) (by omega) (by omega) (xc_i2 hi (by omega) (by omega) h)
  · rw [if_neg (by decide)] at h
    have hb := bz_r (S l (i - 1) jj)
    refine xc_i1 P hl (by omega) hi (by omega) (by omega) (by omega) ?_
    have z : i - 1 + 2 = i + 1 := by omega
    rw [z]
    refine xc_i1 P hl (by omega) hi (by omega) (by omega) (by omega) (xc_i2 hi (by omega) (by omega) ?_)
    have z2 : k + bZ (S l (i - 1) jj) + bZ (S l (i + 1) jj) = k + (bZ (S l (i - 1) jj) + bZ (S l (i + 1) jj)) := by omega
    rw [z2]; exact h
theorem xc_o2 {post : Int32 → Prop} {l i j rI rJ jj k : Int} {n : Nat} (hj : 0 ≤ j ∧ j ≤ 24) (hrj : 0 ≤ rJ ∧ rJ ≤ 1) (hjj : j + rJ < jj ∧ jj ≤ 50) (h : post (zI k)) : wX_countCells_23 post (zI l) (zI i) (zI j) (zI rI) (zI rJ) c rc gc lr rk a cx cy re st dg (n + 1) (zI k) (zI jj) := by
  refine zb_lt (j + rJ) jj (fun _ => h) (fun h' => absurd h' (by omega)) (zi_add j rJ)
theorem xp_cells {post : Int32 → Prop} (P : XP a S) (l i j : Int) (hl : 0 ≤ l ∧ l ≤ 6) (hg : Gd i j) (h : post (zI (cc (S l) i j))) : wpX_countCells post (c, rc, gc, lr, rk, a, cx, cy, re, st, dg) (zI l) (zI i) (zI j) := by
  unfold wpX_countCells
  have e4 : 1 - (zI i &&& 1) = zI (1 - i % 2) := by rw [zi_and1 (by omega)]; exact zi_sub 1 _
  have e5 : 1 - (zI j &&& 1) = zI (1 - j % 2) := by rw [zi_and1 (by omega)]; exact zi_sub 1 _
  refine nm_r e4 (nm_r e5 (nm_r (zi_sub _ _) ⟨3, ?_⟩))
  unfold cc at h
  by_cases o1 : i % 2 = 1
  · have z1 : 1 - i % 2 = 0 := by omega
    rw [if_pos o1] at h
    rw [z1]
    by_cases o2 : j % 2 = 1
    · have z2 : 1 - j % 2 = 0 := by omega
      rw [if_pos o2] at h
      rw [z2]
      have hb := bz_r (S l i (j - 0))
      refine xc_o1 (k := 0) P hl (Or.inl rfl) (by omega) (by omega) (by omega) (by omega) (by omega) ?_
      rw [if_pos rfl]
      refine xc_o2 (by omega) (by omega) (by omega) ?_
      simpa using h
    · have z2 : 1 - j % 2 = 1 := by omega
      rw [if_neg o2] at h
      rw [z2]
      have hb := bz_r (S l i (j - 1))
      have hb2 := bz_r (S l i (j + 1))
      refine xc_o1 (k := 0) P hl (Or.inl rfl) (by omega) (by omega) (by omega) (by omega) (by omega) ?_
      rw [if_pos rfl]
      have z : j - 1 + 2 = j + 1 := by omega
      rw [z]
      refine xc_o1 P hl (Or.inl rfl) (by omega) (by omega) (by omega) (by omega) (by omega) ?_
      rw [if_pos rfl]
      refine xc_o2 (by omega) (by omega) (by omega) ?_
      simpa using h
  · have z1 : 1 - i % 2 = 1 := by omega
    rw [if_neg o1] at h
    rw [z1]
    by_cases o2 : j % 2 = 1
    · have z2 : 1 - j % 2 = 0 := by omega
      rw [if_pos o2] at h
      rw [z2]
      have z3 : j - 0 = j := by omega
      rw [z3]
      have hb := bz_r (S l (i - 1) j)
      have hb2 := bz_r (S l (i + 1) j)
      refine xc_o1 (k := 0) P hl (Or.inr rfl) (by omega) (by omega) (by omega) (by omega) (by omega) ?_
      rw [if_neg (by decide)]
      refine xc_o2 (by omega) (by omega) (by omega) ?_
      simpa using h
    · have z2 : 1 - j % 2 = 1 := by omega
      rw [if_neg o2] at h
      rw [z2]
      have hb := bz_r (S l (i - 1) (j - 1))
      have hb2 := bz_r (S l (i + 1) (j - 1))
      have hb3 := bz_r (S l (i - 1) (j + 1))
      have hb4 := bz_r (S l (i + 1) (j + 1))
      refine xc_o1 (k := 0) P hl (Or.inr rfl) (by omega) (by omega) (by omega) (by omega) (by omega) ?_
      rw [if_neg (by decide)]
      have z : j - 1 + 2 = j + 1 := by omega
      rw [z]
      refine xc_o1 P hl (Or.inr rfl) (by omega) (by omega) (by omega) (by omega) (by omega) ?_
      rw [if_neg (by decide)]
      refine xc_o2 (by omega) (by omega) (by omega) ?_
      have z5 : 0 + (bZ (S l (i - 1) (j - 1)) + bZ (S l (i + 1) (j - 1))) + (bZ (S l (i - 1) (j + 1)) + bZ (S l (i + 1) (j + 1))) = bZ (S l (i - 1) (j - 1)) + bZ (S l (i + 1) (j - 1)) + bZ (S l (i - 1) (j + 1)) + bZ (S l (i + 1) (j + 1)) := by omega
      rw [z5]; exact h
theorem xe_1 {post : Int32 → Prop} (P : XP a S) {l i j d k : Int} {n : Nat} (hl : 0 ≤ l ∧ l ≤ 6) (hg : Gd i j) (hd : 0 ≤ d ∧ d ≤ 3) (hk : 0 ≤ k ∧ k ≤ 50) (h : wX_countEdges_6 post (zI l) (zI i) (zI j) c rc gc lr rk a cx cy re st dg n (zI (k + bZ (S l (i + eaD d) (j + noD d)))) (zI (d + 1))) : wX_countEdges_6 post (zI l) (zI i) (zI j) c rc gc lr rk a cx cy re st dg (n + 1) (zI k) (zI d) := by
  have h1 := ea_r d
  have h2 := no_r d
  refine zb_lt 3 d (fun h' => absurd h' (by omega)) (fun _ => ?_)
  refine xp_east d (by omega) (nm_r (zi_add _ _) (xp_north d (by omega) (nm_r (zi_add _ _) ?_)))
  refine xp_has P l _ _ hl (by omega) (by omega) (bb_0 (fun e => nm_r (zi_1 _) ?_) (fun e => nm_r (zi_1 _) (nm_r (zi_1 _) ?_)))
  · rw [e] at h; simpa [bZ] using h
  · rw [e] at h; simpa [bZ] using h
theorem xp_edges {post : Int32 → Prop} (P : XP a S) (l i j : Int) (hl : 0 ≤ l ∧ l ≤ 6) (hg : Gd i j) (h : post (zI (ee (S l) i j))) : wpX_countEdges post (c, rc, gc, lr, rk, a, cx, cy, re, st, dg) (zI l) (zI i) (zI j) := by
  unfold wpX_countEdges
  have b0 := bz_r (S l (i + eaD 0) (j + noD 0))
  have b1 := bz_r (S l (i + eaD 1) (j + noD 1))
  have b2 := bz_r (S l (i + eaD 2) (j + noD 2))
  have b3 := bz_r (S l (i + eaD 3) (j + noD 3))
  refine ⟨5, ?_⟩
  refine xe_1 (d := 0) (k := 0) P hl hg (by omega) (by omega) ?_
  refine xe_1 (d := 0 + 1) P hl hg (by omega) (by omega) ?_
  refine xe_1 (d := 0 + 1 + 1) P hl hg (by omega) (by simp only [Int.zero_add, Int.reduceAdd]; omega) ?_
  refine xe_1 (d := 0 + 1 + 1 + 1) P hl hg (by omega) (by simp only [Int.zero_add, Int.reduceAdd]; omega) ?_
  refine zb_lt 3 4 (fun _ => ?_) (fun h' => absurd h' (by omega))
  have e : ee (S l) i j = 0 + bZ (S l (i + eaD 0) (j + noD 0)) + bZ (S l (i + eaD (0 + 1)) (j + noD (0 + 1))) + bZ (S l (i + eaD (0 + 1 + 1)) (j + noD (0 + 1 + 1))) + bZ (S l (i + eaD (0 + 1 + 1 + 1)) (j + noD (0 + 1 + 1 + 1))) := by
    unfold ee
    have q0 : i + eaD 0 = i + 1 := rfl
    have q1 : j + noD 0 = j := by show j + 0 = j; omega
    have q2 : i + eaD (0 + 1) = i := by show i + 0 = i; omega
    have q3 : j + noD (0 + 1) = j + 1 := rfl
    have q4 : i + eaD (0 + 1 + 1) = i - 1 := rfl
    have q5 : j + noD (0 + 1 + 1) = j := by show j + 0 = j; omega
    have q6 : i + eaD (0 + 1 + 1 + 1) = i := by show i + 0 = i; omega
    have q7 : j + noD (0 + 1 + 1 + 1) = j - 1 := rfl
    rw [q0, q1, q2, q3, q4, q5, q6, q7]; omega
  rw [← e]; exact h
theorem x4_0 : (4 : Int32) >>> (zI 0 &&& 31) = zI 4 := by decide
theorem x4_1 : (4 : Int32) >>> (zI 1 &&& 31) = zI 2 := by decide
theorem x4_2 : (4 : Int32) >>> (zI 2 &&& 31) = zI 1 := by decide
theorem xp_part {post : Int32 → Prop} (P : XP a S) (l i j : Int) (hl : 0 ≤ l ∧ l ≤ 6) (hi : Rg i) (hj : Rg j) (h : post (zI (prt (S l) i j))) : wpX_partOf post (c, rc, gc, lr, rk, a, cx, cy, re, st, dg) (zI l) (zI i) (zI j) := by
  unfold wpX_partOf
  unfold prt at h
  refine xp_has P l i j hl hi hj (bb_0 (fun e => ?_) (fun e => ?_))
  · rw [if_pos e] at h; exact h
  · rw [if_neg (by rw [e]; decide)] at h
    have hg : Gd i j := P.2 l i j e
    have hc := cc_r (S l) i j
    refine xp_cells P l i j hl hg (xp_dim i j hi hj ?_)
    by_cases o1 : i % 2 = 1
    · by_cases o2 : j % 2 = 1
      · rw [if_pos ⟨o1, o2⟩] at h
        have z : i % 2 + j % 2 = 2 := by omega
        rw [z, x4_2]
        have q : cc (S l) i j = 1 := by unfold cc; rw [if_pos o1, if_pos o2, e]; rfl
        rw [q]
        exact br_t rfl h
      · rw [if_neg (by omega), if_pos (Or.inl o1)] at h
        have z : i % 2 + j % 2 = 1 := by omega
        rw [z, x4_1]
        have hb : cc (S l) i j ≤ 2 := by
          unfold cc; rw [if_pos o1, if_neg o2]
          have := bz_r (S l i (j - 1)); have := bz_r (S l i (j + 1)); omega
        refine zb_eq _ 2 (fun q => ?_) (fun q => zb_le _ 0 (fun q2 => xp_dim i j hi hj ?_) (fun q2 => ?_))
        · rw [if_neg (by omega)] at h; exact h
        · rw [z]
          refine br_f (by decide) (br_t rfl ?_)
          rw [if_neg (by omega)] at h; exact h
        · rw [if_pos (by omega)] at h; exact h
    · by_cases o2 : j % 2 = 1
      · rw [if_neg (by omega), if_pos (Or.inr o2)] at h
        have z : i % 2 + j % 2 = 1 := by omega
        rw [z, x4_1]
        have hb : cc (S l) i j ≤ 2 := by
          unfold cc; rw [if_neg o1, if_pos o2]
          have := bz_r (S l (i - 1) j); have := bz_r (S l (i + 1) j); omega
        refine zb_eq _ 2 (fun q => ?_) (fun q => zb_le _ 0 (fun q2 => xp_dim i j hi hj ?_) (fun q2 => ?_))
        · rw [if_neg (by omega)] at h; exact h
        · rw [z]
          refine br_f (by decide) (br_t rfl ?_)
          rw [if_neg (by omega)] at h; exact h
        · rw [if_pos (by omega)] at h; exact h
      · rw [if_neg (by omega), if_neg (by omega)] at h
        have z : i % 2 + j % 2 = 0 := by omega
        rw [z, x4_0]
        refine zb_eq _ 4 (fun q => ?_) (fun q => zb_le _ 0 (fun q2 => xp_dim i j hi hj ?_) (fun q2 => ?_))
        · rw [if_pos q] at h; exact h
        · rw [z]
          refine br_t rfl (br_f (by decide) (xp_edges P l i j hl hg ⟨by decide, ?_⟩))
          have he := ee_r (S l) i j
          rw [if_neg q, if_neg (by omega)] at h
          have er : zI (ee (S l) i j) - zI (ee (S l) i j) / 2 * 2 = zI (ee (S l) i j % 2) := zi_rem (d := 2) (by omega) (by omega)
          rw [er]
          refine zb_eq _ 1 (fun q3 => ?_) (fun q3 => ?_)
          · rw [q3] at h; exact h
          · have q4 : ee (S l) i j % 2 = 0 := by omega
            rw [q4] at h; exact h
        · rw [if_neg q, if_pos q2] at h; exact h
end
