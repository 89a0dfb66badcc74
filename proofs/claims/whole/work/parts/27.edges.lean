/-! boundary edges with the area to their left, and the edge that follows -/
theorem ga {g : Int → Int → Bool} {a b a' b' : Int} {x : Bool} (h : g a b = x) (e1 : a' = a) (e2 : b' = b) : g a' b' = x := by subst e1; subst e2; exact h
def OB (g : Int → Int → Bool) (i j d : Int) : Prop :=
  (d = 0 ∧ (i % 2 = 1 ∧ j % 2 = 0) ∧ g (i) (j + 1) = true ∧ g (i) (j - 1) = false) ∨
  (d = 1 ∧ (i % 2 = 0 ∧ j % 2 = 1) ∧ g (i - 1) (j) = true ∧ g (i + 1) (j) = false) ∨
  (d = 2 ∧ (i % 2 = 1 ∧ j % 2 = 0) ∧ g (i) (j - 1) = true ∧ g (i) (j + 1) = false) ∨
  (d = 3 ∧ (i % 2 = 0 ∧ j % 2 = 1) ∧ g (i + 1) (j) = true ∧ g (i - 1) (j) = false)
def BE (g : Int → Int → Bool) (i j : Int) : Bool := decide (Gd i j ∧ i % 2 + j % 2 = 1 ∧ cc g i j = 1)
def drX (g : Int → Int → Bool) (i j : Int) : Int := if i % 2 = 1 then (if g i (j + 1) = true then 0 else 2) else (if g (i - 1) j = true then 1 else 3)
def nD (g : Int → Int → Bool) (i j d : Int) : Int :=
  if g (i + 2 * eaD d + eaD ((d + 1) % 4)) (j + 2 * noD d + noD ((d + 1) % 4)) = false then (d + 1) % 4
  else if g (i + 2 * eaD d + eaD ((d + 3) % 4)) (j + 2 * noD d + noD ((d + 3) % 4)) = true then (d + 3) % 4 else d
def nxI (g : Int → Int → Bool) (i j d : Int) : Int := i + (eaD d + eaD (nD g i j d))
def nxJ (g : Int → Int → Bool) (i j d : Int) : Int := j + (noD d + noD (nD g i j d))
def pD (g : Int → Int → Bool) (i j d : Int) : Int :=
  if d = 0 then (if g (i - 2) (j + 1) = false then 3 else if g (i - 2) (j - 1) = true then 1 else 0)
  else if d = 1 then (if g (i - 1) (j - 2) = false then 0 else if g (i + 1) (j - 2) = true then 2 else 1)
  else if d = 2 then (if g (i + 2) (j - 1) = false then 1 else if g (i + 2) (j + 1) = true then 3 else 2)
  else (if g (i + 1) (j + 2) = false then 2 else if g (i - 1) (j + 2) = true then 0 else 3)
theorem ob_r {g : Int → Int → Bool} {i j d : Int} (h : OB g i j d) : 0 ≤ d ∧ d ≤ 3 := by
  unfold OB at h; omega
theorem ob_g {g : Int → Int → Bool} (H : Sup g) {i j d : Int} (h : OB g i j d) : Gd i j := by
  rcases h with ⟨-, o, c, -⟩ | ⟨-, o, c, -⟩ | ⟨-, o, c, -⟩ | ⟨-, o, c, -⟩ <;> (have := H _ _ c; omega)
theorem ob_be {g : Int → Int → Bool} (H : Sup g) {i j d : Int} (h : OB g i j d) : BE g i j = true ∧ drX g i j = d := by
  have gd := ob_g H h
  have key : cc g i j = 1 ∧ drX g i j = d := by
    rcases h with ⟨rfl, o, c1, c2⟩ | ⟨rfl, o, c1, c2⟩ | ⟨rfl, o, c1, c2⟩ | ⟨rfl, o, c1, c2⟩
    · unfold cc drX
      rw [if_pos o.1, if_neg (by omega), if_pos o.1, c1, c2]
      exact ⟨rfl, rfl⟩
    · unfold cc drX
      rw [if_neg (by omega), if_pos o.2, if_neg (by omega), c1, c2]
      exact ⟨rfl, rfl⟩
    · unfold cc drX
      rw [if_pos o.1, if_neg (by omega), if_pos o.1, c1, c2]
      exact ⟨rfl, rfl⟩
    · unfold cc drX
      rw [if_neg (by omega), if_pos o.2, if_neg (by omega), c1, c2]
      exact ⟨rfl, rfl⟩
  refine ⟨?_, key.2⟩
  unfold BE
  rw [decide_eq_true_eq]
  refine ⟨gd, ?_, key.1⟩
  rcases h with ⟨-, o, -⟩ | ⟨-, o, -⟩ | ⟨-, o, -⟩ | ⟨-, o, -⟩ <;> omega
theorem be_ob {g : Int → Int → Bool} {i j : Int} (h : BE g i j = true) : OB g i j (drX g i j) := by
  unfold BE at h
  rw [decide_eq_true_eq] at h
  obtain ⟨gd, hd, hc⟩ := h
  unfold cc at hc
  unfold drX OB
  by_cases o : i % 2 = 1
  · rw [if_pos o, if_neg (by omega)] at hc
    rw [if_pos o]
    cases a : g i (j + 1) <;> cases b : g i (j - 1) <;> rw [a, b] at hc
    · exact absurd hc (by decide)
    · rw [if_neg (by decide)]; exact Or.inr (Or.inr (Or.inl ⟨rfl, ⟨o, by omega⟩, rfl, rfl⟩))
    · rw [if_pos rfl]; exact Or.inl ⟨rfl, ⟨o, by omega⟩, rfl, rfl⟩
    · exact absurd hc (by decide)
  · rw [if_neg o, if_pos (by omega)] at hc
    rw [if_neg o]
    cases a : g (i - 1) j <;> cases b : g (i + 1) j <;> rw [a, b] at hc
    · exact absurd hc (by decide)
    · rw [if_neg (by decide)]; exact Or.inr (Or.inr (Or.inr ⟨rfl, ⟨by omega, by omega⟩, rfl, rfl⟩))
    · rw [if_pos rfl]; exact Or.inr (Or.inl ⟨rfl, ⟨by omega, by omega⟩, rfl, rfl⟩)
    · exact absurd hc (by decide)
theorem nx_c {g : Int → Int → Bool} {i j d : Int} (h : OB g i j d) : OB g (nxI g i j d) (nxJ g i j d) (nD g i j d) ∧ pD g (nxI g i j d) (nxJ g i j d) (nD g i j d) = d := by
  unfold nxI nxJ
  rcases h with ⟨rfl, o, c1, c2⟩ | ⟨rfl, o, c1, c2⟩ | ⟨rfl, o, c1, c2⟩ | ⟨rfl, o, c1, c2⟩
  · cases hA : g (i + 2) (j + 1)
    · have e : nD g i j 0 = 1 := by unfold nD; rw [if_pos (ga hA (by show i + 2 * 1 + 0 = i + 2; omega) (by show j + 2 * 0 + 1 = j + 1; omega))]; rfl
      have e1 : i + (eaD 0 + eaD 1) = i + 1 := by show i + (1 + 0) = i + 1; omega
      have e2 : j + (noD 0 + noD 1) = j + 1 := by show j + (0 + 1) = j + 1; omega
      rw [e, e1, e2]
      refine ⟨Or.inr (Or.inl ⟨rfl, ⟨by omega, by omega⟩, (ga c1 (by omega) (by omega)), (ga hA (by omega) (by omega))⟩), ?_⟩
      unfold pD
      rw [if_neg (by decide)]
      rw [if_pos rfl]
      rw [if_pos (ga c2 (by omega) (by omega))]
    · cases hB : g (i + 2) (j - 1)
      · have e : nD g i j 0 = 0 := by unfold nD; rw [if_neg (fun z => absurd ((ga hA (by show i + 2 * 1 + 0 = i + 2; omega) (by show j + 2 * 0 + 1 = j + 1; omega)).symm.trans z) (by decide)), if_neg (fun z => absurd ((ga hB (by show i + 2 * 1 + 0 = i + 2; omega) (by show j + 2 * 0 + -1 = j - 1; omega)).symm.trans z) (by decide))]
        have e1 : i + (eaD 0 + eaD 0) = i + 2 := by show i + (1 + 1) = i + 2; omega
        have e2 : j + (noD 0 + noD 0) = j := by show j + (0 + 0) = j; omega
        rw [e, e1, e2]
        refine ⟨Or.inl ⟨rfl, ⟨by omega, by omega⟩, (ga hA (by omega) (by omega)), (ga hB (by omega) (by omega))⟩, ?_⟩
        unfold pD
        rw [if_pos rfl]
        rw [if_neg (fun z => absurd ((ga c1 (by omega) (by omega)).symm.trans z) (by decide))]
        rw [if_neg (fun z => absurd ((ga c2 (by omega) (by omega)).symm.trans z) (by decide))]
      · have e : nD g i j 0 = 3 := by unfold nD; rw [if_neg (fun z => absurd ((ga hA (by show i + 2 * 1 + 0 = i + 2; omega) (by show j + 2 * 0 + 1 = j + 1; omega)).symm.trans z) (by decide)), if_pos (ga hB (by show i + 2 * 1 + 0 = i + 2; omega) (by show j + 2 * 0 + -1 = j - 1; omega))]; rfl
        have e1 : i + (eaD 0 + eaD 3) = i + 1 := by show i + (1 + 0) = i + 1; omega
        have e2 : j + (noD 0 + noD 3) = j - 1 := by show j + (0 + -1) = j - 1; omega
        rw [e, e1, e2]
        refine ⟨Or.inr (Or.inr (Or.inr ⟨rfl, ⟨by omega, by omega⟩, (ga hB (by omega) (by omega)), (ga c2 (by omega) (by omega))⟩)), ?_⟩
        unfold pD
        rw [if_neg (by decide)]
        rw [if_neg (by decide)]
        rw [if_neg (by decide)]
        rw [if_neg (fun z => absurd ((ga hA (by omega) (by omega)).symm.trans z) (by decide))]
        rw [if_pos (ga c1 (by omega) (by omega))]
  · cases hA : g (i - 1) (j + 2)
    · have e : nD g i j 1 = 2 := by unfold nD; rw [if_pos (ga hA (by show i + 2 * 0 + -1 = i - 1; omega) (by show j + 2 * 1 + 0 = j + 2; omega))]; rfl
      have e1 : i + (eaD 1 + eaD 2) = i - 1 := by show i + (0 + -1) = i - 1; omega
      have e2 : j + (noD 1 + noD 2) = j + 1 := by show j + (1 + 0) = j + 1; omega
      rw [e, e1, e2]
      refine ⟨Or.inr (Or.inr (Or.inl ⟨rfl, ⟨by omega, by omega⟩, (ga c1 (by omega) (by omega)), (ga hA (by omega) (by omega))⟩)), ?_⟩
      unfold pD
      rw [if_neg (by decide)]
      rw [if_neg (by decide)]
      rw [if_pos rfl]
      rw [if_pos (ga c2 (by omega) (by omega))]
    · cases hB : g (i + 1) (j + 2)
      · have e : nD g i j 1 = 1 := by unfold nD; rw [if_neg (fun z => absurd ((ga hA (by show i + 2 * 0 + -1 = i - 1; omega) (by show j + 2 * 1 + 0 = j + 2; omega)).symm.trans z) (by decide)), if_neg (fun z => absurd ((ga hB (by show i + 2 * 0 + 1 = i + 1; omega) (by show j + 2 * 1 + 0 = j + 2; omega)).symm.trans z) (by decide))]
        have e1 : i + (eaD 1 + eaD 1) = i := by show i + (0 + 0) = i; omega
        have e2 : j + (noD 1 + noD 1) = j + 2 := by show j + (1 + 1) = j + 2; omega
        rw [e, e1, e2]
        refine ⟨Or.inr (Or.inl ⟨rfl, ⟨by omega, by omega⟩, (ga hA (by omega) (by omega)), (ga hB (by omega) (by omega))⟩), ?_⟩
        unfold pD
        rw [if_neg (by decide)]
        rw [if_pos rfl]
        rw [if_neg (fun z => absurd ((ga c1 (by omega) (by omega)).symm.trans z) (by decide))]
        rw [if_neg (fun z => absurd ((ga c2 (by omega) (by omega)).symm.trans z) (by decide))]
      · have e : nD g i j 1 = 0 := by unfold nD; rw [if_neg (fun z => absurd ((ga hA (by show i + 2 * 0 + -1 = i - 1; omega) (by show j + 2 * 1 + 0 = j + 2; omega)).symm.trans z) (by decide)), if_pos (ga hB (by show i + 2 * 0 + 1 = i + 1; omega) (by show j + 2 * 1 + 0 = j + 2; omega))]; rfl
        have e1 : i + (eaD 1 + eaD 0) = i + 1 := by show i + (0 + 1) = i + 1; omega
        have e2 : j + (noD 1 + noD 0) = j + 1 := by show j + (1 + 0) = j + 1; omega
        rw [e, e1, e2]
        refine ⟨Or.inl ⟨rfl, ⟨by omega, by omega⟩, (ga hB (by omega) (by omega)), (ga c2 (by omega) (by omega))⟩, ?_⟩
        unfold pD
        rw [if_pos rfl]
        rw [if_neg (fun z => absurd ((ga hA (by omega) (by omega)).symm.trans z) (by decide))]
        rw [if_pos (ga c1 (by omega) (by omega))]
  · cases hA : g (i - 2) (j - 1)
    · have e : nD g i j 2 = 3 := by unfold nD; rw [if_pos (ga hA (by show i + 2 * -1 + 0 = i - 2; omega) (by show j + 2 * 0 + -1 = j - 1; omega))]; rfl
      have e1 : i + (eaD 2 + eaD 3) = i - 1 := by show i + (-1 + 0) = i - 1; omega
      have e2 : j + (noD 2 + noD 3) = j - 1 := by show j + (0 + -1) = j - 1; omega
      rw [e, e1, e2]
      refine ⟨Or.inr (Or.inr (Or.inr ⟨rfl, ⟨by omega, by omega⟩, (ga c1 (by omega) (by omega)), (ga hA (by omega) (by omega))⟩)), ?_⟩
      unfold pD
      rw [if_neg (by decide)]
      rw [if_neg (by decide)]
      rw [if_neg (by decide)]
      rw [if_pos (ga c2 (by omega) (by omega))]
    · cases hB : g (i - 2) (j + 1)
      · have e : nD g i j 2 = 2 := by unfold nD; rw [if_neg (fun z => absurd ((ga hA (by show i + 2 * -1 + 0 = i - 2; omega) (by show j + 2 * 0 + -1 = j - 1; omega)).symm.trans z) (by decide)), if_neg (fun z => absurd ((ga hB (by show i + 2 * -1 + 0 = i - 2; omega) (by show j + 2 * 0 + 1 = j + 1; omega)).symm.trans z) (by decide))]
        have e1 : i + (eaD 2 + eaD 2) = i - 2 := by show i + (-1 + -1) = i - 2; omega
        have e2 : j + (noD 2 + noD 2) = j := by show j + (0 + 0) = j; omega
        rw [e, e1, e2]
        refine ⟨Or.inr (Or.inr (Or.inl ⟨rfl, ⟨by omega, by omega⟩, (ga hA (by omega) (by omega)), (ga hB (by omega) (by omega))⟩)), ?_⟩
        unfold pD
        rw [if_neg (by decide)]
        rw [if_neg (by decide)]
        rw [if_pos rfl]
        rw [if_neg (fun z => absurd ((ga c1 (by omega) (by omega)).symm.trans z) (by decide))]
        rw [if_neg (fun z => absurd ((ga c2 (by omega) (by omega)).symm.trans z) (by decide))]
      · have e : nD g i j 2 = 1 := by unfold nD; rw [if_neg (fun z => absurd ((ga hA (by show i + 2 * -1 + 0 = i - 2; omega) (by show j + 2 * 0 + -1 = j - 1; omega)).symm.trans z) (by decide)), if_pos (ga hB (by show i + 2 * -1 + 0 = i - 2; omega) (by show j + 2 * 0 + 1 = j + 1; omega))]; rfl
        have e1 : i + (eaD 2 + eaD 1) = i - 1 := by show i + (-1 + 0) = i - 1; omega
        have e2 : j + (noD 2 + noD 1) = j + 1 := by show j + (0 + 1) = j + 1; omega
        rw [e, e1, e2]
        refine ⟨Or.inr (Or.inl ⟨rfl, ⟨by omega, by omega⟩, (ga hB (by omega) (by omega)), (ga c2 (by omega) (by omega))⟩), ?_⟩
        unfold pD
        rw [if_neg (by decide)]
        rw [if_pos rfl]
        rw [if_neg (fun z => absurd ((ga hA (by omega) (by omega)).symm.trans z) (by decide))]
        rw [if_pos (ga c1 (by omega) (by omega))]
  · cases hA : g (i + 1) (j - 2)
    · have e : nD g i j 3 = 0 := by unfold nD; rw [if_pos (ga hA (by show i + 2 * 0 + 1 = i + 1; omega) (by show j + 2 * -1 + 0 = j - 2; omega))]; rfl
      have e1 : i + (eaD 3 + eaD 0) = i + 1 := by show i + (0 + 1) = i + 1; omega
      have e2 : j + (noD 3 + noD 0) = j - 1 := by show j + (-1 + 0) = j - 1; omega
      rw [e, e1, e2]
      refine ⟨Or.inl ⟨rfl, ⟨by omega, by omega⟩, (ga c1 (by omega) (by omega)), (ga hA (by omega) (by omega))⟩, ?_⟩
      unfold pD
      rw [if_pos rfl]
      rw [if_pos (ga c2 (by omega) (by omega))]
    · cases hB : g (i - 1) (j - 2)
      · have e : nD g i j 3 = 3 := by unfold nD; rw [if_neg (fun z => absurd ((ga hA (by show i + 2 * 0 + 1 = i + 1; omega) (by show j + 2 * -1 + 0 = j - 2; omega)).symm.trans z) (by decide)), if_neg (fun z => absurd ((ga hB (by show i + 2 * 0 + -1 = i - 1; omega) (by show j + 2 * -1 + 0 = j - 2; omega)).symm.trans z) (by decide))]
        have e1 : i + (eaD 3 + eaD 3) = i := by show i + (0 + 0) = i; omega
        have e2 : j + (noD 3 + noD 3) = j - 2 := by show j + (-1 + -1) = j - 2; omega
        rw [e, e1, e2]
        refine ⟨Or.inr (Or.inr (Or.inr ⟨rfl, ⟨by omega, by omega⟩, (ga hA (by omega) (by omega)), (ga hB (by omega) (by omega))⟩)), ?_⟩
        unfold pD
        rw [if_neg (by decide)]
        rw [if_neg (by decide)]
        rw [if_neg (by decide)]
        rw [if_neg (fun z => absurd ((ga c1 (by omega) (by omega)).symm.trans z) (by decide))]
        rw [if_neg (fun z => absurd ((ga c2 (by omega) (by omega)).symm.trans z) (by decide))]
      · have e : nD g i j 3 = 2 := by unfold nD; rw [if_neg (fun z => absurd ((ga hA (by show i + 2 * 0 + 1 = i + 1; omega) (by show j + 2 * -1 + 0 = j - 2; omega)).symm.trans z) (by decide)), if_pos (ga hB (by show i + 2 * 0 + -1 = i - 1; omega) (by show j + 2 * -1 + 0 = j - 2; omega))]; rfl
        have e1 : i + (eaD 3 + eaD 2) = i - 1 := by show i + (0 + -1) = i - 1; omega
        have e2 : j + (noD 3 + noD 2) = j - 1 := by show j + (-1 + 0) = j - 1; omega
        rw [e, e1, e2]
        refine ⟨Or.inr (Or.inr (Or.inl ⟨rfl, ⟨by omega, by omega⟩, (ga hB (by omega) (by omega)), (ga c2 (by omega) (by omega))⟩)), ?_⟩
        unfold pD
        rw [if_neg (by decide)]
        rw [if_neg (by decide)]
        rw [if_pos rfl]
        rw [if_neg (fun z => absurd ((ga hA (by omega) (by omega)).symm.trans z) (by decide))]
        rw [if_pos (ga c1 (by omega) (by omega))]
