/-! closure -/
def clI (g : Int → Int → Bool) : Int → Int → Bool := fun i j => g i j || (decide (i % 2 = 0) && (g (i - 1) j || g (i + 1) j))
def clJ (g : Int → Int → Bool) : Int → Int → Bool := fun i j => g i j || (decide (j % 2 = 0) && (g i (j - 1) || g i (j + 1)))
def clos (g : Int → Int → Bool) : Int → Int → Bool := clJ (clI g)
def Sup (g : Int → Int → Bool) : Prop := ∀ i j, g i j = true → Gd i j
def setl (S : Int → Int → Int → Bool) (s : Int) (F : Int → Int → Bool) : Int → Int → Int → Bool := fun s' => if s' = s then F else S s'
theorem cI_i (g : Int → Int → Bool) (i j : Int) : clI g i j = true ↔ g i j = true ∨ (i % 2 = 0 ∧ (g (i - 1) j = true ∨ g (i + 1) j = true)) := by
  unfold clI; simp only [Bool.or_eq_true, Bool.and_eq_true, decide_eq_true_eq]
theorem cJ_i (g : Int → Int → Bool) (i j : Int) : clJ g i j = true ↔ g i j = true ∨ (j % 2 = 0 ∧ (g i (j - 1) = true ∨ g i (j + 1) = true)) := by
  unfold clJ; simp only [Bool.or_eq_true, Bool.and_eq_true, decide_eq_true_eq]
theorem be {x y : Bool} (h : x = true ↔ y = true) : x = y := by
  cases x <;> cases y
  · rfl
  · exact absurd (h.mpr rfl) (by decide)
  · exact absurd (h.mp rfl) (by decide)
  · rfl
theorem mk_set {S S' : Int → Int → Int → Bool} {s : Int} {R : Int → Int → Prop} {F : Int → Int → Bool} (m : Mk S s R S') (h : ∀ i j, F i j = true ↔ S s i j = true ∨ R i j) : S' = setl S s F := by
  funext s'
  unfold setl
  by_cases e : s' = s
  · rw [if_pos e, e]
    funext i j
    exact be ((m.2 i j).trans (h i j).symm)
  · rw [if_neg e]; exact m.1 s' e
theorem cI_s {g : Int → Int → Bool} (H : Sup g) : Sup (clI g) := by
  intro i j h
  rcases (cI_i g i j).mp h with h | ⟨h0, h | h⟩
  · exact H i j h
  · have := H _ _ h; omega
  · have := H _ _ h; omega
theorem cJ_s {g : Int → Int → Bool} (H : Sup g) : Sup (clJ g) := by
  intro i j h
  rcases (cJ_i g i j).mp h with h | ⟨h0, h | h⟩
  · exact H i j h
  · have := H _ _ h; omega
  · have := H _ _ h; omega
theorem cl_clo (g : Int → Int → Bool) : clo (clos g) := by
  intro i j h
  refine ⟨fun o => ?_, fun o => ?_⟩
  · have key : ∀ i', (i' = i - 1 ∨ i' = i + 1) → clos g i' j = true := by
      intro i' hi
      have lift : ∀ j', clI g i j' = true → clI g i' j' = true := by
        intro j' h'
        rcases (cI_i g i j').mp h' with q | q
        · refine (cI_i g i' j').mpr (Or.inr ⟨by omega, ?_⟩)
          rcases hi with e | e
          · right; rw [e]; have : i - 1 + 1 = i := by omega
            rw [this]; exact q
          · left; rw [e]; have : i + 1 - 1 = i := by omega
            rw [this]; exact q
        · omega
      rcases (cJ_i _ i j).mp h with q | ⟨q0, q | q⟩
      · exact (cJ_i _ _ _).mpr (Or.inl (lift _ q))
      · exact (cJ_i _ _ _).mpr (Or.inr ⟨q0, Or.inl (lift _ q)⟩)
      · exact (cJ_i _ _ _).mpr (Or.inr ⟨q0, Or.inr (lift _ q)⟩)
    exact ⟨key _ (Or.inl rfl), key _ (Or.inr rfl)⟩
  · rcases (cJ_i _ i j).mp h with q | ⟨q0, q⟩
    · refine ⟨(cJ_i _ _ _).mpr (Or.inr ⟨by omega, Or.inr ?_⟩), (cJ_i _ _ _).mpr (Or.inr ⟨by omega, Or.inl ?_⟩)⟩
      · have : j - 1 + 1 = j := by omega
        rw [this]; exact q
      · have : j + 1 - 1 = j := by omega
        rw [this]; exact q
    · omega
def RI (g : Int → Int → Bool) (i j i' j' : Int) : Prop := i' % 2 = 0 ∧ ((g (i' - 1) j' = true ∧ (j' < j ∨ (j' = j ∧ i' - 1 < i))) ∨ (g (i' + 1) j' = true ∧ (j' < j ∨ (j' = j ∧ i' + 1 < i))))
def RJ (g : Int → Int → Bool) (i j i' j' : Int) : Prop := j' % 2 = 0 ∧ ((g i' (j' - 1) = true ∧ (j' - 1 < j ∨ (j' - 1 = j ∧ i' < i))) ∨ (g i' (j' + 1) = true ∧ (j' + 1 < j ∨ (j' + 1 = j ∧ i' < i))))
theorem rI_0 {g : Int → Int → Bool} (H : Sup g) (i' j' : Int) : ¬ RI g 1 0 i' j' := by
  rintro ⟨h0, ⟨h1, h2⟩ | ⟨h1, h2⟩⟩
  · have := H _ _ h1; omega
  · have := H _ _ h1; omega
theorem rI_r {g : Int → Int → Bool} (H : Sup g) (j i' j' : Int) : RI g 25 j i' j' ↔ RI g 1 (j + 1) i' j' := by
  constructor
  · rintro ⟨h0, ⟨h1, h2⟩ | ⟨h1, h2⟩⟩
    · exact ⟨h0, Or.inl ⟨h1, by omega⟩⟩
    · exact ⟨h0, Or.inr ⟨h1, by omega⟩⟩
  · rintro ⟨h0, ⟨h1, h2⟩ | ⟨h1, h2⟩⟩
    · have := H _ _ h1; exact ⟨h0, Or.inl ⟨h1, by omega⟩⟩
    · have := H _ _ h1; exact ⟨h0, Or.inr ⟨h1, by omega⟩⟩
theorem rI_f {g : Int → Int → Bool} {i j : Int} (hi : i % 2 = 1) (h : g i j = false) (i' j' : Int) : RI g i j i' j' ↔ RI g (i + 2) j i' j' := by
  constructor
  · rintro ⟨h0, ⟨h1, h2⟩ | ⟨h1, h2⟩⟩
    · exact ⟨h0, Or.inl ⟨h1, by omega⟩⟩
    · exact ⟨h0, Or.inr ⟨h1, by omega⟩⟩
  · rintro ⟨h0, ⟨h1, h2⟩ | ⟨h1, h2⟩⟩
    · have : ¬ (i' - 1 = i ∧ j' = j) := by rintro ⟨e1, e2⟩; rw [e1, e2, h] at h1; exact absurd h1 (by decide)
      exact ⟨h0, Or.inl ⟨h1, by omega⟩⟩
    · have : ¬ (i' + 1 = i ∧ j' = j) := by rintro ⟨e1, e2⟩; rw [e1, e2, h] at h1; exact absurd h1 (by decide)
      exact ⟨h0, Or.inr ⟨h1, by omega⟩⟩
theorem rI_t {g : Int → Int → Bool} {i j : Int} (hi : i % 2 = 1) (h : g i j = true) (i' j' : Int) : RI g (i + 2) j i' j' ↔ (RI g i j i' j' ∨ (i' = i - 1 ∧ j' = j)) ∨ (i' = i + 1 ∧ j' = j) := by
  constructor
  · rintro ⟨h0, ⟨h1, h2⟩ | ⟨h1, h2⟩⟩
    · by_cases e : i' = i + 1 ∧ j' = j
      · exact Or.inr e
      · exact Or.inl (Or.inl ⟨h0, Or.inl ⟨h1, by omega⟩⟩)
    · by_cases e : i' = i - 1 ∧ j' = j
      · exact Or.inl (Or.inr e)
      · exact Or.inl (Or.inl ⟨h0, Or.inr ⟨h1, by omega⟩⟩)
  · rintro ((⟨h0, ⟨h1, h2⟩ | ⟨h1, h2⟩⟩ | ⟨e1, e2⟩) | ⟨e1, e2⟩)
    · exact ⟨h0, Or.inl ⟨h1, by omega⟩⟩
    · exact ⟨h0, Or.inr ⟨h1, by omega⟩⟩
    · refine ⟨by omega, Or.inr ⟨?_, by omega⟩⟩
      have : i' + 1 = i := by omega
      rw [this, e2]; exact h
    · refine ⟨by omega, Or.inl ⟨?_, by omega⟩⟩
      have : i' - 1 = i := by omega
      rw [this, e2]; exact h
theorem rJ_0 {g : Int → Int → Bool} (H : Sup g) (i' j' : Int) : ¬ RJ g 0 1 i' j' := by
  rintro ⟨h0, ⟨h1, h2⟩ | ⟨h1, h2⟩⟩
  · have := H _ _ h1; omega
  · have := H _ _ h1; omega
theorem rJ_r {g : Int → Int → Bool} (H : Sup g) {j : Int} (hj : j % 2 = 1) (i' j' : Int) : RJ g 25 j i' j' ↔ RJ g 0 (j + 2) i' j' := by
  constructor
  · rintro ⟨h0, ⟨h1, h2⟩ | ⟨h1, h2⟩⟩
    · exact ⟨h0, Or.inl ⟨h1, by omega⟩⟩
    · exact ⟨h0, Or.inr ⟨h1, by omega⟩⟩
  · rintro ⟨h0, ⟨h1, h2⟩ | ⟨h1, h2⟩⟩
    · have := H _ _ h1; exact ⟨h0, Or.inl ⟨h1, by omega⟩⟩
    · have := H _ _ h1; exact ⟨h0, Or.inr ⟨h1, by omega⟩⟩
theorem rJ_f {g : Int → Int → Bool} {i j : Int} (hj : j % 2 = 1) (h : g i j = false) (i' j' : Int) : RJ g i j i' j' ↔ RJ g (i + 1) j i' j' := by
  constructor
  · rintro ⟨h0, ⟨h1, h2⟩ | ⟨h1, h2⟩⟩
    · exact ⟨h0, Or.inl ⟨h1, by omega⟩⟩
    · exact ⟨h0, Or.inr ⟨h1, by omega⟩⟩
  · rintro ⟨h0, ⟨h1, h2⟩ | ⟨h1, h2⟩⟩
    · have : ¬ (i' = i ∧ j' - 1 = j) := by rintro ⟨e1, e2⟩; rw [e1, e2, h] at h1; exact absurd h1 (by decide)
      exact ⟨h0, Or.inl ⟨h1, by omega⟩⟩
    · have : ¬ (i' = i ∧ j' + 1 = j) := by rintro ⟨e1, e2⟩; rw [e1, e2, h] at h1; exact absurd h1 (by decide)
      exact ⟨h0, Or.inr ⟨h1, by omega⟩⟩
theorem rJ_t {g : Int → Int → Bool} {i j : Int} (hj : j % 2 = 1) (h : g i j = true) (i' j' : Int) : RJ g (i + 1) j i' j' ↔ (RJ g i j i' j' ∨ (i' = i ∧ j' = j - 1)) ∨ (i' = i ∧ j' = j + 1) := by
  constructor
  · rintro ⟨h0, ⟨h1, h2⟩ | ⟨h1, h2⟩⟩
    · by_cases e : i' = i ∧ j' = j + 1
      · exact Or.inr e
      · exact Or.inl (Or.inl ⟨h0, Or.inl ⟨h1, by omega⟩⟩)
    · by_cases e : i' = i ∧ j' = j - 1
      · exact Or.inl (Or.inr e)
      · exact Or.inl (Or.inl ⟨h0, Or.inr ⟨h1, by omega⟩⟩)
  · rintro ((⟨h0, ⟨h1, h2⟩ | ⟨h1, h2⟩⟩ | ⟨e1, e2⟩) | ⟨e1, e2⟩)
    · exact ⟨h0, Or.inl ⟨h1, by omega⟩⟩
    · exact ⟨h0, Or.inr ⟨h1, by omega⟩⟩
    · refine ⟨by omega, Or.inr ⟨?_, by omega⟩⟩
      have : j' + 1 = j := by omega
      rw [this, e1]; exact h
    · refine ⟨by omega, Or.inl ⟨?_, by omega⟩⟩
      have : j' - 1 = j := by omega
      rw [this, e1]; exact h
section
variable {c rc gc lr rk : Int32} {cx cy re st dg : Nat → Int32} {S : Int → Int → Int → Bool}
theorem xk_i1 {post : SX → Prop} {J : Int32 → Int32 → Int32 → Int32 → Int32 → Int32 → (Nat → Int32) → (Nat → Int32) → (Nat → Int32) → (Nat → Int32) → (Nat → Int32) → (Nat → Int32) → Prop} {s j : Int} (hs : 0 ≤ s ∧ s ≤ 6) (hj : 0 ≤ j ∧ j ≤ 24)
    (hJ : ∀ a' S', XP a' S' → Mk S s (RI (S s) 25 j) S' → J (zI (j + 1)) c rc gc lr rk a' cx cy re st dg) :
    ∀ (N : Nat) (i : Int) (a : Nat → Int32) (S' : Int → Int → Int → Bool), i % 2 = 1 → 1 ≤ i → i ≤ 25 → (25 - i).toNat < N → XP a S' → Mk S s (RI (S s) i j) S' → wX_close_10 post J (zI s) (zI j) N (zI i) c rc gc lr rk a cx cy re st dg := by
  intro N
  induction N with
  | zero => intro i a S' h0 h1 h2; omega
  | succ N ih =>
    intro i a S' h0 h1 h2 h3 P m
    refine zb_le 25 i (fun h => ?_) (fun h => ?_)
    · have e : i = 25 := by omega
      subst e; exact nm_r (zi_1 j) (hJ a S' P m)
    · have er : S' s i j = S s i j := be (by
        rw [m.2 i j]; exact ⟨fun z => z.elim id (fun z => absurd z.1 (by omega)), Or.inl⟩)
      refine xp_has P s i j hs (by omega) (by omega) ?_
      rw [er]
      refine bb_0 (fun e => nm_r (zi_2 i) ?_) (fun e => ?_)
      · exact ih (i + 2) a S' (by omega) (by omega) (by omega) (by omega) P (mk_c m (rI_f h0 e))
      · rw [zi_s1]
        refine xp_write P s (i - 1) j true hs (by omega) (fun a1 P1 => ?_)
        rw [zi_1]
        refine xp_write P1 s (i + 1) j true hs (by omega) (fun a2 P2 => nm_r (zi_2 i) ?_)
        exact ih (i + 2) a2 _ (by omega) (by omega) (by omega) (by omega) P2 (mk_w (mk_w m (fun _ _ => Iff.rfl)) (rI_t h0 e))
theorem xk_i2 {post : SX → Prop} {J : Int32 → Int32 → Int32 → Int32 → Int32 → Int32 → (Nat → Int32) → (Nat → Int32) → (Nat → Int32) → (Nat → Int32) → (Nat → Int32) → (Nat → Int32) → Prop} {s j : Int} (hs : 0 ≤ s ∧ s ≤ 6) (hj : 1 ≤ j ∧ j ≤ 23) (oj : j % 2 = 1)
    (hJ : ∀ a' S', XP a' S' → Mk S s (RJ (S s) 25 j) S' → J (zI (j + 2)) c rc gc lr rk a' cx cy re st dg) :
    ∀ (N : Nat) (i : Int) (a : Nat → Int32) (S' : Int → Int → Int → Bool), 0 ≤ i → i ≤ 25 → (25 - i).toNat < N → XP a S' → Mk S s (RJ (S s) i j) S' → wX_close_68 post J (zI s) (zI j) N (zI i) c rc gc lr rk a cx cy re st dg := by
  intro N
  induction N with
  | zero => intro i a S' h0 h1 h2; omega
  | succ N ih =>
    intro i a S' h1 h2 h3 P m
    refine zb_le 25 i (fun h => ?_) (fun h => ?_)
    · have e : i = 25 := by omega
      subst e; exact nm_r (zi_2 j) (hJ a S' P m)
    · have er : S' s i j = S s i j := be (by
        rw [m.2 i j]; exact ⟨fun z => z.elim id (fun z => absurd z.1 (by omega)), Or.inl⟩)
      refine xp_has P s i j hs (by omega) (by omega) ?_
      rw [er]
      refine bb_0 (fun e => nm_r (zi_1 i) ?_) (fun e => ?_)
      · exact ih (i + 1) a S' (by omega) (by omega) (by omega) P (mk_c m (rJ_f oj e))
      · rw [zi_s1]
        refine xp_write P s i (j - 1) true hs (by omega) (fun a1 P1 => ?_)
        rw [zi_1 j]
        refine xp_write P1 s i (j + 1) true hs (by omega) (fun a2 P2 => nm_r (zi_1 i) ?_)
        exact ih (i + 1) a2 _ (by omega) (by omega) (by omega) P2 (mk_w (mk_w m (fun _ _ => Iff.rfl)) (rJ_t oj e))
theorem xk_o2 {post : SX → Prop} {s : Int} (hs : 0 ≤ s ∧ s ≤ 6) (H : Sup (S s))
    (f : ∀ a' S', XP a' S' → Mk S s (RJ (S s) 0 25) S' → post (c, rc, gc, lr, rk, a', cx, cy, re, st, dg)) :
    ∀ (N : Nat) (j : Int) (a : Nat → Int32) (S' : Int → Int → Int → Bool), j % 2 = 1 → 1 ≤ j → j ≤ 25 → (25 - j).toNat < N → XP a S' → Mk S s (RJ (S s) 0 j) S' → wX_close_60 post (zI s) N (zI j) c rc gc lr rk a cx cy re st dg := by
  intro N
  induction N with
  | zero => intro i a S' h0 h1 h2; omega
  | succ N ih =>
    intro j a S' h0 h1 h2 h3 P m
    refine zb_le 25 j (fun h => ?_) (fun h => ⟨26, ?_⟩)
    · have e : j = 25 := by omega
      subst e; exact f a S' P m
    · exact xk_i2 hs (by omega) h0 (fun a' S'' P' m' => ih (j + 2) a' S'' (by omega) (by omega) (by omega) (by omega) P' (mk_c m' (rJ_r H h0))) 26 0 a S' (by omega) (by omega) (by omega) P m
theorem xk_o1 {post : SX → Prop} {s : Int} (hs : 0 ≤ s ∧ s ≤ 6) (H : Sup (S s))
    (f : ∀ a' S', XP a' S' → Mk S s (RI (S s) 1 25) S' → ∃ n60 : Nat, wX_close_60 post (zI s) n60 1 c rc gc lr rk a' cx cy re st dg) :
    ∀ (N : Nat) (j : Int) (a : Nat → Int32) (S' : Int → Int → Int → Bool), 0 ≤ j → j ≤ 25 → (25 - j).toNat < N → XP a S' → Mk S s (RI (S s) 1 j) S' → wX_close_2 post (zI s) N (zI j) c rc gc lr rk a cx cy re st dg := by
  intro N
  induction N with
  | zero => intro i a S' h0 h1 h2; omega
  | succ N ih =>
    intro j a S' h1 h2 h3 P m
    refine zb_le 25 j (fun h => ?_) (fun h => ⟨26, ?_⟩)
    · have e : j = 25 := by omega
      subst e; exact f a S' P m
    · exact xk_i1 hs (by omega) (fun a' S'' P' m' => ih (j + 1) a' S'' (by omega) (by omega) (by omega) P' (mk_c m' (rI_r H j))) 26 1 a S' (by omega) (by omega) (by omega) (by omega) P m
theorem xp_close {post : SX → Prop} {a : Nat → Int32} (P : XP a S) (s : Int) (hs : 0 ≤ s ∧ s ≤ 6) (f : ∀ a', XP a' (setl S s (clos (S s))) → post (c, rc, gc, lr, rk, a', cx, cy, re, st, dg)) : wpX_close post (c, rc, gc, lr, rk, a, cx, cy, re, st, dg) (zI s) := by
  unfold wpX_close
  have H : Sup (S s) := fun i j h => P.2 s i j h
  refine ⟨26, xk_o1 hs H (fun a' S' P' m' => ⟨26, ?_⟩) 26 0 a S (by omega) (by omega) (by omega) P (mk_0 (rI_0 H))⟩
  have e1 : S' = setl S s (clI (S s)) := mk_set m' (fun i j => by
    rw [cI_i]
    constructor
    · rintro (h | ⟨h0, h | h⟩)
      · exact Or.inl h
      · have := H _ _ h; exact Or.inr ⟨h0, Or.inl ⟨h, by omega⟩⟩
      · have := H _ _ h; exact Or.inr ⟨h0, Or.inr ⟨h, by omega⟩⟩
    · rintro (h | ⟨h0, h | h⟩)
      · exact Or.inl h
      · exact Or.inr ⟨h0, Or.inl h.1⟩
      · exact Or.inr ⟨h0, Or.inr h.1⟩)
  have e2 : S' s = clI (S s) := by rw [e1]; unfold setl; rw [if_pos rfl]
  have H' : Sup (S' s) := fun i j h => P'.2 s i j h
  refine xk_o2 hs H' (fun a'' S'' P'' m'' => ?_) 26 1 a' S' (by omega) (by omega) (by omega) (by omega) P' (mk_0 (rJ_0 H'))
  have e3 : S'' = setl S' s (clJ (S' s)) := mk_set m'' (fun i j => by
    rw [cJ_i]
    constructor
    · rintro (h | ⟨h0, h | h⟩)
      · exact Or.inl h
      · have := H' _ _ h; exact Or.inr ⟨h0, Or.inl ⟨h, by omega⟩⟩
      · have := H' _ _ h; exact Or.inr ⟨h0, Or.inr ⟨h, by omega⟩⟩
    · rintro (h | ⟨h0, h | h⟩)
      · exact Or.inl h
      · exact Or.inr ⟨h0, Or.inl h.1⟩
      · exact Or.inr ⟨h0, Or.inr h.1⟩)
  apply f a''
  rw [e3, e2] at P''
  have e4 : setl S' s (clJ (clI (S s))) = setl S s (clos (S s)) := by
    funext s'
    unfold setl
    by_cases e : s' = s
    · rw [if_pos e, if_pos e]; rfl
    · rw [if_neg e, if_neg e, m'.1 s' e]
  rw [e4] at P''; exact P''
end
