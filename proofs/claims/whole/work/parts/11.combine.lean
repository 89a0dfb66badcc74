/-! Y: closing, keeping; mixing; combine -/
def A1 (m : Nat → Int32) (g : Int → Int → Bool) : Prop := ∀ i j, Gd i j → m (25 * i + j).toNat = bI (g i j)
def Fc (g : Int → Int → Bool) (i j p q : Int) : Prop := Gd (i + p) (j + q) ∧ (p ≠ 0 ∨ q ≠ 0) ∧ (p = 0 ∨ (i + p) % 2 = 1) ∧ (q = 0 ∨ (j + q) % 2 = 1) ∧ g (i + p) (j + q) = true
def Fd1 (g : Int → Int → Bool) (i j d : Int) : Prop := g i j = true ∨ ∃ p q, (-1 ≤ p ∧ p ≤ 1) ∧ (-1 ≤ q ∧ q ≤ 1) ∧ 3 * (p + 1) + (q + 1) < d ∧ Fc g i j p q
theorem fc_cl {g : Int → Int → Bool} (H : Sup g) {i j : Int} (hg : Gd i j) : Fd1 g i j 9 ↔ clos g i j = true := by
  unfold clos
  rw [cJ_i, cI_i, cI_i, cI_i]
  constructor
  · rintro (h | ⟨p, q, hp, hq, -, f1, f2, f3, f4, f5⟩)
    · exact Or.inl (Or.inl h)
    · have ep : p = -1 ∨ p = 0 ∨ p = 1 := by omega
      have eq : q = -1 ∨ q = 0 ∨ q = 1 := by omega
      rcases ep with rfl | rfl | rfl <;> rcases eq with rfl | rfl | rfl
      · exact Or.inr ⟨by omega, Or.inl (Or.inr ⟨by omega, Or.inl f5⟩)⟩
      · have e : j + 0 = j := by omega
        rw [e] at f5
        exact Or.inl (Or.inr ⟨by omega, Or.inl f5⟩)
      · exact Or.inr ⟨by omega, Or.inr (Or.inr ⟨by omega, Or.inl f5⟩)⟩
      · have e : i + 0 = i := by omega
        rw [e] at f5
        exact Or.inr ⟨by omega, Or.inl (Or.inl f5)⟩
      · omega
      · have e : i + 0 = i := by omega
        rw [e] at f5
        exact Or.inr ⟨by omega, Or.inr (Or.inl f5)⟩
      · exact Or.inr ⟨by omega, Or.inl (Or.inr ⟨by omega, Or.inr f5⟩)⟩
      · have e : j + 0 = j := by omega
        rw [e] at f5
        exact Or.inl (Or.inr ⟨by omega, Or.inr f5⟩)
      · exact Or.inr ⟨by omega, Or.inr (Or.inr ⟨by omega, Or.inr f5⟩)⟩
  · have mk : ∀ p q, (-1 ≤ p ∧ p ≤ 1) → (-1 ≤ q ∧ q ≤ 1) → (p ≠ 0 ∨ q ≠ 0) → (p = 0 ∨ (i + p) % 2 = 1) → (q = 0 ∨ (j + q) % 2 = 1) → g (i + p) (j + q) = true → Fd1 g i j 9 :=
      fun p q h1 h2 h3 h4 h5 h6 => Or.inr ⟨p, q, h1, h2, by omega, H _ _ h6, h3, h4, h5, h6⟩
    have z1 : i + 0 = i := by omega
    have z2 : j + 0 = j := by omega
    rintro ((h | ⟨h0, h | h⟩) | ⟨h0, (h | ⟨h1, h | h⟩) | (h | ⟨h1, h | h⟩)⟩)
    · exact Or.inl h
    · exact mk (-1) 0 (by omega) (by omega) (by omega) (by omega) (by omega) (by rw [z2]; exact h)
    · exact mk 1 0 (by omega) (by omega) (by omega) (by omega) (by omega) (by rw [z2]; exact h)
    · exact mk 0 (-1) (by omega) (by omega) (by omega) (by omega) (by omega) (by rw [z1]; exact h)
    · exact mk (-1) (-1) (by omega) (by omega) (by omega) (by omega) (by omega) h
    · exact mk 1 (-1) (by omega) (by omega) (by omega) (by omega) (by omega) h
    · exact mk 0 1 (by omega) (by omega) (by omega) (by omega) (by omega) (by rw [z1]; exact h)
    · exact mk (-1) 1 (by omega) (by omega) (by omega) (by omega) (by omega) h
    · exact mk 1 1 (by omega) (by omega) (by omega) (by omega) (by omega) h
theorem fd_s {g : Int → Int → Bool} {i j d : Int} (hd : 0 ≤ d ∧ d ≤ 8) : Fd1 g i j (d + 1) ↔ Fd1 g i j d ∨ Fc g i j (d / 3 - 1) (d % 3 - 1) := by
  constructor
  · rintro (h | ⟨p, q, hp, hq, hlt, f⟩)
    · exact Or.inl (Or.inl h)
    · by_cases e : 3 * (p + 1) + (q + 1) < d
      · exact Or.inl (Or.inr ⟨p, q, hp, hq, e, f⟩)
      · have e1 : p = d / 3 - 1 := by omega
        have e2 : q = d % 3 - 1 := by omega
        rw [e1, e2] at f; exact Or.inr f
  · rintro ((h | ⟨p, q, hp, hq, hlt, f⟩) | f)
    · exact Or.inl h
    · exact Or.inr ⟨p, q, hp, hq, by omega, f⟩
    · exact Or.inr ⟨_, _, by omega, by omega, by omega, f⟩
section
variable {c : Int32} {ly fi ma se px py la : Nat → Int32} {S : Int → Int → Int → Bool}
theorem yp_face {post : Int32 → Prop} {i j p q : Int} (hg : Gd i j) (hp : -1 ≤ p ∧ p ≤ 1) (hq : -1 ≤ q ∧ q ≤ 1)
    (f : Gd (i + p) (j + q) ∧ (p ≠ 0 ∨ q ≠ 0) ∧ (p = 0 ∨ (i + p) % 2 = 1) ∧ (q = 0 ∨ (j + q) % 2 = 1) → post 1)
    (g : ¬ (Gd (i + p) (j + q) ∧ (p ≠ 0 ∨ q ≠ 0) ∧ (p = 0 ∨ (i + p) % 2 = 1) ∧ (q = 0 ∨ (j + q) % 2 = 1)) → post 0) : wpY_isFaceOf post (c, ly, fi, ma, se, px, py, la) (zI i) (zI j) (zI p) (zI q) := by
  unfold wpY_isFaceOf
  rw [zi_add, zi_add]
  refine yg_atom _ _ (by omega) (by omega) (fun ga => b1_f ?_) (fun ga => b0_t (g (fun h => ga h.1)))
  have k36 : (p = 0 ∨ (i + p) % 2 = 1) → (p ≠ 0 ∨ q ≠ 0) → wY_isFaceOf_36 post (zI j) (zI q) c ly fi ma se px py la := by
    intro h1 h2
    refine zb_eq q 0 (fun e => f ⟨ga, h2, h1, Or.inl e⟩) (fun e => ⟨by decide, ?_⟩)
    rw [zi_add, zi_r2 (by omega)]
    exact zb_eq ((j + q) % 2) 1 (fun e1 => f ⟨ga, h2, h1, Or.inr e1⟩) (fun e1 => g (fun h => by omega))
  have k23 : (p ≠ 0 ∨ q ≠ 0) → wY_isFaceOf_23 post (zI i) (zI j) (zI p) (zI q) c ly fi ma se px py la := by
    intro h2
    refine zb_eq p 0 (fun e => k36 (Or.inl e) h2) (fun e => ⟨by decide, ?_⟩)
    rw [zi_add, zi_r2 (by omega)]
    exact zb_eq ((i + p) % 2) 1 (fun e1 => k36 (Or.inr e1) h2) (fun e1 => g (fun h => by omega))
  exact zb_eq p 0 (fun e => zb_eq q 0 (fun e2 => g (fun h => by omega)) (fun e2 => k23 (Or.inr e2))) (fun e => k23 (Or.inl e))
def MB (m : Nat → Int32) (g : Int → Int → Bool) (q : Int) (b : Bool) : Prop :=
  (∀ i j, Gd i j → 25 * i + j ≠ q → m (25 * i + j).toNat = bI (if 25 * i + j < q then clos g i j else g i j)) ∧ m q.toNat = bI b
theorem yk_i {post : SY → Prop} {J : Int32 → (Nat → Int32) → (Nat → Int32) → (Nat → Int32) → (Nat → Int32) → (Nat → Int32) → (Nat → Int32) → (Nat → Int32) → Prop} {g : Int → Int → Bool} (A : A1 se g) {q : Int} (hq : 0 ≤ q ∧ q ≤ 624)
    (hJ : ∀ ma' b, MB ma' g q b → (b = true ↔ Fd1 g (q / 25) (q % 25) 9) → J (zI (q + 1)) ly fi ma' se px py la) :
    ∀ (N : Nat) (d : Int) (ma : Nat → Int32) (b : Bool), 0 ≤ d → d ≤ 9 → (9 - d).toNat < N → MB ma g q b → (b = true ↔ Fd1 g (q / 25) (q % 25) d) → wY_close_49 post J (zI q) (zI (q / 25)) (zI (q % 25)) c N (zI d) ly fi ma se px py la := by
  intro N
  induction N with
  | zero => intro d ma b h0 h1 h2; omega
  | succ N ih =>
    intro d ma b h0 h1 h2 hM hb
    refine zb_le 9 d (fun h => ?_) (fun h => ?_)
    · have e : d = 9 := by omega
      subst e; exact nm_r (zi_1 q) (hJ ma b hM hb)
    · have e5 : zI d / 3 - 1 = zI (d / 3 - 1) := by rw [zi_d3 (by omega), zi_s1]
      have e6 : (zI d - zI d / 3 * 3) - 1 = zI (d % 3 - 1) := by rw [zi_r3 (by omega), zi_s1]
      refine ⟨by decide, nm_r e5 ⟨by decide, nm_r e6 ?_⟩⟩
      have no : ¬ Fc g (q / 25) (q % 25) (d / 3 - 1) (d % 3 - 1) → wY_close_49 post J (zI q) (zI (q / 25)) (zI (q % 25)) c N (zI (d + 1)) ly fi ma se px py la := by
        intro hh
        refine ih (d + 1) ma b (by omega) (by omega) (by omega) hM ?_
        rw [fd_s (by omega), hb]
        exact ⟨Or.inl, fun z => z.elim id (fun z => absurd z hh)⟩
      refine yp_face (by omega) (by omega) (by omega) (fun hf => b1_f ?_) (fun hf => b0_t (nm_r (zi_1 d) (no (fun hc => hf ⟨hc.1, hc.2.1, hc.2.2.1, hc.2.2.2.1⟩))))
      have ei : (zI q + (25 * zI (d / 3 - 1))) + zI (d % 3 - 1) = zI (25 * (q / 25 + (d / 3 - 1)) + (q % 25 + (d % 3 - 1))) := by
        have e : 25 * zI (d / 3 - 1) = zI (25 * (d / 3 - 1)) := zi_mul 25 _
        rw [e, zi_add, zi_add]; apply congrArg zI; omega
      have hgd := hf.1
      refine ⟨zv_in (25 * (q / 25 + (d / 3 - 1)) + (q % 25 + (d % 3 - 1))) (by omega) ei, ?_⟩
      rw [zv_cl _ ei, A _ _ hf.1]
      refine bb_0 (fun e => nm_r (zi_1 d) (no (fun hc => ?_))) (fun e => ⟨zv_in q (by omega), nm_e (nm_r (zi_1 d) ?_)⟩)
      · rw [hc.2.2.2.2] at e; exact absurd e (by decide)
      · refine ih (d + 1) _ true (by omega) (by omega) (by omega) ⟨fun i j gd hne => ?_, ?_⟩ ?_
        · rw [zi_cl (by omega)]; unfold upd
          rw [if_neg (by omega)]; exact hM.1 i j gd hne
        · rw [zi_cl (by omega)]; unfold upd
          rw [if_pos rfl]; rfl
        · rw [fd_s (by omega)]
          exact ⟨fun _ => Or.inr ⟨hf.1, hf.2.1, hf.2.2.1, hf.2.2.2, e⟩, fun _ => rfl⟩
theorem yk_o {post : SY → Prop} {g : Int → Int → Bool} (H : Sup g) (A : A1 se g)
    (f : ∀ ma', A1 ma' (clos g) → post (c, ly, fi, ma', se, px, py, la)) :
    ∀ (N : Nat) (q : Int) (ma : Nat → Int32), 0 ≤ q → q ≤ 625 → (625 - q).toNat < N → (∀ i j, Gd i j → ma (25 * i + j).toNat = bI (if 25 * i + j < q then clos g i j else g i j)) → wY_close_29 post c N (zI q) ly fi ma se px py la := by
  intro N
  induction N with
  | zero => intro q ma h0 h1; omega
  | succ N ih =>
    intro q ma h0 h1 h2 hM
    refine zb_le 625 q (fun h => f ma (fun i j gd => ?_)) (fun h => ⟨by decide, nm_r (zi_d25 (by omega)) ⟨by decide, nm_r (zi_r25 (by omega)) ⟨10, ?_⟩⟩⟩)
    · rw [hM i j gd, if_pos (by omega)]
    · have gq : Gd (q / 25) (q % 25) := by omega
      have e0 : 25 * (q / 25) + q % 25 = q := by omega
      refine yk_i A (by omega) (fun ma' b hM' hb' => ih (q + 1) ma' (by omega) (by omega) (by omega) (fun i j gd => ?_)) 10 0 ma (g (q / 25) (q % 25)) (by omega) (by omega) (by omega) ⟨fun i j gd _ => hM i j gd, ?_⟩ ?_
      · by_cases e : 25 * i + j = q
        · have e1 : i = q / 25 := by omega
          have e2 : j = q % 25 := by omega
          rw [if_pos (by omega), e, hM'.2, e1, e2]
          congr 1
          exact be (hb'.trans (fc_cl H gq))
        · rw [hM'.1 i j gd e]
          by_cases e2 : 25 * i + j < q
          · rw [if_pos e2, if_pos (by omega)]
          · rw [if_neg e2, if_neg (by omega)]
      · have := hM _ _ gq
        rw [e0, if_neg (by omega)] at this; exact this
      · exact ⟨Or.inl, fun z => z.elim id (fun ⟨p, q, h1, h2, h3, _⟩ => by omega)⟩
theorem yk_c {post : SY → Prop} {g : Int → Int → Bool} (H : Sup g) (A : A1 ma g)
    (f : ∀ ma' se', A1 ma' (clos g) → post (c, ly, fi, ma', se', px, py, la)) :
    ∀ (N : Nat) (q : Int) (se : Nat → Int32), 0 ≤ q → q ≤ 625 → (625 - q).toNat < N → (∀ i j, Gd i j → 25 * i + j < q → se (25 * i + j).toNat = bI (g i j)) → wY_close_2 post c N (zI q) ly fi ma se px py la := by
  intro N
  induction N with
  | zero => intro q ma h0 h1; omega
  | succ N ih =>
    intro q se h0 h1 h2 hM
    refine zb_le 625 q (fun h => ⟨626, ?_⟩) (fun h => ⟨zv_in q (by omega), zv_in q (by omega), nm_e (nm_r (zi_1 q) ?_)⟩)
    · refine yk_o (g := g) H (fun i j gd => hM i j gd (by omega)) (fun ma' h' => f ma' se h') 626 0 ma (by omega) (by omega) (by omega) (fun i j gd => ?_)
      rw [if_neg (by omega)]; exact A i j gd
    · refine ih (q + 1) _ (by omega) (by omega) (by omega) (fun i j gd hlt => ?_)
      rw [zi_cl (by omega)]
      unfold upd
      by_cases e : 25 * i + j = q
      · rw [if_pos (by omega), ← e, A i j gd, bi_v]
      · rw [if_neg (by omega)]; exact hM i j gd (by omega)
theorem yp_close {post : SY → Prop} {g : Int → Int → Bool} (H : Sup g) (A : A1 ma g) (f : ∀ ma' se', A1 ma' (clos g) → post (c, ly, fi, ma', se', px, py, la)) : wpY_close post (c, ly, fi, ma, se, px, py, la) := by
  unfold wpY_close
  exact ⟨626, yk_c H A f 626 0 se (by omega) (by omega) (by omega) (fun i j gd hlt => absurd hlt (by omega))⟩
def kp (S : Int → Int → Int → Bool) (l : Int) (g : Int → Int → Bool) (q : Int) : Int → Int → Int → Bool := fun s i j => if s = l ∧ 25 * i + j < q then g i j else S s i j
theorem ykp {post : SY → Prop} {g : Int → Int → Bool} {l : Int} (hl : 0 ≤ l ∧ l ≤ 5) (A : A1 ma g)
    (f : ∀ ly', YP ly' (setl S l g) → post (c, ly', fi, ma, se, px, py, la)) :
    ∀ (N : Nat) (q : Int) (ly : Nat → Int32), 0 ≤ q → q ≤ 625 → (625 - q).toNat < N → YP ly (kp S l g q) → wY_keep_2 post (zI l) c N (zI q) ly fi ma se px py la := by
  intro N
  induction N with
  | zero => intro q ma h0 h1; omega
  | succ N ih =>
    intro q ly h0 h1 h2 Q
    have e1 := zi_in2 l q
    refine zb_le 625 q (fun h => f ly ?_) (fun h => ⟨zv_in q (by omega), zv_in (625 * l + q) (by omega) e1, nm_e (nm_r (zi_1 q) ?_)⟩)
    · intro l' i j l0 l5 gd
      rw [Q l' i j l0 l5 gd]
      unfold kp setl
      by_cases e : l' = l
      · rw [if_pos (by omega), if_pos e]
      · rw [if_neg (by omega), if_neg e]
    · refine ih (q + 1) _ (by omega) (by omega) (by omega) ?_
      intro l' i j l0 l5 gd
      rw [zv_cl _ e1, zi_cl (by omega)]
      unfold upd
      by_cases e : l' = l ∧ 25 * i + j = q
      · rw [if_pos (by omega), ← e.2, A i j gd, bi_v]
        unfold kp; rw [if_pos (by omega)]
      · rw [if_neg (by omega), Q l' i j l0 l5 gd]
        unfold kp
        by_cases e2 : l' = l ∧ 25 * i + j < q
        · rw [if_pos e2, if_pos (by omega)]
        · rw [if_neg e2, if_neg (by omega)]
theorem yp_keep {post : SY → Prop} {g : Int → Int → Bool} (Q : YP ly S) (l : Int) (hl : 0 ≤ l ∧ l ≤ 5) (A : A1 ma g) (f : ∀ ly', YP ly' (setl S l g) → post (c, ly', fi, ma, se, px, py, la)) : wpY_keep post (c, ly, fi, ma, se, px, py, la) (zI l) := by
  unfold wpY_keep
  refine ⟨626, ykp hl A f 626 0 ly (by omega) (by omega) (by omega) ?_⟩
  intro l' i j l0 l5 gd
  rw [Q l' i j l0 l5 gd]; unfold kp; rw [if_neg (by omega)]
end
def opB (op : Int) (x y : Bool) : Bool := if op = 0 then x || y else if op = 1 then x && y else if op = 2 then x && !y else x != y
theorem op_0 {op : Int} : opB op false false = false := by unfold opB; split <;> (try split) <;> (try split) <;> rfl
theorem op_s {op : Int} {g h : Int → Int → Bool} (H1 : Sup g) (H2 : Sup h) : Sup (fun i j => opB op (g i j) (h i j)) := by
  intro i j e
  cases e1 : g i j
  · cases e2 : h i j
    · simp only [e1, e2, op_0] at e; exact absurd e (by decide)
    · exact H2 i j e2
  · exact H1 i j e1
theorem xp_mem {post : Int32 → Prop} {op : Int} (ho : 0 ≤ op ∧ op ≤ 3) (x y : Bool) (h : post (bI (opB op x y))) : wpX_isMember post (zI op) (bI x) (bI y) := by
  unfold opB at h
  refine zb_lt op 0 (fun q => absurd q (by omega)) (fun _ => zb_lt 2 op (fun q => ?_) (fun q => zb_eq op 0 (fun q0 => ?_) (fun q0 => zb_eq op 1 (fun q1 => ?_) (fun q1 => zb_eq op 2 (fun q2 => ?_) (fun q2 => trivial)))))
  · rw [if_neg (by omega), if_neg (by omega), if_neg (by omega)] at h
    refine bb_e (fun e => ?_) (fun e => ?_)
    · rw [e] at h; simpa [bI] using h
    · cases x <;> cases y <;> first | exact absurd rfl e | exact h
  · rw [if_pos q0] at h
    refine bb_0 (fun e => bb_0 (fun e2 => ?_) (fun e2 => ?_)) (fun e => ?_)
    · rw [e, e2] at h; exact h
    · rw [e, e2] at h; exact h
    · rw [e] at h; exact h
  · rw [if_neg q0, if_pos q1] at h
    refine bb_0 (fun e => ?_) (fun e => bb_0 (fun e2 => ?_) (fun e2 => ?_))
    · rw [e] at h; exact h
    · rw [e, e2] at h; exact h
    · rw [e, e2] at h; exact h
  · rw [if_neg q0, if_neg q1, if_pos q2] at h
    refine bb_0 (fun e => ?_) (fun e => bb_0 (fun e2 => ?_) (fun e2 => ?_))
    · rw [e] at h; exact h
    · rw [e, e2] at h; exact h
    · rw [e, e2] at h; exact h
theorem yp_mem {post : Int32 → Prop} {v : SY} {op : Int} (ho : 0 ≤ op ∧ op ≤ 3) (x y : Bool) (h : post (bI (opB op x y))) : wpY_combined post v (zI op) (bI x) (bI y) := by
  unfold opB at h
  refine zb_eq op 0 (fun q0 => ?_) (fun q0 => zb_eq op 1 (fun q1 => ?_) (fun q1 => zb_eq op 2 (fun q2 => ?_) (fun q2 => ?_)))
  · rw [if_pos q0] at h
    refine bb_0 (fun e => bb_0 (fun e2 => ?_) (fun e2 => ?_)) (fun e => ?_)
    · rw [e, e2] at h; exact h
    · rw [e, e2] at h; exact h
    · rw [e] at h; exact h
  · rw [if_neg q0, if_pos q1] at h
    refine bb_0 (fun e => ?_) (fun e => bb_0 (fun e2 => ?_) (fun e2 => ?_))
    · rw [e] at h; exact h
    · rw [e, e2] at h; exact h
    · rw [e, e2] at h; exact h
  · rw [if_neg q0, if_neg q1, if_pos q2] at h
    refine bb_0 (fun e => ?_) (fun e => bb_0 (fun e2 => ?_) (fun e2 => ?_))
    · rw [e] at h; exact h
    · rw [e, e2] at h; exact h
    · rw [e, e2] at h; exact h
  · rw [if_neg q0, if_neg q1, if_neg q2] at h
    refine bb_e (fun e => ?_) (fun e => ?_)
    · rw [e] at h; simpa [bI] using h
    · cases x <;> cases y <;> first | exact absurd rfl e | exact h
section
variable {c rc gc lr rk : Int32} {cx cy re st dg : Nat → Int32} {S : Int → Int → Int → Bool}
def kx (S : Int → Int → Int → Bool) (l : Int) (g : Int → Int → Bool) (q : Int) : Int → Int → Int → Bool := fun s i j => if s = l ∧ Gd i j ∧ 25 * j + i < q then g i j else S s i j
theorem xm_l {post : SX → Prop} {op l m t : Int} (ho : 0 ≤ op ∧ op ≤ 3) (hl : 0 ≤ l ∧ l ≤ 6) (hm : 0 ≤ m ∧ m ≤ 6) (ht : 0 ≤ t ∧ t ≤ 6) (H : ∀ s i j, S s i j = true → Gd i j)
    (f : ∀ a', XP a' (setl S t (clos (fun i j => opB op (S l i j) (S m i j)))) → post (c, rc, gc, lr, rk, a', cx, cy, re, st, dg)) :
    ∀ (N : Nat) (q : Int) (a : Nat → Int32), 0 ≤ q → q ≤ 625 → (625 - q).toNat < N → XP a (kx S t (fun i j => opB op (S l i j) (S m i j)) q) → wX_mix_3 post (zI op) (zI l) (zI m) (zI t) c rc gc lr rk N (zI q) a cx cy re st dg := by
  intro N
  induction N with
  | zero => intro q ma h0 h1; omega
  | succ N ih =>
    intro q a h0 h1 h2 P
    have gq' : q < 625 → Gd (q % 25) (q / 25) := fun h => by omega
    have e1 := zi_in1 l q
    have e2 := zi_in1 m q
    have e3 := zi_in1 t q
    have ix : ∀ s : Int, s * 625 + q = s * 625 + (q / 25) * 25 + q % 25 := fun s => by omega
    have rd : q < 625 → ∀ s : Int, 0 ≤ s ∧ s ≤ 6 → a (s * 625 + q).toNat = bI (S s (q % 25) (q / 25)) := by
      intro hq s hs
      rw [ix s, P.1 s _ _ hs.1 hs.2 (gq' hq)]
      unfold kx; rw [if_neg (by omega)]
    refine zb_le 625 q (fun h => ?_) (fun h => ⟨zv_in (l * 625 + q) (by omega) e1, nm_e ⟨zv_in (m * 625 + q) (by omega) e2, nm_e ?_⟩⟩)
    · have P' : XP a (setl S t (fun i j => opB op (S l i j) (S m i j))) := by
        refine px_c P (fun s i j => ?_)
        unfold kx setl
        by_cases e : s = t
        · rw [if_pos e]
          by_cases gd : Gd i j
          · rw [if_pos (by omega)]
          · rw [if_neg (by omega)]
            have n1 : S l i j = false := by
              cases z : S l i j
              · rfl
              · exact absurd (H _ _ _ z) gd
            have n2 : S m i j = false := by
              cases z : S m i j
              · rfl
              · exact absurd (H _ _ _ z) gd
            have n3 : S s i j = false := by
              cases z : S s i j
              · rfl
              · exact absurd (H _ _ _ z) gd
            show S s i j = opB op (S l i j) (S m i j)
            rw [n1, n2, n3, op_0]
        · rw [if_neg (by omega), if_neg e]
      refine xp_close P' t ht (fun a' P2 => f a' (px_c P2 (fun s i j => ?_)))
      unfold setl
      by_cases e : s = t
      · rw [if_pos e, if_pos e, if_pos rfl]
      · rw [if_neg e, if_neg e, if_neg e]
    · have gq := gq' h
      rw [zv_cl _ e1, zv_cl _ e2, rd h l hl, rd h m hm]
      refine xp_mem ho _ _ ⟨zv_in (t * 625 + q) (by omega) e3, nm_e (nm_r (zi_1 q) ?_)⟩
      rw [zv_cl _ e3, bi_v]
      refine ih (q + 1) _ (by omega) (by omega) (by omega) ?_
      rw [ix t]
      refine px_c (px_sto P ht gq) (fun s i j => ?_)
      unfold sto kx
      by_cases e : s = t ∧ i = q % 25 ∧ j = q / 25
      · rw [if_pos e, if_pos (by omega), e.2.1, e.2.2]
      · rw [if_neg e]
        by_cases e2 : s = t ∧ Gd i j ∧ 25 * j + i < q
        · rw [if_pos e2, if_pos (by omega)]
        · rw [if_neg e2, if_neg (by omega)]
theorem xp_mix {post : SX → Prop} {a : Nat → Int32} (P : XP a S) {op l m t : Int} (ho : 0 ≤ op ∧ op ≤ 3) (hl : 0 ≤ l ∧ l ≤ 6) (hm : 0 ≤ m ∧ m ≤ 6) (ht : 0 ≤ t ∧ t ≤ 6)
    (f : ∀ a', XP a' (setl S t (clos (fun i j => opB op (S l i j) (S m i j)))) → post (c, rc, gc, lr, rk, a', cx, cy, re, st, dg)) : wpX_mix post (c, rc, gc, lr, rk, a, cx, cy, re, st, dg) (zI op) (zI l) (zI m) (zI t) := by
  unfold wpX_mix
  refine ⟨626, xm_l ho hl hm ht P.2 f 626 0 a (by omega) (by omega) (by omega) (px_c P (fun s i j => ?_))⟩
  unfold kx; rw [if_neg (by omega)]
end
theorem cl_set {S : Int → Int → Int → Bool} {l : Int} {g : Int → Int → Bool} (C : CL S) (h : clo g) : CL (setl S l g) := by
  intro s s0 s5
  unfold setl
  by_cases e : s = l
  · rw [if_pos e]; exact h
  · rw [if_neg e]; exact C s s0 s5
section
variable {c : Int32} {fi ly px py la : Nat → Int32} {S : Int → Int → Int → Bool}
theorem yc_l {post : Int32 → SY → Prop} {op l m t : Int} (ho : 0 ≤ op ∧ op ≤ 3) (hl : 0 ≤ l ∧ l ≤ 5) (hm : 0 ≤ m ∧ m ≤ 5) (ht : 0 ≤ t ∧ t ≤ 5) (H : HS S) (Q : YP ly S)
    (f : ∀ ly' ma' se', YP ly' (setl S t (clos (fun i j => opB op (S l i j) (S m i j)))) → post 1 (c, ly', fi, ma', se', px, py, la)) :
    ∀ (N : Nat) (q : Int) (ma se : Nat → Int32), 0 ≤ q → q ≤ 625 → (625 - q).toNat < N → (∀ i j, Gd i j → 25 * i + j < q → ma (25 * i + j).toNat = bI (opB op (S l i j) (S m i j))) → wY_combine_39 post (zI op) (zI l) (zI m) (zI t) c N (zI q) ly fi ma se px py la := by
  intro N
  induction N with
  | zero => intro q ma h0 h1; omega
  | succ N ih =>
    intro q ma se h0 h1 h2 A
    have gq' : q < 625 → Gd (q / 25) (q % 25) := fun h => by omega
    have e1 := zi_in2 l q
    have e2 := zi_in2 m q
    have ix : ∀ s : Int, 625 * s + q = 625 * s + 25 * (q / 25) + q % 25 := fun s => by omega
    have rd : q < 625 → ∀ s : Int, 0 ≤ s ∧ s ≤ 5 → ly (625 * s + q).toNat = bI (S s (q / 25) (q % 25)) := by
      intro hq s hs
      rw [ix s, Q s _ _ hs.1 hs.2 (gq' hq)]
    refine zb_le 625 q (fun h => ?_) (fun h => ⟨zv_in (625 * l + q) (by omega) e1, zv_in (625 * m + q) (by omega) e2, ?_⟩)
    · refine yp_close (g := fun i j => opB op (S l i j) (S m i j)) (op_s (fun i j => H l i j) (fun i j => H m i j)) (fun i j gd => A i j gd (by omega)) (fun ma' se' A' => ?_)
      exact yp_keep Q t ht A' (fun ly' Q' => f ly' ma' se' Q')
    · have gq := gq' h
      rw [zv_cl _ e1, zv_cl _ e2, rd h l hl, rd h m hm]
      refine yp_mem ho _ _ ⟨zv_in q (by omega), nm_e (nm_r (zi_1 q) ?_)⟩
      refine ih (q + 1) _ se (by omega) (by omega) (by omega) (fun i j gd hlt => ?_)
      rw [zi_cl (by omega), bi_v]
      unfold upd
      by_cases e : 25 * i + j = q
      · have ei : i = q / 25 := by omega
        have ej : j = q % 25 := by omega
        rw [if_pos (by omega), ei, ej]
      · rw [if_neg (by omega)]; exact A i j gd (by omega)
end
theorem i_vc_combine {k : Nat} {u : SX} {v : SY} (I : i_Rel k u v) (hk : k + 5 ≤ 2560) (v1 : Int32) (v2 : Int32) (v3 : Int32) (v4 : Int32) : wpX_combine (fun r u' => wpY_combine (fun r' v' => r' = r ∧ i_Rel (k + 5) u' v') v v1 v2 v3 v4) u v1 v2 v3 v4 := by
  obtain ⟨c, rc, gc, lr, rk, a, cx, cy, re, st, dg⟩ := u
  obtain ⟨c', ly, fi, ma, se, px, py, la⟩ := v
  obtain ⟨S, n, X, Y, P, Q, C, T, rfl, rfl⟩ := I
  obtain ⟨op, ho, rfl⟩ := zi_ex v1
  obtain ⟨l, hl, rfl⟩ := zi_ex v2
  obtain ⟨m, hm, rfl⟩ := zi_ex v3
  obtain ⟨t, ht, rfl⟩ := zi_ex v4
  have R0 : i_Rel (k + 5) (zI n, rc, gc, lr, rk, a, cx, cy, re, st, dg) (zI n, ly, fi, ma, se, px, py, la) := i_mk P Q C T
  have Yc : ∀ post : Int32 → SY → Prop, ((0 ≤ op ∧ op ≤ 3) ∧ (0 ≤ l ∧ l ≤ 5) ∧ (0 ≤ m ∧ m ≤ 5) ∧ (0 ≤ t ∧ t ≤ 5) → ∃ N, wY_combine_39 post (zI op) (zI l) (zI m) (zI t) (zI n) N 0 ly fi ma se px py la) → (¬ ((0 ≤ op ∧ op ≤ 3) ∧ (0 ≤ l ∧ l ≤ 5) ∧ (0 ≤ m ∧ m ≤ 5) ∧ (0 ≤ t ∧ t ≤ 5)) → post 0 (zI n, ly, fi, ma, se, px, py, la)) → wpY_combine post (zI n, ly, fi, ma, se, px, py, la) (zI op) (zI l) (zI m) (zI t) := by
    intro post f g
    unfold wpY_combine
    refine zb_lt op 0 (fun h => g (by omega)) (fun h0 => zb_lt 3 op (fun h => g (by omega)) (fun h3 => ?_))
    refine yg_layer l hl (fun h1 => b1_f ?_) (fun h1 => b0_t (g (by omega)))
    refine yg_layer m hm (fun h2 => b1_f ?_) (fun h2 => b0_t (g (by omega)))
    refine yg_layer t ht (fun h4 => b1_f ?_) (fun h4 => b0_t (g (by omega)))
    exact f (by omega)
  unfold wpX_combine
  refine xg_op op ho (fun h1 => b1_f ?_) (fun h1 => b0_t (Yc _ (fun h => absurd h.1 h1) (fun _ => ⟨rfl, R0⟩)))
  refine xg_layer l hl (fun h2 => b1_f ?_) (fun h2 => b0_t (Yc _ (fun h => absurd h.2.1 h2) (fun _ => ⟨rfl, R0⟩)))
  refine xg_layer m hm (fun h3 => b1_f ?_) (fun h3 => b0_t (Yc _ (fun h => absurd h.2.2.1 h3) (fun _ => ⟨rfl, R0⟩)))
  refine xg_layer t ht (fun h4 => b1_f ?_) (fun h4 => b0_t (Yc _ (fun h => absurd h.2.2.2 h4) (fun _ => ⟨rfl, R0⟩)))
  refine xp_mix P h1 (by omega) (by omega) (by omega) (fun a' P' => Yc _ (fun _ => ⟨626, ?_⟩) (fun h => absurd ⟨h1, h2, h3, h4⟩ h))
  refine yc_l h1 h2 h3 h4 P.2 Q (fun ly' ma' se' Q' => ⟨rfl, ?_⟩) 626 0 ma se (by omega) (by omega) (by omega) (fun i j gd hlt => absurd hlt (by omega))
  exact i_mk P' Q' (cl_set C (cl_clo _)) T
