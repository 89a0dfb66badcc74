/-! spreading: a queue as ghost -/
def InQ (m : Nat) (qi qj : Nat → Int) (i j : Int) : Prop := ∃ k, k < m ∧ qi k = i ∧ qj k = j
def qp (m : Nat) (q : Nat → Int) (x : Int) : Nat → Int := fun k => if k = m then x else q k
def NbC (G : Int → Int → Bool) (m : Nat) (qi qj qd : Nat → Int) (k : Nat) (d : Int) : Prop :=
  G (qi k + eaD d) (qj k + noD d) = true → ∃ k', k' < m ∧ qi k' = qi k + eaD d ∧ qj k' = qj k + noD d ∧ qd k' ≤ qd k + 1
def BF0 (G : Int → Int → Bool) (i0 j0 : Int) (m : Nat) (qi qj qd : Nat → Int) : Prop :=
  (G i0 j0 = true → 1 ≤ m) ∧ (G i0 j0 = false → m = 0) ∧ (1 ≤ m → qi 0 = i0 ∧ qj 0 = j0 ∧ qd 0 = 0) ∧ (∀ k, k < m → G (qi k) (qj k) = true) ∧
  (∀ k k', k < m → k' < m → qi k = qi k' → qj k = qj k' → k = k') ∧
  (∀ k, k < m → 0 < k → ∃ k' d, k' < k ∧ (0 ≤ d ∧ d ≤ 3) ∧ qi k = qi k' + eaD d ∧ qj k = qj k' + noD d ∧ qd k = qd k' + 1) ∧
  (∀ k k', k ≤ k' → k' < m → qd k ≤ qd k')
def BF (G : Int → Int → Bool) (i0 j0 : Int) (n : Nat) (dd : Int) (m : Nat) (qi qj qd : Nat → Int) : Prop :=
  BF0 G i0 j0 m qi qj qd ∧ (n < m → ∀ k, k < m → qd k ≤ qd n + 1) ∧ (∀ k, k < m → k < n → ∀ d, 0 ≤ d → d ≤ 3 → NbC G m qi qj qd k d) ∧ (n < m → ∀ d, 0 ≤ d → d < dd → NbC G m qi qj qd n d)
/-- what a spreading leaves -/
def FIN (G : Int → Int → Bool) (i0 j0 : Int) (m : Nat) (qi qj qd : Nat → Int) : Prop :=
  BF0 G i0 j0 m qi qj qd ∧ (∀ k, k < m → ∀ d, 0 ≤ d → d ≤ 3 → NbC G m qi qj qd k d)
theorem bf_next {G : Int → Int → Bool} {i0 j0 : Int} {n m : Nat} {qi qj qd : Nat → Int} (h : BF G i0 j0 n 4 m qi qj qd) (hn : n < m) : BF G i0 j0 (n + 1) 0 m qi qj qd := by
  obtain ⟨h0, h1, h2, h3⟩ := h
  refine ⟨h0, fun hm k hk => ?_, fun k hk hk2 d d0 d3 => ?_, fun _ d d0 d1 => absurd d1 (by omega)⟩
  · have := h1 hn k hk
    have := h0.2.2.2.2.2.2 n (n + 1) (by omega) hm
    omega
  · by_cases e : k = n
    · subst e; exact h3 hn d d0 (by omega)
    · exact h2 k hk (by omega) d d0 d3
theorem bf_fin {G : Int → Int → Bool} {i0 j0 : Int} {n m : Nat} {dd : Int} {qi qj qd : Nat → Int} (h : BF G i0 j0 n dd m qi qj qd) (hn : m ≤ n) : FIN G i0 j0 m qi qj qd :=
  ⟨h.1, fun k hk d d0 d3 => h.2.2.1 k hk (by omega) d d0 d3⟩
theorem bf_skip {G : Int → Int → Bool} {i0 j0 : Int} {n m : Nat} {dd : Int} {qi qj qd : Nat → Int} (h : BF G i0 j0 n dd m qi qj qd) (hs : ¬ (G (qi n + eaD dd) (qj n + noD dd) = true ∧ ¬ InQ m qi qj (qi n + eaD dd) (qj n + noD dd))) : BF G i0 j0 n (dd + 1) m qi qj qd := by
  obtain ⟨h0, h1, h2, h3⟩ := h
  refine ⟨h0, h1, h2, fun hn d d0 d1 => ?_⟩
  by_cases e : d = dd
  · subst e
    intro hg
    rcases Classical.em (InQ m qi qj (qi n + eaD d) (qj n + noD d)) with hq | hq
    · obtain ⟨k', hk', e1, e2⟩ := hq
      exact ⟨k', hk', e1, e2, h1 hn k' hk'⟩
    · exact absurd ⟨hg, hq⟩ hs
  · exact h3 hn d d0 (by omega)
theorem nb_push {G : Int → Int → Bool} {m : Nat} {qi qj qd : Nat → Int} {x y z : Int} {k : Nat} {d : Int} (hk : k < m) (h : NbC G m qi qj qd k d) : NbC G (m + 1) (qp m qi x) (qp m qj y) (qp m qd z) k d := by
  intro hg
  have e1 : qp m qi x k = qi k := if_neg (by omega)
  have e2 : qp m qj y k = qj k := if_neg (by omega)
  have e3 : qp m qd z k = qd k := if_neg (by omega)
  rw [e1, e2] at hg ⊢
  rw [e3]
  obtain ⟨k', hk', a1, a2, a3⟩ := h hg
  refine ⟨k', by omega, ?_, ?_, ?_⟩
  · unfold qp; rw [if_neg (by omega)]; exact a1
  · unfold qp; rw [if_neg (by omega)]; exact a2
  · unfold qp; rw [if_neg (by omega)]; exact a3
theorem bf_push {G : Int → Int → Bool} {i0 j0 : Int} {n m : Nat} {dd : Int} {qi qj qd : Nat → Int} (h : BF G i0 j0 n dd m qi qj qd) (hn : n < m) (hd : 0 ≤ dd ∧ dd ≤ 3) (hg : G (qi n + eaD dd) (qj n + noD dd) = true) (hq : ¬ InQ m qi qj (qi n + eaD dd) (qj n + noD dd)) :
    BF G i0 j0 n (dd + 1) (m + 1) (qp m qi (qi n + eaD dd)) (qp m qj (qj n + noD dd)) (qp m qd (qd n + 1)) := by
  obtain ⟨⟨a1, a2, a3, a4, a5, a6, a7⟩, h1, h2, h3⟩ := h
  have o : ∀ (q : Nat → Int) (x : Int) (k : Nat), k < m → qp m q x k = q k := fun q x k hk => if_neg (by omega)
  have nw : ∀ (q : Nat → Int) (x : Int), qp m q x m = x := fun q x => if_pos rfl
  refine ⟨⟨fun _ => by omega, fun hf => ?_, fun _ => ?_, fun k hk => ?_, fun k k' hk hk' e1 e2 => ?_, fun k hk k0 => ?_, fun k k' hkk hk' => ?_⟩, fun _ k hk => ?_, fun k hk hkn d d0 d3 => ?_, fun _ d d0 d1 => ?_⟩
  · have := a2 hf; omega
  · rw [o _ _ 0 (by omega), o _ _ 0 (by omega), o _ _ 0 (by omega)]; exact a3 (by omega)
  · by_cases e : k = m
    · subst e; rw [nw, nw]; exact hg
    · rw [o _ _ k (by omega), o _ _ k (by omega)]; exact a4 k (by omega)
  · by_cases e : k = m
    · by_cases e' : k' = m
      · omega
      · subst e
        rw [nw, o _ _ k' (by omega)] at e1 e2
        exact absurd ⟨k', by omega, e1.symm, e2.symm⟩ hq
    · by_cases e' : k' = m
      · subst e'
        rw [nw, o _ _ k (by omega)] at e1 e2
        exact absurd ⟨k, by omega, e1, e2⟩ hq
      · rw [o _ _ k (by omega), o _ _ k' (by omega)] at e1 e2
        exact a5 k k' (by omega) (by omega) e1 e2
  · by_cases e : k = m
    · subst e
      refine ⟨n, dd, hn, hd, ?_, ?_, ?_⟩
      · rw [nw, o _ _ n hn]
      · rw [nw, o _ _ n hn]
      · rw [nw, o _ _ n hn]
    · obtain ⟨k', d, b1, b2, b3, b4, b5⟩ := a6 k (by omega) k0
      refine ⟨k', d, b1, b2, ?_, ?_, ?_⟩
      · rw [o _ _ k (by omega), o _ _ k' (by omega)]; exact b3
      · rw [o _ _ k (by omega), o _ _ k' (by omega)]; exact b4
      · rw [o _ _ k (by omega), o _ _ k' (by omega)]; exact b5
  · by_cases e : k' = m
    · subst e
      rw [nw]
      by_cases e2 : k = k'
      · subst e2; rw [nw]; omega
      · rw [o _ _ k (by omega)]; exact h1 hn k (by omega)
    · rw [o _ _ k (by omega), o _ _ k' (by omega)]; exact a7 k k' hkk (by omega)
  · rw [o _ _ n hn]
    by_cases e : k = m
    · subst e; rw [nw]; omega
    · rw [o _ _ k (by omega)]; exact h1 hn k (by omega)
  · exact nb_push (by omega) (h2 k (by omega) hkn d d0 d3)
  · by_cases e : d = dd
    · subst e
      intro _
      refine ⟨m, by omega, ?_, ?_, ?_⟩
      · rw [nw, o _ _ n hn]
      · rw [nw, o _ _ n hn]
      · rw [nw, o _ _ n hn]; omega
    · exact nb_push hn (h3 hn d d0 (by omega))
/-- pigeons -/
theorem ph {N m : Nat} (f : Nat → Nat) (h1 : ∀ k, k < m → f k < N) (h2 : ∀ k k', k < m → k' < m → f k = f k' → k = k') : m ≤ N := by
  have e := cn_bij (P := fun _ => true) (N := N) (fun _ => true) f m (fun n => (List.range m).any (fun k => f k == n)) (fun k hk _ => ⟨h1 k hk, by
    rw [List.any_eq_true]; exact ⟨k, List.mem_range.mpr hk, by simp⟩⟩) (fun k k' hk hk' _ _ => h2 k k' hk hk') (fun n hn hp => by
    rw [List.any_eq_true] at hp
    obtain ⟨k, hk, e⟩ := hp
    exact ⟨k, List.mem_range.mp hk, rfl, by simpa using e⟩)
  have l := cn_le (fun n => (List.range m).any (fun k => f k == n)) N
  have l2 : m ≤ cnt (fun _ => true) m := cn_full.mpr (fun _ _ => rfl)
  omega
def QA (m : Nat) (qi qj qd : Nat → Int) (re st : Nat → Int32) : Prop := ∀ k, k < m → re k = zI (25 * qj k + qi k) ∧ st k = zI (qd k)
theorem qa_p {m : Nat} {qi qj qd : Nat → Int} {re st : Nat → Int32} (h : QA m qi qj qd re st) {x y z : Int} : QA (m + 1) (qp m qi x) (qp m qj y) (qp m qd z) (upd re m (zI (25 * y + x))) (upd st m (zI z)) := by
  intro k hk
  unfold upd qp
  by_cases e : k = m
  · simp only [if_pos e]; exact ⟨trivial, trivial⟩
  · simp only [if_neg e]; exact h k (by omega)
theorem bf_m {G : Int → Int → Bool} (H : Sup G) {i0 j0 : Int} {m : Nat} {qi qj qd : Nat → Int} (h : BF0 G i0 j0 m qi qj qd) : m ≤ 625 := by
  refine ph (fun k => (25 * qj k + qi k).toNat) (fun k hk => ?_) (fun k k' hk hk' e => ?_)
  · have := H _ _ (h.2.2.2.1 k hk); show (25 * qj k + qi k).toNat < 625; omega
  · have a1 := H _ _ (h.2.2.2.1 k hk)
    have a2 := H _ _ (h.2.2.2.1 k' hk')
    have e' : (25 * qj k + qi k).toNat = (25 * qj k' + qi k').toNat := e
    exact h.2.2.2.2.1 k k' hk hk' (by omega) (by omega)
theorem bf_m1 {G : Int → Int → Bool} (H : Sup G) {i0 j0 : Int} {m : Nat} {qi qj qd : Nat → Int} (h : BF0 G i0 j0 m qi qj qd) {i j : Int} (hg : G i j = true) (hq : ¬ InQ m qi qj i j) : m < 625 := by
  have gd := H _ _ hg
  have key : m + 1 ≤ 625 := by
    refine ph (fun k => if k = m then (25 * j + i).toNat else (25 * qj k + qi k).toNat) (fun k hk => ?_) (fun k k' hk hk' e => ?_)
    · show (if k = m then (25 * j + i).toNat else (25 * qj k + qi k).toNat) < 625
      split
      · omega
      · have := H _ _ (h.2.2.2.1 k (by omega)); omega
    · have e' : (if k = m then (25 * j + i).toNat else (25 * qj k + qi k).toNat) = (if k' = m then (25 * j + i).toNat else (25 * qj k' + qi k').toNat) := e
      by_cases c1 : k = m
      · by_cases c2 : k' = m
        · omega
        · rw [if_pos c1, if_neg c2] at e'
          have a2 := H _ _ (h.2.2.2.1 k' (by omega))
          exact absurd ⟨k', by omega, by omega, by omega⟩ hq
      · by_cases c2 : k' = m
        · rw [if_neg c1, if_pos c2] at e'
          have a2 := H _ _ (h.2.2.2.1 k (by omega))
          exact absurd ⟨k, by omega, by omega, by omega⟩ hq
        · rw [if_neg c1, if_neg c2] at e'
          have a1 := H _ _ (h.2.2.2.1 k (by omega))
          have a2 := H _ _ (h.2.2.2.1 k' (by omega))
          exact h.2.2.2.2.1 k k' (by omega) (by omega) (by omega) (by omega)
  omega
/-- the state while it spreads -/
def STQ (S0 : Int → Int → Int → Bool) (m : Nat) (qi qj qd : Nat → Int) (a re st : Nat → Int32) (S : Int → Int → Int → Bool) : Prop :=
  XP a S ∧ (∀ s, s ≠ 6 → S s = S0 s) ∧ (∀ i j, S 6 i j = true ↔ S0 6 i j = true ∧ ¬ InQ m qi qj i j) ∧ QA m qi qj qd re st
theorem stq_p {S0 S : Int → Int → Int → Bool} {m : Nat} {qi qj qd : Nat → Int} {a a' re st : Nat → Int32} (h : STQ S0 m qi qj qd a re st S) {i j z : Int} (P : XP a' (sto S 6 i j false)) : STQ S0 (m + 1) (qp m qi i) (qp m qj j) (qp m qd z) a' (upd re m (zI (25 * j + i))) (upd st m (zI z)) (sto S 6 i j false) := by
  obtain ⟨h1, h2, h3, h4⟩ := h
  refine ⟨P, fun s hs => ?_, fun i' j' => ?_, qa_p h4⟩
  · rw [← h2 s hs]; funext i' j'; unfold sto; rw [if_neg (fun q => hs q.1)]
  · unfold sto
    by_cases q : (6 : Int) = 6 ∧ i' = i ∧ j' = j
    · rw [if_pos q]
      refine ⟨fun z => (nomatch z), fun z => absurd ⟨m, by omega, ?_, ?_⟩ z.2⟩
      · unfold qp; rw [if_pos rfl, q.2.1]
      · unfold qp; rw [if_pos rfl, q.2.2]
    · rw [if_neg q, h3 i' j']
      refine ⟨fun z => ⟨z.1, ?_⟩, fun z => ⟨z.1, ?_⟩⟩
      · rintro ⟨k, hk, e1, e2⟩
        unfold qp at e1 e2
        by_cases e : k = m
        · rw [if_pos e] at e1 e2; exact q ⟨rfl, e1.symm, e2.symm⟩
        · rw [if_neg e] at e1 e2; exact z.2 ⟨k, by omega, e1, e2⟩
      · rintro ⟨k, hk, e1, e2⟩
        refine z.2 ⟨k, by omega, ?_, ?_⟩
        · unfold qp; rw [if_neg (by omega)]; exact e1
        · unfold qp; rw [if_neg (by omega)]; exact e2
section
variable {c gc lr rk : Int32} {cx cy dg : Nat → Int32} {S0 : Int → Int → Int → Bool}
theorem xp_reach {post : SX → Prop} {a re st : Nat → Int32} {S : Int → Int → Int → Bool} (P : XP a S) {m : Nat} (hm : m ≤ 625) (i j z : Int) (hi : -10 ≤ i ∧ i ≤ 40) (hj : -10 ≤ j ∧ j ≤ 40) (hlt : S 6 i j = true → m < 625)
    (f : S 6 i j = false → post (c, zI m, gc, lr, rk, a, cx, cy, re, st, dg))
    (g : S 6 i j = true → ∀ a', XP a' (sto S 6 i j false) → post (c, zI (m + 1 : Nat), gc, lr, rk, a', cx, cy, upd re m (zI (25 * j + i)), upd st m (zI z), dg)) : wpX_reach post (c, zI m, gc, lr, rk, a, cx, cy, re, st, dg) (zI i) (zI j) (zI z) := by
  unfold wpX_reach
  refine xp_has P 6 i j (by omega) (by omega) (by omega) (bb_0 (fun e => f e) (fun e => ?_))
  have hl := hlt e
  refine zb_le 625 (m : Int) (fun h => absurd h (by omega)) (fun _ => ?_)
  refine xp_write P 6 i j false (by omega) (P.2 6 i j e) (fun a' P' => ?_)
  unfold wpX_spot
  refine ⟨zv_in (m : Int) (by omega), nm_e ⟨zv_in (m : Int) (by omega), nm_e (nm_r (zi_1 _) ?_)⟩⟩
  have e1 : (zI j * 25) + zI i = zI (25 * j + i) := by
    have e : zI j * 25 = zI (j * 25) := zi_mul j 25
    rw [e, zi_add]; apply congrArg zI; omega
  rw [e1, zi_cl (by omega), Int.toNat_natCast]
  exact g e a' P'
theorem sp_64 {post : SX → Prop} {J : Int32 → Int32 → Int32 → Int32 → Int32 → Int32 → (Nat → Int32) → (Nat → Int32) → (Nat → Int32) → (Nat → Int32) → (Nat → Int32) → (Nat → Int32) → Prop} (H : Sup (S0 6)) {i0 j0 : Int} {n : Nat} {x y z : Int} (hx : 0 ≤ x ∧ x ≤ 24) (hy : 0 ≤ y ∧ y ≤ 24)
    (hJ : ∀ m qi qj qd a re st S, n < m → BF (S0 6) i0 j0 n 4 m qi qj qd → STQ S0 m qi qj qd a re st S → J (zI (n + 1 : Nat)) c (zI m) gc lr rk a cx cy re st dg) :
    ∀ (N : Nat) (dd : Int) (m : Nat) (qi qj qd : Nat → Int) (a re st : Nat → Int32) (S : Int → Int → Int → Bool), 0 ≤ dd → dd ≤ 4 → (4 - dd).toNat < N → n < m → qi n = x → qj n = y → qd n = z → BF (S0 6) i0 j0 n dd m qi qj qd → STQ S0 m qi qj qd a re st S → wX_spread_64 post J (zI n) (zI x) (zI y) (zI (z + 1)) N (zI dd) c (zI m) gc lr rk a cx cy re st dg := by
  intro N
  induction N with
  | zero => intro dd m qi qj qd a re st S h0 h1 h2; omega
  | succ N ih =>
    intro dd m qi qj qd a re st S h0 h1 h2 hn ex ey ez hB hS
    refine zb_lt 3 dd (fun h => nm_r (zi_1 _) ?_) (fun h => ?_)
    · have e : dd = 4 := by omega
      subst e; exact hJ m qi qj qd a re st S hn hB hS
    · have r1 := ea_r dd
      have r2 := no_r dd
      refine xp_east dd (by omega) (nm_r (zi_add _ _) (xp_north dd (by omega) (nm_r (zi_add _ _) ?_)))
      have hm := bf_m H hB.1
      refine xp_reach hS.1 hm _ _ (z + 1) (by omega) (by omega) (fun e => ?_) (fun e => nm_r (zi_1 dd) ?_) (fun e a' P' => nm_r (zi_1 dd) ?_)
      · have := (hS.2.2.1 _ _).mp e
        exact bf_m1 H hB.1 this.1 this.2
      · refine ih (dd + 1) m qi qj qd a re st S (by omega) (by omega) (by omega) hn ex ey ez (bf_skip hB ?_) hS
        rw [ex, ey]
        intro hh
        have := (hS.2.2.1 _ _).mpr hh
        rw [e] at this; exact absurd this (by decide)
      · have := (hS.2.2.1 _ _).mp e
        rw [← ex, ← ey] at this
        have hB' := bf_push hB hn (by omega) this.1 this.2
        rw [ex, ey, ez] at hB'
        refine ih (dd + 1) (m + 1) _ _ _ a' _ _ _ (by omega) (by omega) (by omega) (by omega) ?_ ?_ ?_ hB' (stq_p hS P')
        · unfold qp; rw [if_neg (by omega)]; exact ex
        · unfold qp; rw [if_neg (by omega)]; exact ey
        · unfold qp; rw [if_neg (by omega)]; exact ez
theorem sp_14 {post : SX → Prop} (H : Sup (S0 6)) {i0 j0 : Int}
    (f : ∀ m qi qj qd a re st S, FIN (S0 6) i0 j0 m qi qj qd → STQ S0 m qi qj qd a re st S → post (c, zI m, gc, lr, rk, a, cx, cy, re, st, dg)) :
    ∀ (N n : Nat) (m : Nat) (qi qj qd : Nat → Int) (a re st : Nat → Int32) (S : Int → Int → Int → Bool), n ≤ m → 625 - n < N → BF (S0 6) i0 j0 n 0 m qi qj qd → STQ S0 m qi qj qd a re st S → wX_spread_14 post N (zI n) c (zI m) gc lr rk a cx cy re st dg := by
  intro N
  induction N with
  | zero => intro n m qi qj qd a re st S h0 h1; omega
  | succ N ih =>
    intro n m qi qj qd a re st S h0 h1 hB hS
    have hm := bf_m H hB.1
    refine zb_le 625 (n : Int) (fun h => f m qi qj qd a re st S (bf_fin hB (by omega)) hS) (fun h => zb_le (m : Int) (n : Int) (fun h2 => f m qi qj qd a re st S (bf_fin hB (by omega)) hS) (fun h2 => ?_))
    have q := hS.2.2.2 n (by omega)
    have gd := H _ _ (hB.1.2.2.2.1 n (by omega))
    have v1 : vp_in (zI n) 625 := zv_in (n : Int) (by omega)
    have c1 : (zI n).toNatClampNeg = n := by rw [zi_cl (by omega), Int.toNat_natCast]
    rw [c1, q.1, q.2]
    have e4 : zI (25 * qj n + qi n) - zI (25 * qj n + qi n) / 25 * 25 = zI (qi n) := by
      rw [zi_r25 (by omega)]; apply congrArg zI; omega
    have e5 : zI (25 * qj n + qi n) / 25 = zI (qj n) := by
      rw [zi_d25 (by omega)]; apply congrArg zI; omega
    refine ⟨v1, by decide, nm_r e4 ⟨v1, by decide, nm_r e5 ⟨v1, nm_r (zi_1 _) ⟨5, ?_⟩⟩⟩⟩
    exact sp_64 H (by omega) (by omega) (fun m' qi' qj' qd' a' re' st' S' hn' hB' hS' => ih (n + 1) m' qi' qj' qd' a' re' st' S' (by omega) (by omega) (bf_next hB' hn') hS') 5 0 m qi qj qd a re st S (by omega) (by omega) (by omega) (by omega) rfl rfl rfl hB hS
theorem xp_spread {post : SX → Prop} {rc : Int32} {a re st : Nat → Int32} (P : XP a S0) (i j : Int) (hg : Gd i j)
    (f : ∀ m qi qj qd a re st S, FIN (S0 6) i j m qi qj qd → STQ S0 m qi qj qd a re st S → post (c, zI m, gc, lr, rk, a, cx, cy, re, st, dg)) : wpX_spread post (c, rc, gc, lr, rk, a, cx, cy, re, st, dg) (zI i) (zI j) := by
  have H : Sup (S0 6) := fun i j => P.2 6 i j
  unfold wpX_spread
  have S00 : STQ S0 0 (fun _ => 0) (fun _ => 0) (fun _ => 0) a re st S0 := ⟨P, fun _ _ => rfl, fun i j => ⟨fun h => ⟨h, fun ⟨k, hk, _⟩ => by omega⟩, fun h => h.1⟩, fun k hk => absurd hk (by omega)⟩
  refine xp_reach (m := 0) P (by omega) i j 0 (by omega) (by omega) (fun _ => by omega) (fun e => ⟨626, ?_⟩) (fun e a' P' => ⟨626, ?_⟩)
  · refine sp_14 H f 626 0 0 (fun _ => 0) (fun _ => 0) (fun _ => 0) a re st S0 (by omega) (by omega) ⟨⟨fun h => ?_, fun _ => rfl, fun h => absurd h (by omega), fun k hk => absurd hk (by omega), fun k k' hk => absurd hk (by omega), fun k hk => absurd hk (by omega), fun k k' _ hk => absurd hk (by omega)⟩, fun h => absurd h (by omega), fun k hk => absurd hk (by omega), fun h => absurd h (by omega)⟩ S00
    rw [e] at h; exact absurd h (by decide)
  · have hS := stq_p (z := 0) S00 P'
    refine sp_14 H f 626 0 (0 + 1) (qp 0 (fun _ => 0) i) (qp 0 (fun _ => 0) j) (qp 0 (fun _ => 0) 0) a' _ _ (sto S0 6 i j false) (by omega) (by omega) ⟨⟨fun h => by omega, fun h => ?_, fun _ => ⟨rfl, rfl, rfl⟩, fun k hk => ?_, fun k k' hk hk' _ _ => by omega, fun k hk k0 => absurd k0 (by omega), fun k k' hkk hk => ?_⟩, fun _ k hk => ?_, fun k hk hk0 => absurd hk0 (by omega), fun _ d d0 d1 => absurd d1 (by omega)⟩ hS
    · rw [e] at h; exact absurd h (by decide)
    · have : k = 0 := by omega
      subst this; exact e
    · have e1 : k = 0 := by omega
      have e2 : k' = 0 := by omega
      subst e1; subst e2; exact Int.le_refl _
    · have e1 : k = 0 := by omega
      subst e1; show (0 : Int) ≤ 0 + 1; omega
end
