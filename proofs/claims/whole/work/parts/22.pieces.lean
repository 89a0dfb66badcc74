/-! Y's pieces -/
section
variable {c : Int32} {fi ly ma se px py : Nat → Int32} {g : Int → Int → Bool} {mb : Bool} {cm : Int → Int → Int}
theorem py_93 {post : SY → Prop} {J : Int32 → Int32 → (Nat → Int32) → (Nat → Int32) → (Nat → Int32) → (Nat → Int32) → (Nat → Int32) → (Nat → Int32) → (Nat → Int32) → Prop} (C : clo g) (I : Inv4 (AsF g mb 2) cm) {M : Nat}
    (hJ : ∀ b la L, LB la L → GI (AsF g mb 2) L → CI cm L → (b = true → sumB L < M) → (b = false → ∀ n, 0 ≤ n → n ≤ 624 → FXP L n) → J (bI b) c ly fi ma se px py la) :
    ∀ (N : Nat) (n : Int) (b : Bool) (la : Nat → Int32) (L : Int → Int), -1 ≤ n → n ≤ 624 → (n + 1).toNat < N → LB la L → GI (AsF g mb 2) L → CI cm L → sumB L ≤ M → (b = true → sumB L < M) → (b = false → ∀ n, 0 ≤ n → n ≤ 624 → FXP L n) → wY_pieces_93 post J N (bI b) (zI n) c ly fi ma se px py la := by
  intro N
  induction N with
  | zero => intro n b la L h0 h1; omega
  | succ N ih =>
    intro n b la L h0 h1 h2 A G K hM hb hx
    refine zb_lt n 0 (fun h => hJ b la L A G K hb hx) (fun h => ⟨zv_in n (by omega), ?_⟩)
    have hn : 0 ≤ n ∧ n ≤ 624 := ⟨h, h1⟩
    have an := A n hn.1 hn.2
    rw [zi_cl (by omega), an.1]
    refine zb_lt (L n) 0 (fun q => nm_r (zi_m1 n) (ih (n - 1) b la L (by omega) (by omega) (by omega) A G K hM hb hx)) (fun q => ?_)
    refine yp_low A hn q (fun v b' hw hb' => ?_)
    have hv := hw.1
    have A' := lb_u A hn (v := v) (by omega)
    have G' := gi_u G q (v := v) (by omega)
    have K' := ci_u C I A K G hn q hw
    refine bb_0 (fun e => nm_r (zi_m1 n) ?_) (fun e => nm_r (zi_m1 n) ?_)
    · have en : v = L n := by
        rcases Classical.em (v < L n) with z | z
        · have := hb'.mpr z; rw [e] at this; exact absurd this (by decide)
        · omega
      rw [ls_id en] at A' G' K'
      exact ih (n - 1) b _ L (by omega) (by omega) (by omega) A' G' K' hM hb hx
    · have lt := hb'.mp e
      have := sb_lt hn hv.1 lt
      exact ih (n - 1) true _ _ (by omega) (by omega) (by omega) A' G' K' (by omega) (fun _ => by omega) (fun z => (nomatch z))
theorem py_53 {post : SY → Prop} {J : Int32 → Int32 → (Nat → Int32) → (Nat → Int32) → (Nat → Int32) → (Nat → Int32) → (Nat → Int32) → (Nat → Int32) → (Nat → Int32) → Prop} (C : clo g) (I : Inv4 (AsF g mb 2) cm) {M : Nat}
    (hJ : ∀ b la L, LB la L → GI (AsF g mb 2) L → CI cm L → (b = true → sumB L < M) → (b = false → ∀ n, 0 ≤ n → n ≤ 624 → FXP L n) → J (bI b) c ly fi ma se px py la) :
    ∀ (N : Nat) (n : Int) (b : Bool) (la : Nat → Int32) (L : Int → Int), 0 ≤ n → n ≤ 625 → (625 - n).toNat < N → LB la L → GI (AsF g mb 2) L → CI cm L → sumB L ≤ M → (b = true → sumB L < M) → (b = false → ∀ n', 0 ≤ n' → n' < n → FXP L n') → wY_pieces_53 post J N (bI b) (zI n) c ly fi ma se px py la := by
  intro N
  induction N with
  | zero => intro n b la L h0 h1; omega
  | succ N ih =>
    intro n b la L h0 h1 h2 A G K hM hb hx
    refine zb_le 625 n (fun h => ⟨626, ?_⟩) (fun h => ⟨zv_in n (by omega), ?_⟩)
    · exact py_93 C I hJ 626 624 b la L (by omega) (by omega) (by omega) A G K hM hb (fun e n' q0 q1 => hx e n' q0 (by omega))
    · have hn : 0 ≤ n ∧ n ≤ 624 := ⟨h0, by omega⟩
      have an := A n hn.1 hn.2
      rw [zi_cl (by omega), an.1]
      refine zb_lt (L n) 0 (fun q => nm_r (zi_1 n) (ih (n + 1) b la L (by omega) (by omega) (by omega) A G K hM hb (fun eb n' q0 q1 => ?_))) (fun q => ?_)
      · by_cases e2 : n' = n
        · rw [e2]; intro hp; omega
        · exact hx eb n' q0 (by omega)
      · refine yp_low A hn q (fun v b' hw hb' => ?_)
        have hv := hw.1
        have A' := lb_u A hn (v := v) (by omega)
        have G' := gi_u G q (v := v) (by omega)
        have K' := ci_u C I A K G hn q hw
        refine bb_0 (fun e => nm_r (zi_1 n) ?_) (fun e => nm_r (zi_1 n) ?_)
        · have en : v = L n := by
            rcases Classical.em (v < L n) with z | z
            · have := hb'.mpr z; rw [e] at this; exact absurd this (by decide)
            · omega
          rw [ls_id en] at A' G' K'
          refine ih (n + 1) b _ L (by omega) (by omega) (by omega) A' G' K' hM hb (fun eb n' q0 q1 => ?_)
          by_cases e2 : n' = n
          · rw [e2]
            intro _ d d0 d8 hJ hL
            have := hw.2.1 d d0 (by omega) hJ hL
            omega
          · exact hx eb n' q0 (by omega)
        · have lt := hb'.mp e
          have := sb_lt hn hv.1 lt
          exact ih (n + 1) true _ _ (by omega) (by omega) (by omega) A' G' K' (by omega) (fun _ => by omega) (fun z => (nomatch z))
theorem py_44 {post : SY → Prop} (C : clo g) (I : Inv4 (AsF g mb 2) cm)
    (f : ∀ la L, LB la L → GI (AsF g mb 2) L → CI cm L → (∀ n, 0 ≤ n → n ≤ 624 → FXP L n) → post (c, ly, fi, ma, se, px, py, la)) :
    ∀ (N : Nat) (b : Bool) (la : Nat → Int32) (L : Int → Int), LB la L → GI (AsF g mb 2) L → CI cm L → (b = true → sumB L + 1 < N) → (b = false → 1 ≤ N ∧ ∀ n, 0 ≤ n → n ≤ 624 → FXP L n) → wY_pieces_44 post N (bI b) c ly fi ma se px py la := by
  intro N
  induction N with
  | zero =>
    intro b la L A G K h1 h2
    cases b
    · have := (h2 rfl).1; omega
    · have := h1 rfl; omega
  | succ N ih =>
    intro b la L A G K h1 h2
    refine bb_0 (fun e => f la L A G K (h2 e).2) (fun e => ⟨626, ?_⟩)
    have hs := h1 e
    exact py_53 (M := sumB L) C I (fun b' la' L' A' G' K' k1 k2 => ih b' la' L' A' G' K' (fun eb => by have := k1 eb; omega) (fun eb => ⟨by omega, k2 eb⟩)) 626 0 false la L (by omega) (by omega) (by omega) A G K (Nat.le_refl _) (fun z => (nomatch z)) (fun _ n' q0 q1 => absurd q1 (by omega))
theorem sb_0 (g : Int → Int → Bool) (mb : Bool) : sumB (fun n => if g (n / 25) (n % 25) = mb then n else -1) ≤ 625 * 625 := by
  unfold sumB
  refine sm_le (fun q hq => ?_)
  show ((if g ((q : Int) / 25) ((q : Int) % 25) = mb then (q : Int) else -1) + 1).toNat ≤ 625
  split <;> omega
theorem py_2 {S : Int → Int → Int → Bool} {post : SY → Prop} (Q : YP ly S) {l : Int} (hl : 0 ≤ l ∧ l ≤ 5) (C : clo (S l)) (I : Inv4 (AsF (S l) mb 2) cm)
    (f : ∀ la L, LB la L → GI (AsF (S l) mb 2) L → CI cm L → (∀ n, 0 ≤ n → n ≤ 624 → FXP L n) → post (c, ly, fi, ma, se, px, py, la)) :
    ∀ (N : Nat) (n : Int) (la : Nat → Int32), 0 ≤ n → n ≤ 625 → (625 - n).toNat < N → (∀ q, 0 ≤ q → q < n → la q.toNat = zI (if S l (q / 25) (q % 25) = mb then q else -1)) → wY_pieces_2 post (zI l) (bI (!mb)) c N (zI n) ly fi ma se px py la := by
  intro N
  induction N with
  | zero => intro n la h0 h1; omega
  | succ N ih =>
    intro n la h0 h1 h2 A
    have e1 := zi_in2 l n
    refine zb_le 625 n (fun h => ?_) (fun h => ⟨zv_in (625 * l + n) (by omega) e1, ?_⟩)
    · obtain ⟨NN, hNN⟩ : ∃ NN : Nat, NN = 625 * 625 + 5 := ⟨_, rfl⟩
      have hs := sb_0 (S l) mb
      have nn : ∀ q : Int, 0 ≤ q → ((0 : Int) ≤ (if S l (q / 25) (q % 25) = mb then q else -1) ↔ S l (q / 25) (q % 25) = mb) := by
        intro q q0
        by_cases e : S l (q / 25) (q % 25) = mb
        · rw [if_pos e]; exact ⟨fun _ => e, fun _ => q0⟩
        · rw [if_neg e]; exact ⟨fun z => by omega, fun z => absurd z e⟩
      refine ⟨NN, py_44 C I f NN true la (fun n => if S l (n / 25) (n % 25) = mb then n else -1) (fun q q0 q1 => ⟨A q q0 (by omega), ?_⟩) (fun q q0 q1 => ?_) (fun q q0 q1 hq => ?_) (fun _ => ?_) (fun z => (nomatch z))⟩
      · show -1 ≤ (if S l (q / 25) (q % 25) = mb then q else -1) ∧ (if S l (q / 25) (q % 25) = mb then q else -1) ≤ 624
        split <;> omega
      · show (0 : Int) ≤ (if S l (q / 25) (q % 25) = mb then q else -1) ↔ _
        rw [nn q q0, as_i]
        exact ⟨fun h => ⟨by omega, h⟩, fun h => h.2⟩
      · have e : S l (q / 25) (q % 25) = mb := (nn q q0).mp hq
        have e2 : (fun n : Int => if S l (n / 25) (n % 25) = mb then n else -1) q = q := if_pos e
        rw [e2, e2]; exact ⟨q0, rfl⟩
      · generalize sumB (fun n => if S l (n / 25) (n % 25) = mb then n else -1) = z at hs ⊢
        omega
    · have gq : Gd (n / 25) (n % 25) := by omega
      have ix : 625 * l + n = 625 * l + 25 * (n / 25) + n % 25 := by omega
      have r1 : ly (625 * l + n).toNat = bI (S l (n / 25) (n % 25)) := by rw [ix]; exact Q l _ _ hl.1 hl.2 gq
      have st : ∀ x : Int, x = (if S l (n / 25) (n % 25) = mb then n else -1) → wY_pieces_2 post (zI l) (bI (!mb)) c N (zI (n + 1)) ly fi ma se px py (upd la n.toNat (zI x)) := by
        intro x ex
        refine ih (n + 1) _ (by omega) (by omega) (by omega) (fun q q0 q1 => ?_)
        unfold upd
        by_cases e : q = n
        · rw [if_pos (by omega), ex, e]
        · rw [if_neg (by omega)]; exact A q q0 (by omega)
      rw [zv_cl _ e1, r1, zi_cl (by omega)]
      have st1 := st (-1)
      have z1 : zI (-1) = -1 := by decide
      rw [z1] at st1
      refine bb_e (fun e => ⟨zv_in n (by omega), nm_e (nm_r (zi_1 n) (st1 ?_))⟩) (fun e => ⟨zv_in n (by omega), nm_e (nm_r (zi_1 n) (st n ?_))⟩)
      · rw [e, if_neg (by cases mb <;> decide)]
      · rw [if_pos]
        revert e
        cases S l (n / 25) (n % 25) <;> cases mb <;> decide
theorem yp_pieces {S : Int → Int → Int → Bool} {post : SY → Prop} {la : Nat → Int32} (Q : YP ly S) {l : Int} (mb : Bool) (hl : 0 ≤ l ∧ l ≤ 5) (C : clo (S l)) (I : Inv4 (AsF (S l) mb 2) cm)
    (f : ∀ la L, LB la L → GI (AsF (S l) mb 2) L → CI cm L → (∀ n, 0 ≤ n → n ≤ 624 → FXP L n) → post (c, ly, fi, ma, se, px, py, la)) : wpY_pieces post (c, ly, fi, ma, se, px, py, la) (zI l) (bI (!mb)) := by
  unfold wpY_pieces
  exact ⟨626, py_2 Q hl C I f 626 0 la (by omega) (by omega) (by omega) (fun q q0 q1 => absurd q1 (by omega))⟩
end
/-- at the end the labels are shared by neighbours -/
theorem fx_inv {g : Int → Int → Bool} {mb : Bool} {la : Nat → Int32} {L : Int → Int} (A : LB la L) (G : GI (AsF g mb 2) L) (X : ∀ n, 0 ≤ n → n ≤ 624 → FXP L n) : Inv4 (AsF g mb 2) (fun i j => L (25 * i + j)) := by
  have half : ∀ i j d, 0 ≤ d → d ≤ 3 → AsF g mb 2 i j = true → AsF g mb 2 (i + eaD d) (j + noD d) = true → L (25 * i + j) ≤ L (25 * (i + eaD d) + (j + noD d)) := by
    intro i j d d0 d3 h1 h2
    have g1 := as_s _ _ h1
    have g2 := as_s _ _ h2
    have e1 : (25 * i + j) / 25 = i := by omega
    have e2 : (25 * i + j) % 25 = j := by omega
    have p1 : 0 ≤ L (25 * i + j) := (G _ (by omega) (by omega)).mpr (by rw [e1, e2]; exact h1)
    have k : ∀ t, 0 ≤ t → t ≤ 8 → (t / 3 - 1 = eaD d) → (t % 3 - 1 = noD d) → (eaD d = 0 ∨ noD d = 0) → L (25 * i + j) ≤ L (25 * (i + eaD d) + (j + noD d)) := by
      intro t t0 t8 x1 x2 x3
      have en : nbY (25 * i + j) t = 25 * (i + eaD d) + (j + noD d) := by unfold nbY; rw [x1, x2]; omega
      have hJ : JN (25 * i + j) t := by
        unfold JN; rw [x1, x2, e1, e2]; exact ⟨by omega, g2⟩
      have := X (25 * i + j) (by omega) (by omega) p1 t t0 t8 hJ
      rw [en] at this
      refine this ((G _ (by omega) (by omega)).mpr ?_)
      have y1 : (25 * (i + eaD d) + (j + noD d)) / 25 = i + eaD d := by omega
      have y2 : (25 * (i + eaD d) + (j + noD d)) % 25 = j + noD d := by omega
      rw [y1, y2]; exact h2
    rcases d4 ⟨d0, d3⟩ with rfl | rfl | rfl | rfl
    · exact k 7 (by omega) (by omega) (by decide) (by decide) (by decide)
    · exact k 5 (by omega) (by omega) (by decide) (by decide) (by decide)
    · exact k 1 (by omega) (by omega) (by decide) (by decide) (by decide)
    · exact k 3 (by omega) (by omega) (by decide) (by decide) (by decide)
  intro i j d d0 d3 h1 h2
  show L (25 * i + j) = L (25 * (i + eaD d) + (j + noD d))
  have a := half i j d d0 d3 h1 h2
  obtain ⟨o1, o2, o3⟩ := op_d ⟨d0, d3⟩
  have b1 : i + eaD d + eaD (opD d) = i := by rw [o2]; omega
  have b2 : j + noD d + noD (opD d) = j := by rw [o3]; omega
  have b := half (i + eaD d) (j + noD d) (opD d) o1.1 o1.2 h2 (by rw [b1, b2]; exact h1)
  rw [b1, b2] at b
  omega
/-- a queue of a spreading carries one value of what neighbours share -/
theorem fin_inv {G : Int → Int → Bool} {i0 j0 : Int} {m : Nat} {qi qj qd : Nat → Int} (B : BF0 G i0 j0 m qi qj qd) {f : Int → Int → Int} (I : Inv4 G f) : ∀ N k, k < N → k < m → f (qi k) (qj k) = f i0 j0 := by
  intro N
  induction N with
  | zero => intro k hk; omega
  | succ N ih =>
    intro k hk hm
    by_cases e : k = 0
    · subst e
      obtain ⟨b1, b2, -⟩ := B.2.2.1 (by omega)
      rw [b1, b2]
    · obtain ⟨k', d, b1, b2, b3, b4, b5⟩ := B.2.2.2.2.2.1 k hm (by omega)
      have h := ih k' (by omega) (by omega)
      have := I (qi k') (qj k') d b2.1 b2.2 (B.2.2.2.1 k' (by omega)) (by rw [← b3, ← b4]; exact B.2.2.2.1 k hm)
      rw [b3, b4, ← this]; exact h
