/-! route: the labels against the queue -/
def LI (m : Nat) (qi qj qd : Nat → Int) (fr : Int) (L : Int → Int) : Prop := L fr = 0 ∧ ∀ n, 0 ≤ n → n ≤ 168 → L n < 1000 → ∃ k, k < m ∧ qi k = 2 * (n % 13) ∧ qj k = 2 * (n / 13) ∧ qd k ≤ 2 * L n
def sumL (L : Int → Int) : Nat := sm (fun k => (L k).toNat) 169
theorem su_lt {L : Int → Int} {n v : Int} (hn : 0 ≤ n ∧ n ≤ 168) (hv : 0 ≤ v) (h : v < L n) : sumL (lset L n v) < sumL L := by
  unfold sumL
  refine sm_lt (a := n.toNat) ?_ (fun k hk hne => ?_) (by omega)
  · have e : ((n.toNat : Nat) : Int) = n := by omega
    show (lset L n v (n.toNat : Int)).toNat < (L (n.toNat : Int)).toNat
    rw [e]; unfold lset; rw [if_pos rfl]; omega
  · show (lset L n v (k : Int)).toNat = (L (k : Int)).toNat
    unfold lset; rw [if_neg (by omega)]
theorem ls_id {L : Int → Int} {n v : Int} (h : v = L n) : lset L n v = L := by
  funext m; unfold lset
  by_cases e : m = n
  · rw [if_pos e, h, e]
  · rw [if_neg e]
theorem af_e {g : Int → Int → Bool} {i j : Int} (H : Sup g) (h : g i j = true) (hd : i % 2 + j % 2 ≤ 1) : AsF g true 1 i j = true := by
  unfold AsF; rw [decide_eq_true_eq]; exact ⟨H i j h, h, hd⟩
theorem af_d {g : Int → Int → Bool} {i j : Int} (h : AsF g true 1 i j = true) : g i j = true ∧ i % 2 + j % 2 ≤ 1 := by
  unfold AsF at h; rw [decide_eq_true_eq] at h; exact h.2
theorem li_s {g : Int → Int → Bool} (H : Sup g) (C : clo g) {i0 j0 : Int} {m : Nat} {qi qj qd : Nat → Int} (F : FIN (AsF g true 1) i0 j0 m qi qj qd) {fr : Int} {L : Int → Int} (R : ∀ n, 0 ≤ n → n ≤ 168 → 0 ≤ L n ∧ L n ≤ 1000) (I : LI m qi qj qd fr L) {n : Int} (hn : 0 ≤ n ∧ n ≤ 168) (h0 : 0 ≤ nvL g L n) : LI m qi qj qd fr (lset L n (nvL g L n)) := by
  have hle := nv_le g L n
  refine ⟨?_, fun q q0 q1 hq => ?_⟩
  · unfold lset
    by_cases e : fr = n
    · rw [if_pos e]; rw [← e] at hle ⊢; rw [← e] at h0; have := I.1; omega
    · rw [if_neg e]; exact I.1
  · unfold lset at hq ⊢
    by_cases e : q = n
    · rw [if_pos e] at hq ⊢
      subst e
      rcases nv_ex g L q with e1 | ⟨d, hd, he, e1⟩
      · rw [e1] at hq ⊢; exact I.2 q q0 q1 hq
      · rw [e1] at hq ⊢
        obtain ⟨r, r1, r2⟩ := ed_r H ⟨q0, q1⟩ hd he
        obtain ⟨k, hk, k1, k2, k3⟩ := I.2 _ r.1 r.2 (by omega)
        obtain ⟨o1, o2, o3⟩ := op_d hd
        have ge : g (2 * (q % 13) + eaD d) (2 * (q / 13) + noD d) = true := he
        have par : (2 * (q % 13) + eaD d) % 2 + (2 * (q / 13) + noD d) % 2 = 1 ∧ ((2 * (q % 13) + eaD d) % 2 = 1 ∨ (2 * (q / 13) + noD d) % 2 = 1) := by
          rcases d4 hd with rfl | rfl | rfl | rfl <;> simp [eaD, noD] <;> omega
        have gp : g (2 * (q % 13)) (2 * (q / 13)) = true := by
          have cc := C _ _ ge
          rcases d4 hd with rfl | rfl | rfl | rfl
          · have := (cc.1 (by simp [eaD])).1
            simp [eaD, noD] at this; exact this
          · have := (cc.2 (by simp [noD])).1
            simp [eaD, noD] at this; exact this
          · have := (cc.1 (by simp [eaD])).2
            simp [eaD, noD] at this
            have z : 2 * (q % 13) + -1 + 1 = 2 * (q % 13) := by omega
            rw [z] at this; exact this
          · have := (cc.2 (by simp [noD])).2
            simp [eaD, noD] at this
            have z : 2 * (q / 13) + -1 + 1 = 2 * (q / 13) := by omega
            rw [z] at this; exact this
        have x1 : qi k + eaD (opD d) = 2 * (q % 13) + eaD d := by rw [k1, r1, o2]; omega
        have x2 : qj k + noD (opD d) = 2 * (q / 13) + noD d := by rw [k2, r2, o3]; omega
        obtain ⟨k', hk', y1, y2, y3⟩ := F.2 k hk (opD d) o1.1 o1.2 (by rw [x1, x2]; exact af_e H ge (by omega))
        have x3 : qi k' + eaD (opD d) = 2 * (q % 13) := by rw [y1, x1, o2]; omega
        have x4 : qj k' + noD (opD d) = 2 * (q / 13) := by rw [y2, x2, o3]; omega
        obtain ⟨k'', hk'', w1, w2, w3⟩ := F.2 k' hk' (opD d) o1.1 o1.2 (by rw [x3, x4]; exact af_e H gp (by omega))
        exact ⟨k'', hk'', by rw [w1, x3], by rw [w2, x4], by omega⟩
    · rw [if_neg e] at hq ⊢; exact I.2 q q0 q1 hq
theorem qd_r {G : Int → Int → Bool} {i0 j0 : Int} {m : Nat} {qi qj qd : Nat → Int} (B : BF0 G i0 j0 m qi qj qd) : ∀ N k, k < N → k < m → 0 ≤ qd k ∧ qd k ≤ k := by
  intro N
  induction N with
  | zero => intro k hk; omega
  | succ N ih =>
    intro k hk hm
    by_cases e : k = 0
    · subst e; have := (B.2.2.1 (by omega)).2.2; omega
    · obtain ⟨k', d, b1, b2, b3, b4, b5⟩ := B.2.2.2.2.2.1 k hm (by omega)
      have := ih k' (by omega) (by omega)
      omega
/-- at the end of the labelling no label is above the way -/
theorem li_a {g : Int → Int → Bool} (H : Sup g) {fr : Int} (hf : 0 ≤ fr ∧ fr ≤ 168) {m : Nat} {qi qj qd : Nat → Int} (F : FIN (AsF g true 1) (2 * (fr % 13)) (2 * (fr / 13)) m qi qj qd) {L : Int → Int} (hL : L fr = 0) (X : ∀ n, 0 ≤ n → n ≤ 168 → FXn g L n) :
    ∀ N k, k < N → k < m → (∃ n, (0 ≤ n ∧ n ≤ 168) ∧ qi k = 2 * (n % 13) ∧ qj k = 2 * (n / 13) ∧ 2 * L n ≤ qd k) ∨ (∃ n d, (0 ≤ n ∧ n ≤ 168) ∧ (0 ≤ d ∧ d ≤ 3) ∧ qi k = 2 * (n % 13) + eaD d ∧ qj k = 2 * (n / 13) + noD d ∧ 2 * L n + 1 ≤ qd k) := by
  intro N
  induction N with
  | zero => intro k hk; omega
  | succ N ih =>
    intro k hk hm
    by_cases e : k = 0
    · subst e
      obtain ⟨b1, b2, b3⟩ := F.1.2.2.1 (by omega)
      exact Or.inl ⟨fr, hf, b1, b2, by omega⟩
    · obtain ⟨k', d, b1, b2, b3, b4, b5⟩ := F.1.2.2.2.2.2.1 k hm (by omega)
      rcases ih k' (by omega) (by omega) with ⟨n, hn, c1, c2, c3⟩ | ⟨n, d', hn, hd', c1, c2, c3⟩
      · exact Or.inr ⟨n, d, hn, b2, by rw [b3, c1], by rw [b4, c2], by omega⟩
      · have gk := af_d (F.1.2.2.2.1 k hm)
        have gk' := af_d (F.1.2.2.2.1 k' (by omega))
        rw [c1, c2] at gk'
        have he : EdP g n d' := gk'.1
        obtain ⟨r, r1, r2⟩ := ed_r H hn hd' he
        obtain ⟨o1, o2, o3⟩ := op_d hd'
        rw [b3, b4, c1, c2] at gk
        have par := gk.2
        left
        by_cases eb : d = d'
        · refine ⟨nbP n d', r, ?_, ?_, ?_⟩
          · rw [b3, c1, r1, eb]; omega
          · rw [b4, c2, r2, eb]; omega
          · have e2 : nbP (nbP n d') (opD d') = n := by unfold nbP; rw [o2, o3]; omega
            have := X (nbP n d') r.1 r.2 (opD d') o1.1 o1.2 (by
              show g (2 * (nbP n d' % 13) + eaD (opD d')) (2 * (nbP n d' / 13) + noD (opD d')) = true
              have z1 : 2 * (nbP n d' % 13) + eaD (opD d') = 2 * (n % 13) + eaD d' := by rw [r1, o2]; omega
              have z2 : 2 * (nbP n d' / 13) + noD (opD d') = 2 * (n / 13) + noD d' := by rw [r2, o3]; omega
              rw [z1, z2]; exact he)
            rw [e2] at this; omega
        · have e3 : eaD d = - eaD d' ∧ noD d = - noD d' := by
            rcases d4 b2 with rfl | rfl | rfl | rfl <;> rcases d4 hd' with rfl | rfl | rfl | rfl <;> simp [eaD, noD] at par ⊢ <;> omega
          refine ⟨n, hn, ?_, ?_, by omega⟩
          · rw [b3, c1, e3.1]; omega
          · rw [b4, c2, e3.2]; omega
section
variable {c : Int32} {fi ly ma se px py : Nat → Int32} {S : Int → Int → Int → Bool}
theorem ry_157 {post : Int32 → SY → Prop} {J : Int32 → Int32 → (Nat → Int32) → (Nat → Int32) → (Nat → Int32) → (Nat → Int32) → (Nat → Int32) → (Nat → Int32) → (Nat → Int32) → Prop} (Q : YP ly S) (H : HS S) (C : CL S) {l fr to i0 j0 : Int} (hl : 0 ≤ l ∧ l ≤ 5) {m M : Nat} {qi qj qd : Nat → Int} (F : FIN (AsF (S l) true 1) i0 j0 m qi qj qd)
    (hJ : ∀ b la L, LA la L → LI m qi qj qd fr L → (b = true → sumL L < M) → (b = false → ∀ n, 0 ≤ n → n ≤ 168 → FXn (S l) L n) → J (bI b) c ly fi ma se px py la) :
    ∀ (N : Nat) (n : Int) (b : Bool) (la : Nat → Int32) (L : Int → Int), -1 ≤ n → n ≤ 168 → (n + 1).toNat < N → LA la L → LI m qi qj qd fr L → sumL L ≤ M → (b = true → sumL L < M) → (b = false → ∀ n, 0 ≤ n → n ≤ 168 → FXn (S l) L n) → wY_route_157 post J (zI l) (zI to) N (bI b) (zI n) c ly fi ma se px py la := by
  have Hl : Sup (S l) := fun i j => H l i j
  intro N
  induction N with
  | zero => intro n b la L h0 h1; omega
  | succ N ih =>
    intro n b la L h0 h1 h2 A I hM hb hx
    refine zb_lt n 0 (fun h => hJ b la L A I hb hx) (fun h => ?_)
    have hn : 0 ≤ n ∧ n ≤ 168 := ⟨h, h1⟩
    have an := A n hn.1 hn.2
    have nl := nv_le (S l) L n
    have n0 : 0 ≤ nvL (S l) L n ∧ nvL (S l) L n ≤ 1000 := by
      have r2 := la_nv A Hl (d := 2) hn (by omega) an.2
      have r0 := la_nv A Hl (d := 0) hn (by omega) r2
      have r3 := la_nv A Hl (d := 3) hn (by omega) r0
      exact la_nv A Hl (d := 1) hn (by omega) r3
    have I' := li_s Hl (C l hl.1 hl.2) F (fun q q0 q1 => (A q q0 q1).2) I hn n0.1
    have A' := la_u A hn n0
    refine yp_nearer Q H A hl hn (fun b' hb' => ?_)
    refine bb_0 (fun e => nm_r (zi_m1 n) ?_) (fun e => nm_r (zi_m1 n) ?_)
    · have en : nvL (S l) L n = L n := by
        rcases Classical.em (nvL (S l) L n < L n) with z | z
        · have := hb'.mpr z; rw [e] at this; exact absurd this (by decide)
        · omega
      rw [ls_id en] at A' I'
      exact ih (n - 1) b _ L (by omega) (by omega) (by omega) A' I' hM hb hx
    · have lt := hb'.mp e
      have := su_lt hn n0.1 lt
      exact ih (n - 1) true _ _ (by omega) (by omega) (by omega) A' I' (by omega) (fun _ => by omega) (fun z => (nomatch z))
theorem ry_125 {post : Int32 → SY → Prop} {J : Int32 → Int32 → (Nat → Int32) → (Nat → Int32) → (Nat → Int32) → (Nat → Int32) → (Nat → Int32) → (Nat → Int32) → (Nat → Int32) → Prop} (Q : YP ly S) (H : HS S) (C : CL S) {l fr to i0 j0 : Int} (hl : 0 ≤ l ∧ l ≤ 5) {m M : Nat} {qi qj qd : Nat → Int} (F : FIN (AsF (S l) true 1) i0 j0 m qi qj qd)
    (hJ : ∀ b la L, LA la L → LI m qi qj qd fr L → (b = true → sumL L < M) → (b = false → ∀ n, 0 ≤ n → n ≤ 168 → FXn (S l) L n) → J (bI b) c ly fi ma se px py la) :
    ∀ (N : Nat) (n : Int) (b : Bool) (la : Nat → Int32) (L : Int → Int), 0 ≤ n → n ≤ 169 → (169 - n).toNat < N → LA la L → LI m qi qj qd fr L → sumL L ≤ M → (b = true → sumL L < M) → (b = false → ∀ n', 0 ≤ n' → n' < n → FXn (S l) L n') → wY_route_125 post J (zI l) (zI to) N (bI b) (zI n) c ly fi ma se px py la := by
  have Hl : Sup (S l) := fun i j => H l i j
  intro N
  induction N with
  | zero => intro n b la L h0 h1; omega
  | succ N ih =>
    intro n b la L h0 h1 h2 A I hM hb hx
    refine zb_le 169 n (fun h => ⟨170, ?_⟩) (fun h => ?_)
    · exact ry_157 Q H C hl F hJ 170 168 b la L (by omega) (by omega) (by omega) A I hM hb (fun e n' q0 q1 => hx e n' q0 (by omega))
    · have hn : 0 ≤ n ∧ n ≤ 168 := ⟨h0, by omega⟩
      have an := A n hn.1 hn.2
      have nl := nv_le (S l) L n
      have n0 : 0 ≤ nvL (S l) L n ∧ nvL (S l) L n ≤ 1000 := by
        have r2 := la_nv A Hl (d := 2) hn (by omega) an.2
        have r0 := la_nv A Hl (d := 0) hn (by omega) r2
        have r3 := la_nv A Hl (d := 3) hn (by omega) r0
        exact la_nv A Hl (d := 1) hn (by omega) r3
      have I' := li_s Hl (C l hl.1 hl.2) F (fun q q0 q1 => (A q q0 q1).2) I hn n0.1
      have A' := la_u A hn n0
      refine yp_nearer Q H A hl hn (fun b' hb' => ?_)
      refine bb_0 (fun e => nm_r (zi_1 n) ?_) (fun e => nm_r (zi_1 n) ?_)
      · have nlt : ¬ nvL (S l) L n < L n := fun z => by
          have := hb'.mpr z; rw [e] at this; exact absurd this (by decide)
        have en : nvL (S l) L n = L n := by omega
        rw [ls_id en] at A' I'
        refine ih (n + 1) b _ L (by omega) (by omega) (by omega) A' I' hM hb (fun eb n' q0 q1 => ?_)
        by_cases e2 : n' = n
        · rw [e2]; exact nv_fx nlt
        · exact hx eb n' q0 (by omega)
      · have lt := hb'.mp e
        have := su_lt hn n0.1 lt
        exact ih (n + 1) true _ _ (by omega) (by omega) (by omega) A' I' (by omega) (fun _ => by omega) (fun z => (nomatch z))
theorem ry_114 {post : Int32 → SY → Prop} (Q : YP ly S) (H : HS S) (C : CL S) {l fr to i0 j0 : Int} (hl : 0 ≤ l ∧ l ≤ 5) (ht : 0 ≤ to ∧ to ≤ 168) {m : Nat} {qi qj qd : Nat → Int} (F : FIN (AsF (S l) true 1) i0 j0 m qi qj qd)
    (f : ∀ la L, LI m qi qj qd fr L → (0 ≤ L to ∧ L to ≤ 1000) → (∀ n, 0 ≤ n → n ≤ 168 → FXn (S l) L n) → post (zI (if L to < 1000 then L to else -1)) (c, ly, fi, ma, se, px, py, la)) :
    ∀ (N : Nat) (b : Bool) (la : Nat → Int32) (L : Int → Int), LA la L → LI m qi qj qd fr L → (b = true → sumL L + 1 < N) → (b = false → 1 ≤ N ∧ ∀ n, 0 ≤ n → n ≤ 168 → FXn (S l) L n) → wY_route_114 post (zI l) (zI to) N (bI b) c ly fi ma se px py la := by
  intro N
  induction N with
  | zero =>
    intro b la L A I h1 h2
    cases b
    · have := (h2 rfl).1; omega
    · have := h1 rfl; omega
  | succ N ih =>
    intro b la L A I h1 h2
    refine bb_0 (fun e => ?_) (fun e => ⟨170, ?_⟩)
    · have at_ := A to ht.1 ht.2
      have ff := f la L I at_.2 (h2 e).2
      have v1 : vp_in (zI to) 625 := zv_in to (by omega)
      have c1 : (zI to).toNatClampNeg = to.toNat := zi_cl (by omega)
      rw [c1, at_.1]
      refine ⟨v1, zb_le 1000 (L to) (fun h => ?_) (fun h => ⟨v1, ?_⟩)⟩
      · rw [if_neg (by omega)] at ff; exact ff
      · rw [if_pos h] at ff; exact ff
    · have hs := h1 e
      exact ry_125 (M := sumL L) Q H C hl F (fun b' la' L' A' I' k1 k2 => ih b' la' L' A' I' (fun eb => by have := k1 eb; omega) (fun eb => ⟨by omega, k2 eb⟩)) 170 0 false la L (by omega) (by omega) (by omega) A I (Nat.le_refl _) (fun z => (nomatch z)) (fun _ n' q0 q1 => absurd q1 (by omega))
theorem ry_77 {post : Int32 → SY → Prop} {l fr to : Int} (hf : 0 ≤ fr ∧ fr ≤ 168)
    (f : ∀ la, LA la (fun n => if n = fr then 0 else 1000) → ∃ N, wY_route_114 post (zI l) (zI to) N 1 c ly fi ma se px py la) :
    ∀ (N : Nat) (n : Int) (la : Nat → Int32), 0 ≤ n → n ≤ 169 → (169 - n).toNat < N → (∀ q, 0 ≤ q → q < n → la q.toNat = zI (if q = fr then 0 else 1000)) → wY_route_77 post (zI l) (zI fr) (zI to) c N (zI n) ly fi ma se px py la := by
  intro N
  induction N with
  | zero => intro n la h0 h1; omega
  | succ N ih =>
    intro n la h0 h1 h2 A
    refine zb_le 169 n (fun h => f la (fun q q0 q1 => ⟨A q q0 (by omega), by show 0 ≤ (if q = fr then (0 : Int) else 1000) ∧ (if q = fr then (0 : Int) else 1000) ≤ 1000; split <;> omega⟩)) (fun h => ?_)
    have v1 : vp_in (zI n) 625 := zv_in n (by omega)
    have c1 : (zI n).toNatClampNeg = n.toNat := zi_cl (by omega)
    have st : ∀ x : Int, x = (if n = fr then 0 else 1000) → wY_route_77 post (zI l) (zI fr) (zI to) c N (zI (n + 1)) ly fi ma se px py (upd la n.toNat (zI x)) := by
      intro x ex
      refine ih (n + 1) _ (by omega) (by omega) (by omega) (fun q q0 q1 => ?_)
      unfold upd
      by_cases e : q = n
      · rw [if_pos (by omega), ex, e]
      · rw [if_neg (by omega)]; exact A q q0 (by omega)
    rw [c1]
    refine zb_eq n fr (fun e => ⟨v1, nm_e (nm_r (zi_1 n) (st 0 ?_))⟩) (fun e => ⟨v1, nm_e (nm_r (zi_1 n) (st 1000 ?_))⟩)
    · rw [if_pos e]
    · rw [if_neg e]
end
section
variable {c gc lr rk : Int32} {cx cy dg : Nat → Int32}
theorem rx_74 {post : Int32 → SX → Prop} {a re st : Nat → Int32} {m : Nat} {qi qj qd : Nat → Int} {G : Int → Int → Bool} {i0 j0 gi gj : Int} (H : Sup G) (B : BF0 G i0 j0 m qi qj qd) (A : QA m qi qj qd re st) (hg : Gd gi gj)
    (f : ∀ k, k < m → qi k = gi → qj k = gj → post (zI (qd k / 2)) (c, zI m, gc, lr, rk, a, cx, cy, re, st, dg)) (g : ¬ InQ m qi qj gi gj → post (-1) (c, zI m, gc, lr, rk, a, cx, cy, re, st, dg)) :
    ∀ (N n : Nat), n ≤ m → 625 - n < N → (∀ k, k < n → ¬ (qi k = gi ∧ qj k = gj)) → wX_route_74 post (zI (25 * gj + gi)) c (zI m) gc lr rk a cx cy re st dg N (zI n) := by
  have hm := bf_m H B
  intro N
  induction N with
  | zero => intro n h0 h1; omega
  | succ N ih =>
    intro n h0 h1 hb
    have no : m ≤ n → ¬ InQ m qi qj gi gj := fun hh ⟨k, hk, e⟩ => hb k (by omega) e
    refine zb_le 625 (n : Int) (fun h => g (no (by omega))) (fun h => zb_le (m : Int) (n : Int) (fun h2 => g (no (by omega))) (fun h2 => ?_))
    have v1 : vp_in (zI n) 625 := zv_in (n : Int) (by omega)
    have c1 : (zI n).toNatClampNeg = n := by rw [zi_cl (by omega), Int.toNat_natCast]
    have q := A n (by omega)
    have gd := H _ _ (B.2.2.2.1 n (by omega))
    have dr := qd_r B (n + 1) n (by omega) (by omega)
    rw [c1, q.1, q.2]
    refine ⟨v1, zb_eq (25 * qj n + qi n) (25 * gj + gi) (fun e => ⟨v1, by decide, ?_⟩) (fun e => nm_r (zi_1 _) ?_)⟩
    · have e2 : zI (qd n) / 2 = zI (qd n / 2) := zi_div (d := 2) (by omega) (by omega)
      rw [e2]
      exact f n (by omega) (by omega) (by omega)
    · refine ih (n + 1) (by omega) (by omega) (fun k hk => ?_)
      by_cases e3 : k = n
      · subst e3; rintro ⟨z1, z2⟩; exact e (by rw [z1, z2])
      · exact hb k (by omega)
end
theorem rt_y {ly fi ma se px py la : Nat → Int32} {S : Int → Int → Int → Bool} {n l fr to : Int} (Q : YP ly S) (H : HS S) (hl : Rg l) (hf : Rg fr) (ht : Rg to) : ∀ post : Int32 → SY → Prop, ((0 ≤ l ∧ l ≤ 5) → (0 ≤ fr ∧ fr ≤ 168) → (0 ≤ to ∧ to ≤ 168) → (S l (2 * (fr % 13)) (2 * (fr / 13)) = true ∧ S l (2 * (to % 13)) (2 * (to / 13)) = true → ∃ N, wY_route_77 post (zI l) (zI fr) (zI to) (zI n) N 0 ly fi ma se px py la) ∧ (¬ (S l (2 * (fr % 13)) (2 * (fr / 13)) = true ∧ S l (2 * (to % 13)) (2 * (to / 13)) = true) → post (-1) (zI n, ly, fi, ma, se, px, py, la))) → (¬ ((0 ≤ l ∧ l ≤ 5) ∧ (0 ≤ fr ∧ fr ≤ 168) ∧ (0 ≤ to ∧ to ≤ 168)) → post (-1) (zI n, ly, fi, ma, se, px, py, la)) → wpY_route post (zI n, ly, fi, ma, se, px, py, la) (zI l) (zI fr) (zI to) := by
  intro post f g
  unfold wpY_route
  refine yg_layer l hl (fun h1 => b1_f ?_) (fun h1 => b0_t (g (by omega)))
  refine zb_lt fr 0 (fun h => g (by omega)) (fun h2 => zb_lt 168 fr (fun h => g (by omega)) (fun h3 => zb_lt to 0 (fun h => g (by omega)) (fun h4 => zb_le to 168 (fun h5 => ?_) (fun h => g (by omega)))))
  obtain ⟨f1, f2⟩ := f h1 ⟨h2, h3⟩ ⟨h4, h5⟩
  have m2 : ∀ z : Int, zI z * 2 = zI (2 * z) := fun z => by
    have e : zI z * 2 = zI (z * 2) := zi_mul z 2
    rw [e]; apply congrArg zI; omega
  rw [zi_r13 (by omega), zi_d13 (by omega), zi_r13 (by omega), zi_d13 (by omega), m2, m2, m2, m2]
  refine ⟨by decide, by decide, yp_in Q H l _ _ h1 (by omega) (by omega) (bb_0 (fun e => f2 (fun z => by rw [z.1] at e; exact absurd e (by decide))) (fun e => ⟨by decide, by decide, yp_in Q H l _ _ h1 (by omega) (by omega) (bb_0 (fun e2 => f2 (fun z => by rw [z.2] at e2; exact absurd e2 (by decide))) (fun e2 => f1 ⟨e, e2⟩))⟩))⟩
