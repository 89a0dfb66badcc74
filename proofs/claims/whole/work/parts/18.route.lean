/-! route -/
/-- the neighbour of a point index, and the atom between -/
def nbP (n d : Int) : Int := n + eaD d + 13 * noD d
abbrev EdP (g : Int → Int → Bool) (n d : Int) : Prop := g (2 * (n % 13) + eaD d) (2 * (n / 13) + noD d) = true
def FXn (g : Int → Int → Bool) (L : Int → Int) (n : Int) : Prop := ∀ d, 0 ≤ d → d ≤ 3 → EdP g n d → L n ≤ L (nbP n d) + 1
theorem d4 {d : Int} (h : 0 ≤ d ∧ d ≤ 3) : d = 0 ∨ d = 1 ∨ d = 2 ∨ d = 3 := by omega
theorem ed_r {g : Int → Int → Bool} (H : Sup g) {n d : Int} (hn : 0 ≤ n ∧ n ≤ 168) (hd : 0 ≤ d ∧ d ≤ 3) (h : EdP g n d) : (0 ≤ nbP n d ∧ nbP n d ≤ 168) ∧ nbP n d % 13 = n % 13 + eaD d ∧ nbP n d / 13 = n / 13 + noD d := by
  have := H _ _ h
  rcases d4 hd with rfl | rfl | rfl | rfl <;> simp [nbP, eaD, noD] at this ⊢ <;> omega
def opD (d : Int) : Int := if d < 2 then d + 2 else d - 2
theorem op_d {d : Int} (hd : 0 ≤ d ∧ d ≤ 3) : (0 ≤ opD d ∧ opD d ≤ 3) ∧ eaD (opD d) = - eaD d ∧ noD (opD d) = - noD d := by
  rcases d4 hd with rfl | rfl | rfl | rfl <;> decide
def stL (g : Int → Int → Bool) (L : Int → Int) (n d v : Int) : Int := if EdP g n d ∧ L (nbP n d) + 1 < v then L (nbP n d) + 1 else v
theorem stl_le (g : Int → Int → Bool) (L : Int → Int) (n d v : Int) : stL g L n d v ≤ v := by unfold stL; split <;> omega
theorem stl_nb {g : Int → Int → Bool} {L : Int → Int} {n d v : Int} (h : EdP g n d) : stL g L n d v ≤ L (nbP n d) + 1 := by
  unfold stL
  by_cases e : L (nbP n d) + 1 < v
  · rw [if_pos ⟨h, e⟩]; omega
  · rw [if_neg (fun q => e q.2)]; omega
theorem stl_ex (g : Int → Int → Bool) (L : Int → Int) (n d v : Int) : stL g L n d v = v ∨ (EdP g n d ∧ stL g L n d v = L (nbP n d) + 1 ∧ L (nbP n d) + 1 < v) := by
  unfold stL
  by_cases e : EdP g n d ∧ L (nbP n d) + 1 < v
  · rw [if_pos e]; exact Or.inr ⟨e.1, rfl, e.2⟩
  · rw [if_neg e]; exact Or.inl rfl
def nvL (g : Int → Int → Bool) (L : Int → Int) (n : Int) : Int := stL g L n 1 (stL g L n 3 (stL g L n 0 (stL g L n 2 (L n))))
theorem nv_le (g : Int → Int → Bool) (L : Int → Int) (n : Int) : nvL g L n ≤ L n := by
  have h1 := stl_le g L n 2 (L n)
  have h2 := stl_le g L n 0 (stL g L n 2 (L n))
  have h3 := stl_le g L n 3 (stL g L n 0 (stL g L n 2 (L n)))
  have h4 := stl_le g L n 1 (stL g L n 3 (stL g L n 0 (stL g L n 2 (L n))))
  unfold nvL; omega
theorem nv_fx {g : Int → Int → Bool} {L : Int → Int} {n : Int} (h : ¬ nvL g L n < L n) : FXn g L n := by
  have h1 := stl_le g L n 2 (L n)
  have h2 := stl_le g L n 0 (stL g L n 2 (L n))
  have h3 := stl_le g L n 3 (stL g L n 0 (stL g L n 2 (L n)))
  have h4 := stl_le g L n 1 (stL g L n 3 (stL g L n 0 (stL g L n 2 (L n))))
  unfold nvL at h
  intro d d0 d3 he
  rcases d4 ⟨d0, d3⟩ with rfl | rfl | rfl | rfl
  · have := stl_nb (v := stL g L n 2 (L n)) he (L := L); omega
  · have := stl_nb (v := stL g L n 3 (stL g L n 0 (stL g L n 2 (L n)))) he (L := L); omega
  · have := stl_nb (v := L n) he (L := L); omega
  · have := stl_nb (v := stL g L n 0 (stL g L n 2 (L n))) he (L := L); omega
theorem nv_ex (g : Int → Int → Bool) (L : Int → Int) (n : Int) : nvL g L n = L n ∨ ∃ d, (0 ≤ d ∧ d ≤ 3) ∧ EdP g n d ∧ nvL g L n = L (nbP n d) + 1 := by
  unfold nvL
  rcases stl_ex g L n 1 (stL g L n 3 (stL g L n 0 (stL g L n 2 (L n)))) with h | h
  · rw [h]
    rcases stl_ex g L n 3 (stL g L n 0 (stL g L n 2 (L n))) with h | h
    · rw [h]
      rcases stl_ex g L n 0 (stL g L n 2 (L n)) with h | h
      · rw [h]
        rcases stl_ex g L n 2 (L n) with h | h
        · exact Or.inl h
        · exact Or.inr ⟨2, by omega, h.1, h.2.1⟩
      · exact Or.inr ⟨0, by omega, h.1, h.2.1⟩
    · exact Or.inr ⟨3, by omega, h.1, h.2.1⟩
  · exact Or.inr ⟨1, by omega, h.1, h.2.1⟩
def LA (la : Nat → Int32) (L : Int → Int) : Prop := ∀ n, 0 ≤ n → n ≤ 168 → la n.toNat = zI (L n) ∧ 0 ≤ L n ∧ L n ≤ 1000
def lset (L : Int → Int) (n v : Int) : Int → Int := fun m => if m = n then v else L m
theorem la_u {la : Nat → Int32} {L : Int → Int} (h : LA la L) {n v : Int} (hn : 0 ≤ n ∧ n ≤ 168) (hv : 0 ≤ v ∧ v ≤ 1000) : LA (upd la n.toNat (zI v)) (lset L n v) := by
  intro q q0 q1
  unfold upd lset
  by_cases e : q = n
  · subst e; simp only [if_pos]; exact ⟨trivial, hv⟩
  · have e2 : q.toNat ≠ n.toNat := by omega
    simp only [if_neg e, if_neg e2]; exact h q q0 q1
theorem la_nv {la : Nat → Int32} {L : Int → Int} (h : LA la L) {g : Int → Int → Bool} (H : Sup g) {n d v : Int} (hn : 0 ≤ n ∧ n ≤ 168) (hd : 0 ≤ d ∧ d ≤ 3) (hv : 0 ≤ v ∧ v ≤ 1000) : 0 ≤ stL g L n d v ∧ stL g L n d v ≤ 1000 := by
  have := stl_le g L n d v
  rcases stl_ex g L n d v with e | ⟨e1, e2, e3⟩
  · omega
  · obtain ⟨r, -⟩ := ed_r H hn hd e1
    have := h _ r.1 r.2
    omega
section
variable {c : Int32} {fi ly ma se px py : Nat → Int32} {S : Int → Int → Int → Bool}
theorem ne_199 {post : Int32 → SY → Prop} {la : Nat → Int32} {L : Int → Int} (A : LA la L) {n v : Int} (hn : 0 ≤ n ∧ n ≤ 168) (hv : 0 ≤ v ∧ v ≤ 1000) (f : ∀ b : Bool, (b = true ↔ v < L n) → post (bI b) (c, ly, fi, ma, se, px, py, upd la n.toNat (zI v))) : wY_nearer_199 post (zI n) (zI v) c ly fi ma se px py la := by
  have an := A n hn.1 hn.2
  have c1 : (zI n).toNatClampNeg = n.toNat := zi_cl (by omega)
  have v1 : vp_in (zI n) 625 := zv_in n (by omega)
  have k : ∀ b : Bool, (b = true ↔ v < L n) → wY_nearer_215 post (zI n) (zI v) (bI b) c ly fi ma se px py la := by
    intro b hb
    refine ⟨v1, nm_e ⟨bi_n b, ?_⟩⟩
    rw [c1]; exact f b hb
  unfold wY_nearer_199
  rw [c1, an.1]
  refine ⟨v1, zb_le (L n) v (fun h => k false ?_) (fun h => k true ?_)⟩
  · exact ⟨fun z => (nomatch z), fun z => by omega⟩
  · exact ⟨fun _ => h, fun _ => rfl⟩
theorem ne_153 {post : Int32 → SY → Prop} {la : Nat → Int32} {L : Int → Int} (Q : YP ly S) (H : HS S) (A : LA la L) {l n v : Int} (hl : 0 ≤ l ∧ l ≤ 5) (hn : 0 ≤ n ∧ n ≤ 168) (hv : 0 ≤ v ∧ v ≤ 1000) (f : wY_nearer_199 post (zI n) (zI (stL (S l) L n 1 v)) c ly fi ma se px py la) : wY_nearer_153 post (zI l) (zI n) (zI (n % 13)) (zI (n / 13)) (zI v) c ly fi ma se px py la := by
  unfold wY_nearer_153
  unfold stL at f
  have e1 : 2 * zI (n % 13) = zI (2 * (n % 13) + eaD 1) := by rw [zi_dbl]; apply congrArg zI; show 2 * (n % 13) = 2 * (n % 13) + 0; omega
  have e2 : (2 * zI (n / 13)) + 1 = zI (2 * (n / 13) + noD 1) := by rw [zi_dbl, zi_1]; rfl
  rw [e1, e2]
  have b1 := ea_r 1
  have b2 := no_r 1
  refine yp_in Q H l _ _ hl (by omega) (by omega) (bb_0 (fun e => ?_) (fun e => ?_))
  · rw [if_neg (fun q => by rw [q.1] at e; exact absurd e (by decide))] at f; exact f
  · have hE : EdP (S l) n 1 := e
    obtain ⟨r, -⟩ := ed_r (fun i j => H l i j) hn (by omega) hE
    have en : zI n + 13 = zI (nbP n 1) := by
      have z : zI n + 13 = zI (n + 13) := zi_add n 13
      rw [z]; apply congrArg zI; show n + 13 = n + 0 + 13 * 1; omega
    have an := A _ r.1 r.2
    have v1 : vp_in (zI n + 13) 625 := zv_in (nbP n 1) (by omega) en
    refine ⟨v1, ?_⟩
    rw [zv_cl (nbP n 1) en, an.1, zi_1]
    refine zb_le v (L (nbP n 1) + 1) (fun h => ?_) (fun h => ⟨v1, nm_e ?_⟩)
    · rw [if_neg (fun q => by omega)] at f; exact f
    · rw [if_pos ⟨hE, h⟩] at f; exact f
theorem ne_107 {post : Int32 → SY → Prop} {la : Nat → Int32} {L : Int → Int} (Q : YP ly S) (H : HS S) (A : LA la L) {l n v : Int} (hl : 0 ≤ l ∧ l ≤ 5) (hn : 0 ≤ n ∧ n ≤ 168) (hv : 0 ≤ v ∧ v ≤ 1000) (f : wY_nearer_153 post (zI l) (zI n) (zI (n % 13)) (zI (n / 13)) (zI (stL (S l) L n 3 v)) c ly fi ma se px py la) : wY_nearer_107 post (zI l) (zI n) (zI (n % 13)) (zI (n / 13)) (zI v) c ly fi ma se px py la := by
  unfold wY_nearer_107
  unfold stL at f
  have e1 : 2 * zI (n % 13) = zI (2 * (n % 13) + eaD 3) := by rw [zi_dbl]; apply congrArg zI; show 2 * (n % 13) = 2 * (n % 13) + 0; omega
  have e2 : (2 * zI (n / 13)) - 1 = zI (2 * (n / 13) + noD 3) := by rw [zi_dbl, zi_s1]; rfl
  rw [e1, e2]
  have b1 := ea_r 3
  have b2 := no_r 3
  refine yp_in Q H l _ _ hl (by omega) (by omega) (bb_0 (fun e => ?_) (fun e => ?_))
  · rw [if_neg (fun q => by rw [q.1] at e; exact absurd e (by decide))] at f; exact f
  · have hE : EdP (S l) n 3 := e
    obtain ⟨r, -⟩ := ed_r (fun i j => H l i j) hn (by omega) hE
    have en : zI n - 13 = zI (nbP n 3) := by
      have z : zI n - 13 = zI (n - 13) := zi_sub n 13
      rw [z]; apply congrArg zI; show n - 13 = n + 0 + 13 * -1; omega
    have an := A _ r.1 r.2
    have v1 : vp_in (zI n - 13) 625 := zv_in (nbP n 3) (by omega) en
    refine ⟨v1, ?_⟩
    rw [zv_cl (nbP n 3) en, an.1, zi_1]
    refine zb_le v (L (nbP n 3) + 1) (fun h => ?_) (fun h => ⟨v1, nm_e ?_⟩)
    · rw [if_neg (fun q => by omega)] at f; exact f
    · rw [if_pos ⟨hE, h⟩] at f; exact f
theorem ne_63 {post : Int32 → SY → Prop} {la : Nat → Int32} {L : Int → Int} (Q : YP ly S) (H : HS S) (A : LA la L) {l n v : Int} (hl : 0 ≤ l ∧ l ≤ 5) (hn : 0 ≤ n ∧ n ≤ 168) (hv : 0 ≤ v ∧ v ≤ 1000) (f : wY_nearer_107 post (zI l) (zI n) (zI (n % 13)) (zI (n / 13)) (zI (stL (S l) L n 0 v)) c ly fi ma se px py la) : wY_nearer_63 post (zI l) (zI n) (zI (n % 13)) (zI (n / 13)) (zI v) c ly fi ma se px py la := by
  unfold wY_nearer_63
  unfold stL at f
  have e1 : (2 * zI (n % 13)) + 1 = zI (2 * (n % 13) + eaD 0) := by rw [zi_dbl, zi_1]; rfl
  have e2 : 2 * zI (n / 13) = zI (2 * (n / 13) + noD 0) := by rw [zi_dbl]; apply congrArg zI; show 2 * (n / 13) = 2 * (n / 13) + 0; omega
  rw [e1, e2]
  have b1 := ea_r 0
  have b2 := no_r 0
  refine yp_in Q H l _ _ hl (by omega) (by omega) (bb_0 (fun e => ?_) (fun e => ?_))
  · rw [if_neg (fun q => by rw [q.1] at e; exact absurd e (by decide))] at f; exact f
  · have hE : EdP (S l) n 0 := e
    obtain ⟨r, -⟩ := ed_r (fun i j => H l i j) hn (by omega) hE
    have en : zI n + 1 = zI (nbP n 0) := by rw [zi_1]; apply congrArg zI; show n + 1 = n + 1 + 13 * 0; omega
    have an := A _ r.1 r.2
    have v1 : vp_in (zI n + 1) 625 := zv_in (nbP n 0) (by omega) en
    refine ⟨v1, ?_⟩
    rw [zv_cl (nbP n 0) en, an.1, zi_1]
    refine zb_le v (L (nbP n 0) + 1) (fun h => ?_) (fun h => ⟨v1, nm_e ?_⟩)
    · rw [if_neg (fun q => by omega)] at f; exact f
    · rw [if_pos ⟨hE, h⟩] at f; exact f
theorem yp_nearer {post : Int32 → SY → Prop} {la : Nat → Int32} {L : Int → Int} (Q : YP ly S) (H : HS S) (A : LA la L) {l n : Int} (hl : 0 ≤ l ∧ l ≤ 5) (hn : 0 ≤ n ∧ n ≤ 168)
    (f : ∀ b : Bool, (b = true ↔ nvL (S l) L n < L n) → post (bI b) (c, ly, fi, ma, se, px, py, upd la n.toNat (zI (nvL (S l) L n)))) : wpY_nearer post (c, ly, fi, ma, se, px, py, la) (zI l) (zI n) := by
  have Hl : Sup (S l) := fun i j => H l i j
  have an := A n hn.1 hn.2
  have r2 := la_nv A Hl (d := 2) hn (by omega) an.2
  have r0 := la_nv A Hl (d := 0) hn (by omega) r2
  have r3 := la_nv A Hl (d := 3) hn (by omega) r0
  have r1 := la_nv A Hl (d := 1) hn (by omega) r3
  have w63 := ne_63 (c := c) (fi := fi) (ma := ma) (se := se) (px := px) (py := py) Q H A hl hn r2 (ne_107 Q H A hl hn r0 (ne_153 Q H A hl hn r3 (ne_199 A hn r1 f)))
  unfold stL at w63
  have c1 : (zI n).toNatClampNeg = n.toNat := zi_cl (by omega)
  unfold wpY_nearer
  dsimp only
  rw [c1, an.1]
  refine ⟨by decide, nm_r (zi_r13 (by omega)) ⟨by decide, nm_r (zi_d13 (by omega)) ⟨zv_in n (by omega), nm_e ?_⟩⟩⟩
  have e1 : (2 * zI (n % 13)) - 1 = zI (2 * (n % 13) + eaD 2) := by rw [zi_dbl, zi_s1]; rfl
  have e2 : 2 * zI (n / 13) = zI (2 * (n / 13) + noD 2) := by rw [zi_dbl]; apply congrArg zI; show 2 * (n / 13) = 2 * (n / 13) + 0; omega
  rw [e1, e2]
  have b1 := ea_r 2
  have b2 := no_r 2
  refine yp_in Q H l _ _ hl (by omega) (by omega) (bb_0 (fun e => ?_) (fun e => ?_))
  · rw [if_neg (fun q => by rw [q.1] at e; exact absurd e (by decide))] at w63; exact w63
  · have hE : EdP (S l) n 2 := e
    obtain ⟨r, -⟩ := ed_r (fun i j => H l i j) hn (by omega) hE
    have en : zI n - 1 = zI (nbP n 2) := by rw [zi_s1]; apply congrArg zI; show n - 1 = n + -1 + 13 * 0; omega
    have an := A _ r.1 r.2
    have v1 : vp_in (zI n - 1) 625 := zv_in (nbP n 2) (by omega) en
    refine ⟨v1, ?_⟩
    rw [zv_cl (nbP n 2) en, an.1, zi_1]
    refine zb_le (L n) (L (nbP n 2) + 1) (fun h => ?_) (fun h => ⟨v1, nm_e ?_⟩)
    · rw [if_neg (fun q => by omega)] at w63; exact w63
    · rw [if_pos ⟨hE, h⟩] at w63; exact w63
end
