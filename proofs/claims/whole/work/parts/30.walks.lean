/-! X: all rings -/
def LM (K : Nat → Prop) (len : Nat → Nat) (M : Nat) : Prop := (∀ κ, K κ → len κ ≤ M) ∧ (M = 0 ∨ ∃ κ, K κ ∧ len κ = M)
theorem lm_u {K : Nat → Prop} {len : Nat → Nat} {M M' : Nat} (h : LM K len M) (h' : LM K len M') : M = M' := by
  rcases h.2 with e | ⟨κ, k1, k2⟩
  · rcases h'.2 with e' | ⟨κ', k1', k2'⟩
    · omega
    · have := h.1 κ' k1'; omega
  · rcases h'.2 with e' | ⟨κ', k1', k2'⟩
    · have := h'.1 κ k1; omega
    · have := h.1 κ' k1'; have := h'.1 κ k1; omega
theorem lm_add {len : Nat → Nat} {t q M M' : Nat} (h : LM (fun κ => κ < t) len M) (hM : M' = if q ≤ M then M else q) : LM (fun κ => κ < t + 1) (fun κ => if κ = t then q else len κ) M' := by
  refine ⟨fun κ hκ => ?_, ?_⟩
  · show (if κ = t then q else len κ) ≤ M'
    by_cases e : κ = t
    · rw [if_pos e, hM]; split <;> omega
    · rw [if_neg e]
      have := h.1 κ (by omega)
      rw [hM]; split <;> omega
  · by_cases e : q ≤ M
    · rw [if_pos e] at hM
      rcases h.2 with z | ⟨κ, k1, k2⟩
      · exact Or.inl (by omega)
      · refine Or.inr ⟨κ, by omega, ?_⟩
        show (if κ = t then q else len κ) = M'
        rw [if_neg (by omega)]; omega
    · rw [if_neg e] at hM
      refine Or.inr ⟨t, by omega, ?_⟩
      show (if t = t then q else len t) = M'
      rw [if_pos rfl]; omega
section
variable {c rc gc lr : Int32} {cx cy re st dg : Nat → Int32}
theorem xp_walk {S0 S : Int → Int → Int → Bool} {post : Int32 → SX → Prop} {l : Int} (hl : 0 ≤ l ∧ l ≤ 5) (H : Sup (S0 l)) {R : Int → Prop} {t : Nat} {cm : Int → Int} {len : Nat → Nat} (P : RG (S0 l) R t cm len) {i j : Int} (gd : Gd i j) (ho : i % 2 = 1) (he : Bn (S0 l) (25 * i + j)) (hR : ¬ R (25 * i + j)) {a : Nat → Int32} (hW : WS S0 l R a S)
    (f : ∀ q a S, 1 ≤ q → q < 625 → itf (S0 l) q (25 * i + j) = 25 * i + j → (∀ s, 0 < s → s < q → itf (S0 l) s (25 * i + j) ≠ 25 * i + j) → WS S0 l (fun n => R n ∨ InR (S0 l) q (25 * i + j) n) a S → post (zI q) (c, rc, gc, lr, zI (cR (S0 l) (fun n => R n ∨ InR (S0 l) q (25 * i + j) n)), a, cx, cy, re, st, dg)) :
    wpX_walkRing post (c, rc, gc, lr, zI (cR (S0 l) R), a, cx, cy, re, st, dg) (zI l) (zI i) (zI j) := by
  have eR : (fun n => R n ∨ InR (S0 l) 0 (25 * i + j) n) = R := by
    funext n
    exact propext ⟨fun z => z.elim id (fun ⟨s, hs, _⟩ => absurd hs (by omega)), Or.inl⟩
  have e1 : (25 * i + j) / 25 = i := by omega
  have e2 : (25 * i + j) % 25 = j := by omega
  have sl : S l = S0 l := hW.2.1 l (by omega)
  have w := wr_30 (c := c) (rc := rc) (gc := gc) (lr := lr) (cx := cx) (cy := cy) (re := re) (st := st) (dg := dg) hl H P he hR f 627 0 a S (by omega) (fun s s0 s1 => absurd s1 (by omega)) (by rw [eR]; exact hW)
  have ed : dN (S0 l) (25 * i + j) = if S0 l i (j + 1) = true then 0 else 2 := by
    unfold dN drX; rw [e1, e2, if_pos ho]
  have e0 : itf (S0 l) 0 (25 * i + j) = 25 * i + j := rfl
  rw [eR, e0, e1, e2, ed] at w
  unfold wpX_walkRing
  rw [zi_1]
  refine xp_has hW.1 l _ _ (by omega) (by omega) (by omega) ?_
  rw [sl]
  refine bb_0 (fun z => ⟨627, ?_⟩) (fun z => ⟨627, ?_⟩)
  · rw [if_neg (by rw [z]; decide)] at w; exact w
  · rw [if_pos z] at w; exact w
theorem ws_i {S0 : Int → Int → Int → Bool} {post : SX → Prop} {J : Int32 → Int32 → Int32 → Int32 → Int32 → Int32 → (Nat → Int32) → (Nat → Int32) → (Nat → Int32) → (Nat → Int32) → (Nat → Int32) → (Nat → Int32) → Prop} {l j : Int} (hl : 0 ≤ l ∧ l ≤ 5) (H : Sup (S0 l)) (hj : 0 ≤ j ∧ j ≤ 24) (ej : j % 2 = 0)
    (hJ : ∀ a S R t cm len M, WS S0 l R a S → RG (S0 l) R t cm len → LM (fun κ => κ < t) len M → M ≤ 625 → (∀ n, Bn (S0 l) n → n % 25 % 2 = 0 → n % 25 < j + 2 → R n) → J (zI (j + 2)) c rc (zI t) (zI M) (zI (cR (S0 l) R)) a cx cy re st dg) :
    ∀ (N : Nat) (i : Int) (a : Nat → Int32) (S : Int → Int → Int → Bool) (R : Int → Prop) (t : Nat) (cm : Int → Int) (len : Nat → Nat) (M : Nat), i % 2 = 1 → 1 ≤ i → i ≤ 25 → (25 - i).toNat < N → WS S0 l R a S → RG (S0 l) R t cm len → LM (fun κ => κ < t) len M → M ≤ 625 → (∀ n, Bn (S0 l) n → n % 25 % 2 = 0 → (n % 25 < j ∨ (n % 25 = j ∧ n / 25 < i)) → R n) → wX_walkRings_30 post J (zI l) (zI j) N (zI i) c rc (zI t) (zI M) (zI (cR (S0 l) R)) a cx cy re st dg := by
  intro N
  induction N with
  | zero => intro i a S R t cm len M h0 h1 h2 h3; omega
  | succ N ih =>
    intro i a S R t cm len M h0 h1 h2 h3 hW hG hM hMb hE
    refine zb_le 25 i (fun h => nm_r (zi_2 j) (hJ a S R t cm len M hW hG hM hMb (fun n hb he hlt => hE n hb he ?_))) (fun h => ?_)
    · have := hb.1; omega
    · have e1 : (25 * i + j) / 25 = i := by omega
      have e2 : (25 * i + j) % 25 = j := by omega
      have gd : Gd i j := by omega
      have h6 := hW.2.2 i j gd
      have nx : ∀ R' : Int → Prop, (∀ n, R n → R' n) → (Bn (S0 l) (25 * i + j) → R' (25 * i + j)) → ∀ n, Bn (S0 l) n → n % 25 % 2 = 0 → (n % 25 < j ∨ (n % 25 = j ∧ n / 25 < i + 2)) → R' n := by
        intro R' k1 k2 n hb he hlt
        by_cases z : n = 25 * i + j
        · rw [z]; rw [z] at hb; exact k2 hb
        · refine k1 n (hE n hb he ?_)
          have o := bn_o hb
          unfold OB at o
          omega
      refine xp_has hW.1 6 i j (by omega) (by omega) (by omega) (bb_0 (fun z => nm_r (zi_2 i) ?_) (fun z => ?_))
      · refine ih (i + 2) a S R t cm len M (by omega) (by omega) (by omega) (by omega) hW hG hM hMb (nx R (fun _ h => h) (fun hb => ?_))
        rcases Classical.em (R (25 * i + j)) with y | y
        · exact y
        · have := h6.mpr ⟨by have := hb.2; rw [e1, e2] at this; exact this, y⟩
          rw [z] at this; exact absurd this (by decide)
      · have hz := h6.mp z
        have hb : Bn (S0 l) (25 * i + j) := ⟨by omega, by rw [e1, e2]; exact hz.1⟩
        refine xp_walk hl H hG gd h0 hb hz.2 hW (fun q a' S' q1 q2 ec en hW' => nm_r (zi_1 _) ?_)
        have hG' := rg_add H hG hb hz.2 q1 ec en
        have st : ∀ M' : Nat, M' = (if q ≤ M then M else q) → wX_walkRings_30 post J (zI l) (zI j) N (zI (i + 2)) c rc (zI (t + 1 : Nat)) (zI M') (zI (cR (S0 l) (fun n => R n ∨ InR (S0 l) q (25 * i + j) n))) a' cx cy re st dg := by
          intro M' eM
          refine ih (i + 2) a' S' _ (t + 1) _ _ M' (by omega) (by omega) (by omega) (by omega) hW' hG' (lm_add hM eM) (by rw [eM]; split <;> omega) (nx _ (fun _ h => Or.inl h) (fun _ => Or.inr ⟨0, by omega, rfl⟩))
        refine zb_le (q : Int) (M : Int) (fun y => nm_r (zi_2 i) (st M ?_)) (fun y => nm_r (zi_2 i) (st q ?_))
        · rw [if_pos (by omega)]
        · rw [if_neg (by omega)]
theorem xp_walks {rk : Int32} {S : Int → Int → Int → Bool} {post : SX → Prop} {l : Int} (hl : 0 ≤ l ∧ l ≤ 5) {a : Nat → Int32} (P : XP a S)
    (f : ∀ a S' t cm len M, XP a S' → (∀ s, s ≤ 5 → S' s = S s) → RGF (S l) t cm len → LM (fun κ => κ < t) len M → post (c, rc, zI t, zI M, zI (cR (S l) (Bn (S l))), a, cx, cy, re, st, dg)) : wpX_walkRings post (c, rc, gc, lr, rk, a, cx, cy, re, st, dg) (zI l) := by
  unfold wpX_walkRings
  refine xp_ba P hl (fun a1 P1 => ⟨27, ?_⟩)
  have el : ∀ s : Int, s ≤ 5 → setl S 6 (BE (S l)) s = S s := by intro s hs; unfold setl; rw [if_neg (by omega)]
  have e6 : setl S 6 (BE (S l)) 6 = BE (S l) := by unfold setl; rw [if_pos rfl]
  have H : Sup (setl S 6 (BE (S l)) l) := by rw [el l (by omega)]; exact fun i j => P.2 l i j
  have key : ∀ (N : Nat) (j : Int) (a : Nat → Int32) (S' : Int → Int → Int → Bool) (R : Int → Prop) (t : Nat) (cm : Int → Int) (len : Nat → Nat) (M : Nat), j % 2 = 0 → 0 ≤ j → j ≤ 26 → (26 - j).toNat < N → WS (setl S 6 (BE (S l))) l R a S' → RG (setl S 6 (BE (S l)) l) R t cm len → LM (fun κ => κ < t) len M → M ≤ 625 → (∀ n, Bn (setl S 6 (BE (S l)) l) n → n % 25 % 2 = 0 → n % 25 < j → R n) → wX_walkRings_22 post (zI l) N (zI j) c rc (zI t) (zI M) (zI (cR (setl S 6 (BE (S l)) l) R)) a cx cy re st dg := by
    intro N
    induction N with
    | zero => intro j a S' R t cm len M h0 h1 h2 h3; omega
    | succ N ih =>
      intro j a S' R t cm len M h0 h1 h2 h3 hW hG hM hMb hE
      refine zb_le 25 j (fun h => ?_) (fun h => ⟨27, ?_⟩)
      · have all := rg_lv H hG (fun n hb he => hE n hb he (by have := hb.1; omega))
        have eR : R = Bn (setl S 6 (BE (S l)) l) := by
          funext n; exact propext ⟨fun r => (hG.1 n r).1, all n⟩
        have hF := rg_fin hG all
        rw [eR]
        rw [el l (by omega)] at hF ⊢
        exact f a S' t cm len M hW.1 (fun s hs => by rw [hW.2.1 s (by omega), el s hs]) hF hM
      · exact ws_i hl H (by omega) h0 (fun a S' R t cm len M hW hG hM hMb hE => ih (j + 2) a S' R t cm len M (by omega) (by omega) (by omega) (by omega) hW hG hM hMb hE) 27 1 a S' R t cm len M (by omega) (by omega) (by omega) (by omega) hW hG hM hMb (fun n hb he hlt => hE n hb he (by
          have o := bn_o hb
          unfold OB at o
          have := hb.1
          omega))
  have c0 : cR (setl S 6 (BE (S l)) l) (fun _ => False) = 0 := by
    unfold cR
    refine cn_zero (fun k hk => ?_)
    rw [@decide_eq_false_iff_not _ (Classical.propDecidable _)]
    exact fun z => z.1
  have w := key 27 0 a1 (setl S 6 (BE (S l))) (fun _ => False) 0 (fun _ => 0) (fun _ => 0) 0 (by omega) (by omega) (by omega) (by omega) ⟨P1, fun _ _ => rfl, fun i j gd => by rw [e6, el l (by omega)]; exact ⟨fun h => ⟨h, fun h => h⟩, fun h => h.1⟩⟩ rg_0 ⟨fun κ h => absurd h (by omega), Or.inl rfl⟩ (by omega) (fun n hb he hlt => by have := hb.1; omega)
  rw [c0] at w
  exact w
end
