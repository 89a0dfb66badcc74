/-! Y: rings -/
def mi (g : Int → Int → Bool) (cm : Int → Int) (n : Int) : Prop := Bn g n ∧ ∀ m, Bn g m → cm m = cm n → n ≤ m
noncomputable def miB (g : Int → Int → Bool) (cm : Int → Int) (n : Nat) : Bool := @decide (mi g cm n) (Classical.propDecidable _)
noncomputable def tuB (g : Int → Int → Bool) (n : Nat) : Bool := @decide (Bn g n ∧ eN g n ≠ dN g n) (Classical.propDecidable _)
theorem mib_t {g : Int → Int → Bool} {cm : Int → Int} {n : Nat} (h : mi g cm n) : miB g cm n = true := by unfold miB; exact (@decide_eq_true_iff _ (Classical.propDecidable _)).mpr h
theorem mib_f {g : Int → Int → Bool} {cm : Int → Int} {n : Nat} (h : ¬ mi g cm n) : miB g cm n = false := by unfold miB; exact (@decide_eq_false_iff_not _ (Classical.propDecidable _)).mpr h
theorem mib_i {g : Int → Int → Bool} {cm : Int → Int} {n : Nat} (h : miB g cm n = true) : mi g cm n := by unfold miB at h; exact (@decide_eq_true_iff _ (Classical.propDecidable _)).mp h
theorem tub_t {g : Int → Int → Bool} {n : Nat} (h : Bn g n ∧ eN g n ≠ dN g n) : tuB g n = true := by unfold tuB; exact (@decide_eq_true_iff _ (Classical.propDecidable _)).mpr h
theorem tub_f {g : Int → Int → Bool} {n : Nat} (h : ¬ (Bn g n ∧ eN g n ≠ dN g n)) : tuB g n = false := by unfold tuB; exact (@decide_eq_false_iff_not _ (Classical.propDecidable _)).mpr h
theorem lst (Pq : Nat → Prop) : ∀ N k, k < N → Pq k → ∃ m, Pq m ∧ ∀ j, j < m → ¬ Pq j := by
  intro N
  induction N with
  | zero => intro k h; omega
  | succ N ih =>
    intro k hk hp
    rcases Classical.em (∃ j, j < k ∧ Pq j) with ⟨j, hj, hpj⟩ | h
    · exact ih j (by omega) hpj
    · exact ⟨k, hp, fun j hj hpj => h ⟨j, hj, hpj⟩⟩
theorem mi_ex {g : Int → Int → Bool} {t : Nat} {cm : Int → Int} {len : Nat → Nat} (P : RGF g t cm len) {κ : Nat} (h : κ < t) : ∃ n : Nat, n < 625 ∧ mi g cm n ∧ cm n = κ := by
  obtain ⟨n0, b0, c0⟩ := P.2.2.2.2.1 κ h
  have r0 := b0.1
  have e0 : ((n0.toNat : Nat) : Int) = n0 := by omega
  obtain ⟨m, ⟨b, hc⟩, hm⟩ := lst (fun k => Bn g (k : Int) ∧ cm (k : Int) = κ) (n0.toNat + 1) n0.toNat (by omega) (by rw [e0]; exact ⟨b0, c0⟩)
  refine ⟨m, by have := b.1; omega, ⟨b, fun m' b' hc' => ?_⟩, hc⟩
  have r' := b'.1
  rcases Classical.em ((m : Int) ≤ m') with z | z
  · exact z
  · exfalso
    have e' : ((m'.toNat : Nat) : Int) = m' := by omega
    exact hm m'.toNat (by omega) (by rw [e']; exact ⟨b', by rw [hc', hc]⟩)
theorem mi_cnt {g : Int → Int → Bool} {t : Nat} {cm : Int → Int} {len : Nat → Nat} (P : RGF g t cm len) : cnt (miB g cm) 625 = t := by
  obtain ⟨r, hr⟩ := co_f (t := t) (Pq := fun κ n => (0 ≤ n ∧ n ≤ 624) ∧ mi g cm n ∧ cm n = κ) (fun κ hκ => by
    obtain ⟨n, h1, h2, h3⟩ := mi_ex P hκ
    exact ⟨n, by omega, h2, h3⟩)
  have e : cnt (miB g cm) 625 = cnt (fun _ => true) t := by
    refine cn_bij (P := fun _ => true) (N := 625) (fun _ => true) (fun κ => (r κ).toNat) t _ (fun κ h _ => ?_) (fun κ κ' h h' _ _ he => ?_) (fun n hn hp => ?_)
    · obtain ⟨a1, a2, a3⟩ := hr κ h
      refine ⟨by show (r κ).toNat < 625; omega, ?_⟩
      show miB g cm (r κ).toNat = true
      refine mib_t ?_
      have : (((r κ).toNat : Nat) : Int) = r κ := by omega
      rw [this]; exact a2
    · obtain ⟨a1, a2, a3⟩ := hr κ h
      obtain ⟨b1, b2, b3⟩ := hr κ' h'
      have he' : (r κ).toNat = (r κ').toNat := he
      have : r κ = r κ' := by omega
      rw [this, b3] at a3; omega
    · have hm := mib_i hp
      obtain ⟨-, c0, c1⟩ := P.1 n hm.1
      obtain ⟨a1, a2, a3⟩ := hr (cm n).toNat (by omega)
      refine ⟨(cm n).toNat, by omega, rfl, ?_⟩
      show (r (cm n).toNat).toNat = n
      have k1 := a2.2 n hm.1 (by rw [a3]; omega)
      have k2 := hm.2 (r (cm n).toNat) a2.1 (by rw [a3]; omega)
      omega
  rw [e]
  have h1 := cn_le (fun _ => true) t
  have h2 : t ≤ cnt (fun _ => true) t := cn_full.mpr (fun _ _ => rfl)
  omega
theorem lm_a {K K' : Nat → Prop} {len : Nat → Nat} {M M' κ0 : Nat} (h : LM K len M) (hM : M' = if len κ0 ≤ M then M else len κ0) (hK : ∀ κ, K' κ ↔ K κ ∨ κ = κ0) : LM K' len M' := by
  refine ⟨fun κ hκ => ?_, ?_⟩
  · rcases (hK κ).mp hκ with z | z
    · have := h.1 κ z; rw [hM]; split <;> omega
    · rw [z, hM]; split <;> omega
  · by_cases e : len κ0 ≤ M
    · rw [if_pos e] at hM
      rcases h.2 with z | ⟨κ, k1, k2⟩
      · exact Or.inl (by omega)
      · exact Or.inr ⟨κ, (hK κ).mpr (Or.inl k1), by omega⟩
    · rw [if_neg e] at hM
      exact Or.inr ⟨κ0, (hK κ0).mpr (Or.inr rfl), by omega⟩
theorem lm_c {K K' : Nat → Prop} {len : Nat → Nat} {M : Nat} (h : LM K len M) (hK : ∀ κ, K' κ ↔ K κ) : LM K' len M := by
  have : K' = K := by funext κ; exact propext (hK κ)
  rw [this]; exact h
section
variable {c : Int32} {fi ly ma se px py la : Nat → Int32} {S : Int → Int → Int → Bool}
theorem ri_95 {post : Int32 → Prop} {J : Int32 → Int32 → Int32 → Int32 → Prop} (Q : YP ly S) (H : HS S) {l w n x3 x4 x5 : Int} (hl : 0 ≤ l ∧ l ≤ 5) (C : clo (S l)) (hb : Bn (S l) n)
    (f : J (zI x3) (zI x4) (zI (x5 + bZ (tuB (S l) n.toNat))) (zI (n + 1))) : wY_rings_95 post J (zI l) (zI w) (zI x3) (zI x4) (zI x5) (zI n) (zI (dN (S l) n + 1)) c ly fi ma se px py la := by
  have Hl : Sup (S l) := fun i j => H l i j
  have en : ((n.toNat : Nat) : Int) = n := by have := hb.1; omega
  obtain ⟨fb, f1, f2, f3⟩ := fn_b Hl hb
  have fo := bn_o fb
  have r1 := ob_r (bn_o hb)
  have r2 := ob_r fo
  have ey : dY (S l) (fN (S l) n / 25) (fN (S l) n % 25) = eN (S l) n + 1 := by
    rw [← f3]; exact (yd_i Hl r2.1).mpr fo
  rw [f3] at r2
  unfold wY_rings_95
  refine yp_fol Q H hl C hb ⟨by decide, by decide, ?_⟩
  rw [zi_r25 (by have := fb.1; omega), zi_d25 (by have := fb.1; omega)]
  refine yp_dir Q H hl C (by have := fb.1; omega) ?_
  rw [ey]
  refine zb_eq (eN (S l) n + 1) (dN (S l) n + 1) (fun q => nm_r (zi_1 n) ?_) (fun q => nm_r (zi_1 x5) (nm_r (zi_1 n) ?_))
  · rw [tub_f (by rw [en]; exact fun z => z.2 (by omega))] at f
    simpa [bZ] using f
  · rw [tub_t (by rw [en]; exact ⟨hb, by omega⟩)] at f
    exact f
theorem ri_48 {post : Int32 → Prop} {J : Int32 → Int32 → Int32 → Int32 → Prop} (Q : YP ly S) (H : HS S) {l w n : Int} {x3 M : Nat} {x5 : Int} (hl : 0 ≤ l ∧ l ≤ 5) (C : clo (S l)) (hb : Bn (S l) n) {t : Nat} {cm : Int → Int} {len : Nat → Nat} (P : RGF (S l) t cm len) (hM : M ≤ 1000)
    (f1 : mi (S l) cm n → J (zI (x3 + 1 : Nat)) (zI (if len (cm n).toNat ≤ M then M else len (cm n).toNat : Nat)) (zI (x5 + bZ (tuB (S l) n.toNat))) (zI (n + 1)))
    (f2 : ¬ mi (S l) cm n → J (zI x3) (zI M) (zI (x5 + bZ (tuB (S l) n.toNat))) (zI (n + 1))) :
    ∀ (N q : Nat), q < len (cm n).toNat → 625 - q < N → (∀ s, 0 < s → s ≤ q → n < itf (S l) s n) → wY_rings_48 post J (zI l) (zI w) (zI x3) (zI M) (zI x5) (zI n) (zI (dN (S l) n + 1)) c ly fi ma se px py la N (zI q) (zI (itf (S l) q n)) := by
  have Hl : Sup (S l) := fun i j => H l i j
  obtain ⟨p1, p2, p3⟩ := P.2.2.2.2.2 n hb
  have pl := it_len Hl hb p3
  have hn := hb.1
  intro N
  induction N with
  | zero => intro q h1 h2; omega
  | succ N ih =>
    intro q h1 h2 hs
    have bq := it_b Hl hb q
    have b1 := it_b Hl hb (q + 1)
    have rq := b1.1
    have e1 : fN (S l) (itf (S l) q n) = itf (S l) (q + 1) n := rfl
    refine yp_fol Q H hl C bq ?_
    rw [e1]
    refine nm_r (zi_1 _) (zb_lt n (itf (S l) (q + 1) n) (fun y => ?_) (fun y => zb_eq (itf (S l) (q + 1) n) n (fun y2 => nm_r (zi_1 _) ?_) (fun y2 => ?_)))
    · have hlt : q + 1 < len (cm n).toNat := by
        rcases Nat.lt_or_ge (q + 1) (len (cm n).toNat) with z | z
        · exact z
        · have : q + 1 = len (cm n).toNat := by omega
          rw [this, p2] at y; omega
      refine ih (q + 1) hlt (by omega) (fun s s0 s1 => ?_)
      by_cases e : s = q + 1
      · rw [e]; exact y
      · exact hs s s0 (by omega)
    · have ep : q + 1 = len (cm n).toNat := by
        rcases Nat.lt_or_ge (q + 1) (len (cm n).toNat) with z | z
        · exact absurd y2 (p3 (q + 1) (by omega) z)
        · omega
      have hm : mi (S l) cm n := by
        refine ⟨hb, fun m bm hc => ?_⟩
        obtain ⟨r, hr⟩ := P.2.2.2.1 n m hb bm hc.symm
        obtain ⟨r', hr1, hr2⟩ := it_m p1 p2 (r + 1) r (by omega)
        rw [hr] at hr2
        by_cases z : r' = 0
        · rw [z] at hr2; have : m = n := hr2; omega
        · have := hs r' (by omega) (by omega)
          rw [hr2]; omega
      have ff := f1 hm
      unfold wY_rings_77
      refine zb_eq (itf (S l) (q + 1) n) n (fun _ => ?_) (fun z => absurd y2 z)
      have e4 : ((q : Int) + 1) = ((len (cm n).toNat : Nat) : Int) := by omega
      rw [e4]
      refine zb_le ((len (cm n).toNat : Nat) : Int) (M : Int) (fun z => ri_95 Q H hl C hb ?_) (fun z => ri_95 Q H hl C hb ?_)
      · rw [if_pos (by omega)] at ff; exact ff
      · rw [if_neg (by omega)] at ff; exact ff
    · have hm : ¬ mi (S l) cm n := by
        intro hm
        have hc : cm (itf (S l) (q + 1) n) = cm n := by
          have : ∀ s, cm (itf (S l) s n) = cm n := by
            intro s
            induction s with
            | zero => rfl
            | succ s ihs => exact ((P.2.1 _ (it_b Hl hb s)).2).trans ihs
          exact this (q + 1)
        have := hm.2 _ b1 hc
        omega
      unfold wY_rings_77
      exact zb_eq (itf (S l) (q + 1) n) n (fun z => absurd z y2) (fun _ => ri_95 Q H hl C hb (f2 hm))
theorem ri_11 {post : Int32 → Prop} (Q : YP ly S) (H : HS S) {l w : Int} (hl : 0 ≤ l ∧ l ≤ 5) (C : clo (S l)) (hw : 0 ≤ w ∧ w ≤ 2) {t : Nat} {cm : Int → Int} {len : Nat → Nat} (P : RGF (S l) t cm len)
    (f : ∀ M : Nat, LM (fun κ => κ < t) len M → post (zI (if w = 0 then (t : Int) else if w = 1 then (M : Int) else ((cnt (tuB (S l)) 625 : Nat) : Int)))) :
    ∀ (N n : Nat) (M : Nat), n ≤ 625 → 625 - n < N → M ≤ 1000 → LM (fun κ => ∃ k : Nat, k < n ∧ mi (S l) cm k ∧ (cm k).toNat = κ) len M → wY_rings_11 post (zI l) (zI w) c ly fi ma se px py la N (zI (cnt (miB (S l) cm) n)) (zI M) (zI (cnt (tuB (S l)) n)) (zI n) := by
  have Hl : Sup (S l) := fun i j => H l i j
  intro N
  induction N with
  | zero => intro n M h0 h1; omega
  | succ N ih =>
    intro n M h0 h1 hMb hM
    refine zb_le 625 (n : Int) (fun h => ?_) (fun h => ⟨by decide, by decide, ?_⟩)
    · have en : n = 625 := by omega
      subst en
      have hM2 : LM (fun κ => κ < t) len M := by
        refine lm_c hM (fun κ => ⟨fun hκ => ?_, fun ⟨k, k1, k2, k3⟩ => ?_⟩)
        · obtain ⟨m, m1, m2, m3⟩ := mi_ex P hκ
          exact ⟨m, m1, m2, by omega⟩
        · have := P.1 k k2.1; omega
      have ff := f M hM2
      rw [mi_cnt P]
      refine zb_eq w 0 (fun q => ?_) (fun q => zb_eq w 1 (fun q2 => ?_) (fun q2 => ?_))
      · rw [if_pos q] at ff; exact ff
      · rw [if_neg q, if_pos q2] at ff; exact ff
      · rw [if_neg q, if_neg q2] at ff; exact ff
    · have et : ((n : Int)).toNat = n := Int.toNat_natCast n
      have dr := yd_r (S l) ((n : Int) / 25) ((n : Int) % 25)
      have emi : cnt (miB (S l) cm) (n + 1) = cnt (miB (S l) cm) n + bN (miB (S l) cm n) := cn_s _ _
      have etu : cnt (tuB (S l)) (n + 1) = cnt (tuB (S l)) n + bN (tuB (S l) n) := cn_s _ _
      have etz : (((cnt (tuB (S l)) n + bN (tuB (S l) n) : Nat)) : Int) = (cnt (tuB (S l)) n : Int) + bZ (tuB (S l) n) := by
        cases tuB (S l) n <;> simp [bN, bZ]
      rw [zi_r25 (by omega), zi_d25 (by omega)]
      refine yp_dir Q H hl C (by omega) (zb_eq (dY (S l) ((n : Int) / 25) ((n : Int) % 25)) 0 (fun q => nm_r (zi_1 _) ?_) (fun q => ?_))
      · have nb : ¬ Bn (S l) n := by
          intro hb
          unfold dY at q
          have := yd_q (S l) ((n : Int) / 25) ((n : Int) % 25)
          rw [if_pos hb.2] at q; omega
        have w1 := ih (n + 1) M (by omega) (by omega) hMb (lm_c hM (fun κ => ⟨fun ⟨k, k1, k2, k3⟩ => ⟨k, by
          rcases Nat.lt_or_ge k n with z | z
          · exact z
          · exfalso
            have : k = n := by omega
            rw [this] at k2; exact nb k2.1, k2, k3⟩, fun ⟨k, k1, k2, k3⟩ => ⟨k, by omega, k2, k3⟩⟩))
        rw [emi, etu, mib_f (fun z => nb z.1), tub_f (fun z => nb z.1)] at w1
        exact w1
      · have hb : Bn (S l) n := by
          refine ⟨by omega, ?_⟩
          rcases Classical.em (BE (S l) ((n : Int) / 25) ((n : Int) % 25) = true) with z | z
          · exact z
          · unfold dY at q; rw [if_neg z] at q; exact absurd rfl q
        have ed : dY (S l) ((n : Int) / 25) ((n : Int) % 25) = dN (S l) n + 1 := (yd_i Hl (ob_r (bn_o hb)).1).mpr (bn_o hb)
        rw [ed]
        obtain ⟨p1, p2, p3⟩ := P.2.2.2.2.2 n hb
        have pl := it_len Hl hb p3
        refine ⟨627, ri_48 Q H hl C hb P hMb (fun hm => ?_) (fun hm => ?_) 627 0 (by omega) (by omega) (fun s s0 s1 => absurd s1 (by omega))⟩
        · have w1 := ih (n + 1) (if len (cm n).toNat ≤ M then M else len (cm n).toNat) (by omega) (by omega) (by split <;> omega) (lm_a (κ0 := (cm n).toNat) hM rfl (fun κ => ⟨fun ⟨k, k1, k2, k3⟩ => ?_, fun hh => ?_⟩))
          · rw [emi, etu, mib_t hm, etz] at w1
            rw [et]; exact w1
          · rcases Nat.lt_or_ge k n with z | z
            · exact Or.inl ⟨k, z, k2, k3⟩
            · have : k = n := by omega
              rw [this] at k3; exact Or.inr k3.symm
          · rcases hh with ⟨k, k1, k2, k3⟩ | hh
            · exact ⟨k, by omega, k2, k3⟩
            · exact ⟨n, by omega, hm, hh.symm⟩
        · have w1 := ih (n + 1) M (by omega) (by omega) hMb (lm_c hM (fun κ => ⟨fun ⟨k, k1, k2, k3⟩ => ⟨k, by
            rcases Nat.lt_or_ge k n with z | z
            · exact z
            · exfalso
              have : k = n := by omega
              rw [this] at k2; exact hm k2, k2, k3⟩, fun ⟨k, k1, k2, k3⟩ => ⟨k, by omega, k2, k3⟩⟩))
          rw [emi, etu, mib_f hm, etz] at w1
          rw [et]; exact w1
theorem yp_rings {post : Int32 → Prop} (Q : YP ly S) (H : HS S) {l w : Int} (hl : 0 ≤ l ∧ l ≤ 5) (C : clo (S l)) (hw : 0 ≤ w ∧ w ≤ 2) {t : Nat} {cm : Int → Int} {len : Nat → Nat} (P : RGF (S l) t cm len)
    (f : ∀ M : Nat, LM (fun κ => κ < t) len M → post (zI (if w = 0 then (t : Int) else if w = 1 then (M : Int) else ((cnt (tuB (S l)) 625 : Nat) : Int)))) : wpY_rings post (c, ly, fi, ma, se, px, py, la) (zI l) (zI w) := by
  unfold wpY_rings
  exact ⟨627, ri_11 Q H hl C hw P f 627 0 0 (by omega) (by omega) (by omega) ⟨fun κ ⟨k, k1, _⟩ => absurd k1 (by omega), Or.inl rfl⟩⟩
end
