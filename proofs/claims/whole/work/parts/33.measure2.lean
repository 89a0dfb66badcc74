/-! measure: both sides -/
section
variable {c : Int32} {fi ly ma se px py la : Nat → Int32}
theorem my_bad {post : Int32 → SY → Prop} {l w : Int} (hl : Rg l) (hw : Rg w) (h : ¬ ((0 ≤ l ∧ l ≤ 5) ∧ (0 ≤ w ∧ w ≤ 8))) (f : post (-1) (c, ly, fi, ma, se, px, py, la)) : wpY_measure post (c, ly, fi, ma, se, px, py, la) (zI l) (zI w) := by
  unfold wpY_measure
  refine yg_layer l hl (fun h1 => b1_f ?_) (fun h1 => b0_t f)
  exact zb_lt w 0 (fun _ => f) (fun h0 => zb_le w 8 (fun h8 => absurd ⟨h1, h0, h8⟩ h) (fun _ => f))
theorem my_03 {post : Int32 → SY → Prop} {l w : Int} (hl : 0 ≤ l ∧ l ≤ 5) (hw : 0 ≤ w ∧ w ≤ 3) (f : ∃ N, wY_measure_77 post (zI l) (zI w) c ly fi ma se px py la N 0 0) : wpY_measure post (c, ly, fi, ma, se, px, py, la) (zI l) (zI w) := by
  unfold wpY_measure
  refine yg_layer l (by omega) (fun _ => b1_f ?_) (fun h => absurd hl h)
  exact zb_lt w 0 (fun h => absurd h (by omega)) (fun _ => zb_le w 8 (fun _ => zb_le w 5 (fun _ => zb_le w 3 (fun _ => f) (fun h => absurd h (by omega))) (fun h => absurd h (by omega))) (fun h => absurd h (by omega)))
theorem my_4 {post : Int32 → SY → Prop} {l : Int} (hl : 0 ≤ l ∧ l ≤ 5) (f : wpY_pieces (fun u => wpY_countPieces (fun r => post r u) u) (c, ly, fi, ma, se, px, py, la) (zI l) 0) : wpY_measure post (c, ly, fi, ma, se, px, py, la) (zI l) (zI 4) := by
  unfold wpY_measure
  refine yg_layer l (by omega) (fun _ => b1_f ?_) (fun h => absurd hl h)
  refine zb_lt 4 0 (fun h => absurd h (by omega)) (fun _ => zb_le 4 8 (fun _ => zb_le 4 5 (fun _ => zb_le 4 3 (fun h => absurd h (by omega)) (fun _ => zb_eq 4 5 (fun h => absurd h (by omega)) (fun _ => ?_))) (fun h => absurd h (by omega))) (fun h => absurd h (by omega)))
  unfold wY_measure_52
  have e : (fun u : SY => match u with | (f_corners_64, a_layers_65, a_filling_66, a_made_67, a_set_68, a_px_69, a_py_70, a_label_71) => ((zI 4 = 4 → (wpY_countPieces (fun r_82 => (post r_82 (f_corners_64, a_layers_65, a_filling_66, a_made_67, a_set_68, a_px_69, a_py_70, a_label_71))) (f_corners_64, a_layers_65, a_filling_66, a_made_67, a_set_68, a_px_69, a_py_70, a_label_71))) ∧ (¬ zI 4 = 4 → (wpY_countHoles (fun r_73 => (post r_73 (f_corners_64, a_layers_65, a_filling_66, a_made_67, a_set_68, a_px_69, a_py_70, a_label_71))) (f_corners_64, a_layers_65, a_filling_66, a_made_67, a_set_68, a_px_69, a_py_70, a_label_71))))) = (fun u => wpY_countPieces (fun r => post r u) u) := by
    funext u
    obtain ⟨c', ly', fi', ma', se', px', py', la'⟩ := u
    exact propext ⟨fun h => h.1 rfl, fun h => ⟨fun _ => h, fun z => absurd rfl z⟩⟩
  rw [e]; exact f
theorem my_5 {post : Int32 → SY → Prop} {l : Int} (hl : 0 ≤ l ∧ l ≤ 5) (f : wpY_pieces (fun u => wpY_countHoles (fun r => post r u) u) (c, ly, fi, ma, se, px, py, la) (zI l) 1) : wpY_measure post (c, ly, fi, ma, se, px, py, la) (zI l) (zI 5) := by
  unfold wpY_measure
  refine yg_layer l (by omega) (fun _ => b1_f ?_) (fun h => absurd hl h)
  refine zb_lt 5 0 (fun h => absurd h (by omega)) (fun _ => zb_le 5 8 (fun _ => zb_le 5 5 (fun _ => zb_le 5 3 (fun h => absurd h (by omega)) (fun _ => zb_eq 5 5 (fun _ => ?_) (fun h => absurd rfl h))) (fun h => absurd h (by omega))) (fun h => absurd h (by omega)))
  unfold wY_measure_52
  have e : (fun u : SY => match u with | (f_corners_64, a_layers_65, a_filling_66, a_made_67, a_set_68, a_px_69, a_py_70, a_label_71) => ((zI 5 = 4 → (wpY_countPieces (fun r_82 => (post r_82 (f_corners_64, a_layers_65, a_filling_66, a_made_67, a_set_68, a_px_69, a_py_70, a_label_71))) (f_corners_64, a_layers_65, a_filling_66, a_made_67, a_set_68, a_px_69, a_py_70, a_label_71))) ∧ (¬ zI 5 = 4 → (wpY_countHoles (fun r_73 => (post r_73 (f_corners_64, a_layers_65, a_filling_66, a_made_67, a_set_68, a_px_69, a_py_70, a_label_71))) (f_corners_64, a_layers_65, a_filling_66, a_made_67, a_set_68, a_px_69, a_py_70, a_label_71))))) = (fun u => wpY_countHoles (fun r => post r u) u) := by
    funext u
    obtain ⟨c', ly', fi', ma', se', px', py', la'⟩ := u
    exact propext ⟨fun h => h.2 (by decide), fun h => ⟨fun z => absurd z (by decide), fun _ => h⟩⟩
  rw [e]; exact f
theorem my_68 {post : Int32 → SY → Prop} {l w : Int} (hl : 0 ≤ l ∧ l ≤ 5) (hw : 6 ≤ w ∧ w ≤ 8) (f : wpY_rings (fun r => post r (c, ly, fi, ma, se, px, py, la)) (c, ly, fi, ma, se, px, py, la) (zI l) (zI (w - 6))) : wpY_measure post (c, ly, fi, ma, se, px, py, la) (zI l) (zI w) := by
  have e : zI w - 6 = zI (w - 6) := zi_sub w 6
  unfold wpY_measure
  refine yg_layer l (by omega) (fun _ => b1_f ?_) (fun h => absurd hl h)
  rw [e]
  exact zb_lt w 0 (fun h => absurd h (by omega)) (fun _ => zb_le w 8 (fun _ => zb_le w 5 (fun h => absurd h (by omega)) (fun _ => f)) (fun h => absurd h (by omega)))
end
theorem ms_03 {k : Nat} {rc gc lr rk : Int32} {a cx cy re st dg ly fi ma se px py la : Nat → Int32} {S : Int → Int → Int → Bool} {n : Int} {X Y : Int → Int} (P : XP a S) (Q : YP ly S) (C : CL S) (T : Pth n X Y cx cy px py) {l w : Int} (hl : 0 ≤ l ∧ l ≤ 5) (hw : 0 ≤ w ∧ w ≤ 3) (F : Int → Int → Bool) (hF : MF (S l) w = F) :
    wpY_measure (fun r' v' => r' = zI (cX F 625) ∧ i_Rel (k + 5) (zI n, rc, gc, lr, rk, a, cx, cy, re, st, dg) v') (zI n, ly, fi, ma, se, px, py, la) (zI l) (zI w) := by
  refine my_03 hl hw ⟨626, ms_77 Q P.2 hl hw ⟨?_, i_mk P Q C T⟩ 626 0 (by omega) (by omega) (by omega)⟩
  rw [hF, c_tr]
theorem i_vc_measure {k : Nat} {u : SX} {v : SY} (I : i_Rel k u v) (hk : k + 5 ≤ 2560) (v1 : Int32) (v2 : Int32) : wpX_measure (fun r u' => wpY_measure (fun r' v' => r' = r ∧ i_Rel (k + 5) u' v') v v1 v2) u v1 v2 := by
  obtain ⟨c, rc, gc, lr, rk, a, cx, cy, re, st, dg⟩ := u
  obtain ⟨c', ly, fi, ma, se, px, py, la⟩ := v
  obtain ⟨S, n, X, Y, P, Q, C, T, rfl, rfl⟩ := I
  obtain ⟨l, hl, rfl⟩ := zi_ex v1
  obtain ⟨w, hw, rfl⟩ := zi_ex v2
  have bad : ¬ ((0 ≤ l ∧ l ≤ 5) ∧ (0 ≤ w ∧ w ≤ 8)) → wpY_measure (fun r' v' => r' = -1 ∧ i_Rel (k + 5) (zI n, rc, gc, lr, rk, a, cx, cy, re, st, dg) v') (zI n, ly, fi, ma, se, px, py, la) (zI l) (zI w) :=
    fun h => my_bad hl hw h ⟨rfl, i_mk P Q C T⟩
  unfold wpX_measure
  refine xg_layer l hl (fun h1 => b1_f ?_) (fun h1 => b0_t (bad (by omega)))
  have C1 := C l h1.1 h1.2
  refine zb_lt w 0 (fun h => zb_lt w 6 (fun _ => bad (by omega)) (fun h2 => absurd h (by omega))) (fun h0 => zb_lt 5 w (fun h5 => zb_lt w 6 (fun h => absurd h (by omega)) (fun h6 => zb_le w 8 (fun h8 => ?_) (fun h8 => bad (by omega)))) (fun h5 => ?_))
  · clear bad
    refine xp_walks h1 P (fun a' S' t cm len M P' e' hF hM => ?_)
    have R2 : ∀ gc' lr' rk' : Int32, i_Rel (k + 5) (zI n, rc, gc', lr', rk', a', cx, cy, re, st, dg) (zI n, ly, fi, ma, se, px, py, la) := fun _ _ _ => i_mk P' (yp_c Q e') (cl_c C e') T
    have ecr : cR (S l) (Bn (S l)) = cnt (tuB (S l)) 625 := rfl
    refine zb_eq w 6 (fun q => ?_) (fun q => zb_eq w 7 (fun q2 => ?_) (fun q2 => ?_))
    · refine my_68 h1 (by omega) (yp_rings Q P.2 h1 C1 (by omega) hF (fun M' hM' => ⟨?_, R2 _ _ _⟩))
      rw [if_pos (by omega)]
    · refine my_68 h1 (by omega) (yp_rings Q P.2 h1 C1 (by omega) hF (fun M' hM' => ⟨?_, R2 _ _ _⟩))
      rw [if_neg (by omega), if_pos (by omega), lm_u hM' hM]
    · refine my_68 h1 (by omega) (yp_rings Q P.2 h1 C1 (by omega) hF (fun M' hM' => ⟨?_, R2 _ _ _⟩))
      rw [if_neg (by omega), if_neg (by omega), ecr]
  · clear bad
    refine zb_eq w 0 (fun q => ?_) (fun q0 => zb_eq w 1 (fun q => ?_) (fun q1 => zb_eq w 2 (fun q => ?_) (fun q2 => zb_eq w 3 (fun q => ?_) (fun q3 => zb_eq w 4 (fun q => ?_) (fun q4 => zb_eq w 5 (fun q => ?_) (fun q5 => trivial))))))
    · refine xp_cp (dm := 2) (pt := 0) P (by omega) (by omega) (by omega) (ms_03 P Q C T h1 (by omega) _ ?_)
      subst q; rfl
    · refine xp_cl P (by omega) (ms_03 P Q C T h1 (by omega) _ ?_)
      subst q; rfl
    · refine xp_cp (dm := 1) (pt := 1) P (by omega) (by omega) (by omega) (ms_03 P Q C T h1 (by omega) _ ?_)
      subst q; rfl
    · refine xp_cp (dm := 0) (pt := 1) P (by omega) (by omega) (by omega) (ms_03 P Q C T h1 (by omega) _ ?_)
      subst q; rfl
    · subst q
      refine xp_pieces P h1 (fun rc' a' re' st' S' t cm hl' P' e' hF => my_4 h1 ?_)
      refine yp_pieces (cm := cm) Q true h1 C1 (cp_inv hF) (fun la2 L A G K X2 => yp_cpc A ⟨?_, i_mk P' (yp_c Q e') (cl_c C e') T⟩)
      rw [(cp_eq hF A G K X2).1]
    · subst q
      refine xp_holes P h1 (fun rc' a' re' st' S' t cm hl' P' e' hF => my_5 h1 ?_)
      refine yp_pieces (cm := cm) Q false h1 C1 (cp_inv hF) (fun la2 L A G K X2 => yp_chl A ⟨?_, i_mk P' (yp_c Q e') (cl_c C e') T⟩)
      rw [(cp_eq hF A G K X2).2]
