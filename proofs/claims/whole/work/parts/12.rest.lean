/-! cut, kind, next, size, copies, nodes -/
section EFT
variable {sv : Int32} {kd iy nm sk si sn dt us pr cx sp sc cy sy no hy : Nat → Int32} {pa cp spa scp hn : Nat → Nat}
/-! A: cut -/
theorem ef_cut (k : Nat) (S : ef_St kd iy nm pa cp) (T : ef_St sk si sn spa scp) (H : ∀ j, j < 4 → hn j ≤ 16) (v1 v2 : Int32) : ∃ r u' v',
    (∀ post : Int32 → SX → Prop, post r u' → wpX_cut post (sv, kd, ef_X 16 pa, nm, ef_X 24 cp, sk, ef_X 16 spa, sn, ef_X 24 scp, dt, ef_X 16 hn) v1 v2) ∧
    (∀ post : Int32 → SY → Prop, post r v' → wpY_cut post (sv, kd, iy, nm, ef_Y cp, sk, si, sn, ef_Y scp, dt, us, ef_Y hn) v1 v2) ∧ i_Rel k u' v' := by
  by_cases D : ∃ j, j < 4 ∧ v1 = nI j
  · obtain ⟨d, d4, rfl⟩ := D
    have vd := vp_in_nI (n := d) (N := 4) d4 (by decide)
    have Hd := H d d4
    by_cases C : ∃ j, j < 8 ∧ v2 = nI j
    · obtain ⟨b, hb, rfl⟩ := C
      have b0 : ¬ nI b < 0 := nI_pos (by omega)
      have b8 : nI b < (8 : Int32) := nI_lt (b := 8) hb (by decide)
      by_cases e : hn d = 16
      · exact ⟨-3, _, _, fun post h => by unfold wpX_cut; exact ef_xH1 d4 (br_f (by decide) (br_f b0 (br_t b8 (ef_xFFa d4 e (br_f (by decide) h))))),
          fun post h => by unfold wpY_cut; exact ef_yH1 d4 (br_f (by decide) (ef_yR1 7 rfl (by decide) (by omega) (ef_yWa d4 e (br_f (by decide) h)))), ef_mk S T H⟩
      · have ed : hn d < 16 := by omega
        by_cases g : kd (hn d) = 2
        · exact ⟨nI (ef_cn (fun j => b ≤ j ∧ cp (8 * hn d + j) ≠ 24) 8), _, _, fun post h => by unfold wpX_cut; exact ef_xH1 d4 (br_f (by decide) (br_f b0 (br_t b8 (ef_xFFc d4 ed g (br_t rfl ⟨vd, by rw [ef_nXh d4 e]; exact ef_xDB ed (by omega) S.2.2.2.2.2.1 h⟩))))),
            fun post h => by unfold wpY_cut; exact ef_yH1 d4 (br_f (by decide) (ef_yR1 7 rfl (by decide) (by omega) (ef_yWc d4 ed g (br_t rfl (ef_yC39' d4 ed rfl (by omega) S.2.2.2.2.2.1 h))))), ef_mk (ef_St_cut S) T H⟩
        · exact ⟨-4, _, _, fun post h => by unfold wpX_cut; exact ef_xH1 d4 (br_f (by decide) (br_f b0 (br_t b8 (ef_xFFb d4 ed g (br_f (by decide) h))))),
            fun post h => by unfold wpY_cut; exact ef_yH1 d4 (br_f (by decide) (ef_yR1 7 rfl (by decide) (by omega) (ef_yWb d4 ed g (br_f (by decide) h)))), ef_mk S T H⟩
    · refine ⟨-1, _, _, fun post h => ?_, fun post h => by unfold wpY_cut; exact ef_yH1 d4 (br_f (by decide) (ef_yR0 7 rfl C h)), ef_mk S T H⟩
      unfold wpX_cut
      refine ef_xH1 d4 (br_f (by decide) ?_)
      by_cases c0 : v2 < 0
      · exact br_t c0 h
      · obtain ⟨m, h1, h2, em⟩ := ef_out C c0
        exact br_f c0 (br_f (by rw [em]; exact nI_nlt (b := 8) h1 h2) h)
  · exact ⟨-1, _, _, fun post h => by unfold wpX_cut; exact ef_xH0 D (br_t rfl h), fun post h => by unfold wpY_cut; exact ef_yH0 D (br_t rfl h), ef_mk S T H⟩
theorem i_vc_cut {k : Nat} {u : SX} {v : SY} (I : i_Rel k u v) (hk : k + 5 ≤ 2560) (v1 : Int32) (v2 : Int32) : wpX_cut (fun r u' => wpY_cut (fun r' v' => r' = r ∧ i_Rel (k + 5) u' v') v v1 v2) u v1 v2 := by
  obtain ⟨sv, kd, iy, nm, sk, si, sn, dt, us, pa, cp, spa, scp, hn, rfl, rfl, S, T, H⟩ := I
  obtain ⟨r, u', v', hX, hY, R⟩ := ef_cut (sv := sv) (dt := dt) (us := us) (k + 5) S T H v1 v2
  exact hX _ (hY _ ⟨rfl, R⟩)
/-! B: kind -/
theorem ef_kind (H : ∀ j, j < 4 → hn j ≤ 16) (v1 : Int32) : ∃ r,
    (∀ post : Int32 → Prop, post r → wpX_kind post (sv, kd, pr, nm, cx, sk, sp, sn, sc, dt, ef_X 16 hn) v1) ∧ (∀ post : Int32 → Prop, post r → wpY_kind post (sv, kd, iy, nm, cy, sk, si, sn, sy, dt, us, ef_Y hn) v1) := by
  by_cases D : ∃ j, j < 4 ∧ v1 = nI j
  · obtain ⟨d, d4, rfl⟩ := D
    have vd := vp_in_nI (n := d) (N := 4) d4 (by decide)
    have Hd := H d d4
    by_cases e : hn d = 16
    · exact ⟨0, fun post h => by unfold wpX_kind; exact ef_xH1 d4 (br_f (by decide) ⟨vd, nm_r (ef_nX16 d4 e) (br_t rfl h)⟩),
        fun post h => by unfold wpY_kind; exact ef_yH1 d4 (br_f (by decide) ⟨vd, br_t (ef_nY16 d4 e) h⟩)⟩
    · have ed : hn d < 16 := by omega
      have vh := vp_in_nI (n := hn d) (N := 16) ed (by decide)
      have ch := ef_cl ed (by omega)
      exact ⟨kd (hn d), fun post h => by unfold wpX_kind; exact ef_xH1 d4 (br_f (by decide) ⟨vd, nm_r (ef_nXh d4 e) (br_f (ef_nn1 (by omega)) ⟨vh, by rw [ch]; exact h⟩)⟩),
        fun post h => by unfold wpY_kind; exact ef_yH1 d4 (br_f (by decide) ⟨vd, br_f (ef_nY0 d4 ed) ⟨vd, by rw [ef_nYh d4]; exact ⟨vh, by rw [ch]; exact h⟩⟩⟩)⟩
  · exact ⟨-1, fun post h => by unfold wpX_kind; exact ef_xH0 D (br_t rfl h), fun post h => by unfold wpY_kind; exact ef_yH0 D (br_t rfl h)⟩
theorem i_vc_kind {k : Nat} {u : SX} {v : SY} (I : i_Rel k u v) (hk : k + 5 ≤ 2560) (v1 : Int32) : wpX_kind (fun r => wpY_kind (fun r' => r' = r ∧ i_Rel (k + 5) u v) v v1) u v1 := by
  have R : i_Rel (k + 5) u v := i_up I
  obtain ⟨sv, kd, iy, nm, sk, si, sn, dt, us, pa, cp, spa, scp, hn, rfl, rfl, S, T, H⟩ := I
  obtain ⟨r, hX, hY⟩ := ef_kind (sv := sv) (kd := kd) (iy := iy) (nm := nm) (sk := sk) (si := si) (sn := sn) (dt := dt) (us := us) (pr := ef_X 16 pa) (cx := ef_X 24 cp) (sp := ef_X 16 spa) (sc := ef_X 24 scp) (cy := ef_Y cp) (sy := ef_Y scp) H v1
  exact hX _ (hY _ ⟨rfl, R⟩)
/-! C: next -/
theorem ef_next (S : ef_St kd iy nm pa cp) (H : ∀ j, j < 4 → hn j ≤ 16) (v1 v2 : Int32) : ∃ r,
    (∀ post : Int32 → Prop, post r → wpX_next post (sv, kd, ef_X 16 pa, nm, cx, sk, sp, sn, sc, dt, ef_X 16 hn) v1 v2) ∧ (∀ post : Int32 → Prop, post r → wpY_next post (sv, kd, iy, nm, cy, sk, si, sn, sy, dt, us, ef_Y hn) v1 v2) := by
  by_cases D : ∃ j, j < 4 ∧ v1 = nI j
  · obtain ⟨d, d4, rfl⟩ := D
    have vd := vp_in_nI (n := d) (N := 4) d4 (by decide)
    have Hd := H d d4
    by_cases e : hn d = 16
    · exact ⟨-3, fun post h => by unfold wpX_next; exact ef_xH1 d4 (br_f (by decide) (ef_xDFa d4 e (br_f (by decide) h))),
        fun post h => by unfold wpY_next; exact ef_yH1 d4 (br_f (by decide) (ef_yWa d4 e (br_f (by decide) h)))⟩
    · have ed : hn d < 16 := by omega
      by_cases g : kd (hn d) = 1
      · have hm : ∀ j, j < 16 → (nm j).toNatClampNeg < 100 ∧ nm j = nI ((nm j).toNatClampNeg) := by
          intro j hj
          obtain ⟨q, hq, eq⟩ := S.2.2.1 j hj
          rw [eq, nI_clamp (by omega)]
          exact ⟨hq, rfl⟩
        exact ⟨ef_e3 (ef_nx (fun j => pa j = hn d ∧ ¬ nm j ≤ v2) (fun j => (nm j).toNatClampNeg) 16), fun post h => by unfold wpX_next; exact ef_xH1 d4 (br_f (by decide) (ef_xDFc d4 ed g (br_t rfl ⟨vd, nm_r (ef_nXh d4 e) (ef_xNx (fun j hj => ef_St_pa S hj) ed hm h)⟩))),
          fun post h => by unfold wpY_next; exact ef_yH1 d4 (br_f (by decide) (ef_yWc d4 ed g (br_t rfl (ef_yNx d4 rfl (fun j hj => ef_St_pos S hj) (fun j j1 j2 => ef_St_ent S j2 ed j1) (ef_St_top S ed) hm h))))⟩
      · exact ⟨-4, fun post h => by unfold wpX_next; exact ef_xH1 d4 (br_f (by decide) (ef_xDFb d4 ed g (br_f (by decide) h))),
          fun post h => by unfold wpY_next; exact ef_yH1 d4 (br_f (by decide) (ef_yWb d4 ed g (br_f (by decide) h)))⟩
  · exact ⟨-1, fun post h => by unfold wpX_next; exact ef_xH0 D (br_t rfl h), fun post h => by unfold wpY_next; exact ef_yH0 D (br_t rfl h)⟩
theorem i_vc_next {k : Nat} {u : SX} {v : SY} (I : i_Rel k u v) (hk : k + 5 ≤ 2560) (v1 : Int32) (v2 : Int32) : wpX_next (fun r => wpY_next (fun r' => r' = r ∧ i_Rel (k + 5) u v) v v1 v2) u v1 v2 := by
  have R : i_Rel (k + 5) u v := i_up I
  obtain ⟨sv, kd, iy, nm, sk, si, sn, dt, us, pa, cp, spa, scp, hn, rfl, rfl, S, T, H⟩ := I
  obtain ⟨r, hX, hY⟩ := ef_next (sv := sv) (sk := sk) (si := si) (sn := sn) (dt := dt) (us := us) (cx := ef_X 24 cp) (sp := ef_X 16 spa) (sc := ef_X 24 scp) (cy := ef_Y cp) (sy := ef_Y scp) S H v1 v2
  exact hX _ (hY _ ⟨rfl, R⟩)
/-! D: size -/
theorem ef_size (S : ef_St kd iy nm pa cp) (H : ∀ j, j < 4 → hn j ≤ 16) (v1 : Int32) : ∃ r,
    (∀ post : Int32 → Prop, post r → wpX_size post (sv, kd, ef_X 16 pa, nm, ef_X 24 cp, sk, sp, sn, sc, dt, ef_X 16 hn) v1) ∧ (∀ post : Int32 → Prop, post r → wpY_size post (sv, kd, iy, nm, ef_Y cp, sk, si, sn, sy, dt, us, ef_Y hn) v1) := by
  by_cases D : ∃ j, j < 4 ∧ v1 = nI j
  · obtain ⟨d, d4, rfl⟩ := D
    have vd := vp_in_nI (n := d) (N := 4) d4 (by decide)
    have Hd := H d d4
    by_cases e : hn d = 16
    · exact ⟨0, fun post h => by unfold wpX_size; exact ef_xH1 d4 (br_f (by decide) ⟨vd, nm_r (ef_nX16 d4 e) (br_t rfl h)⟩),
        fun post h => by unfold wpY_size; exact ef_yH1 d4 (br_f (by decide) ⟨vd, br_t (ef_nY16 d4 e) h⟩)⟩
    · have ed : hn d < 16 := by omega
      have vh := vp_in_nI (n := hn d) (N := 16) ed (by decide)
      have ch := ef_cl ed (by omega)
      by_cases g : kd (hn d) = 1
      · exact ⟨nI (ef_cn (fun j => pa j = hn d) 16), fun post h => by unfold wpX_size; exact ef_xH1 d4 (br_f (by decide) ⟨vd, nm_r (ef_nXh d4 e) (br_f (ef_nn1 (by omega)) ⟨vh, br_t (by rw [ch]; exact g) (ef_xCE (fun j hj => ef_St_pa S hj) ed h)⟩)⟩),
          fun post h => by unfold wpY_size; exact ef_yH1 d4 (br_f (by decide) ⟨vd, br_f (ef_nY0 d4 ed) ⟨vd, by rw [ef_nYh d4]; exact ⟨vh, br_t (by rw [ch]; exact g) ⟨vd, ef_yEn (fun j hj => ef_St_pos S hj) (fun j j1 j2 => ef_St_ent S j2 ed j1) (ef_St_top S ed) h⟩⟩⟩⟩)⟩
      · exact ⟨nI (ef_cn (fun b => cp (8 * hn d + b) ≠ 24) 8), fun post h => by unfold wpX_size; exact ef_xH1 d4 (br_f (by decide) ⟨vd, nm_r (ef_nXh d4 e) (br_f (ef_nn1 (by omega)) ⟨vh, br_f (by rw [ch]; exact g) (ef_xCB ed S.2.2.2.2.2.1 h)⟩)⟩),
          fun post h => by unfold wpY_size; exact ef_yH1 d4 (br_f (by decide) ⟨vd, br_f (ef_nY0 d4 ed) ⟨vd, by rw [ef_nYh d4]; exact ⟨vh, br_f (by rw [ch]; exact g) ⟨9, ef_yS53 d4 ed rfl S.2.2.2.2.2.1 h 9 0 (by omega) (by omega)⟩⟩⟩⟩)⟩
  · exact ⟨-1, fun post h => by unfold wpX_size; exact ef_xH0 D (br_t rfl h), fun post h => by unfold wpY_size; exact ef_yH0 D (br_t rfl h)⟩
theorem i_vc_size {k : Nat} {u : SX} {v : SY} (I : i_Rel k u v) (hk : k + 5 ≤ 2560) (v1 : Int32) : wpX_size (fun r => wpY_size (fun r' => r' = r ∧ i_Rel (k + 5) u v) v v1) u v1 := by
  have R : i_Rel (k + 5) u v := i_up I
  obtain ⟨sv, kd, iy, nm, sk, si, sn, dt, us, pa, cp, spa, scp, hn, rfl, rfl, S, T, H⟩ := I
  obtain ⟨r, hX, hY⟩ := ef_size (sv := sv) (sk := sk) (si := si) (sn := sn) (dt := dt) (us := us) (sp := ef_X 16 spa) (sc := ef_X 24 scp) (sy := ef_Y scp) S H v1
  exact hX _ (hY _ ⟨rfl, R⟩)
/-! E: copies, nodes -/
theorem i_vc_copies {k : Nat} {u : SX} {v : SY} (I : i_Rel k u v) (hk : k + 5 ≤ 2560) : wpX_copies (fun r => wpY_copies (fun r' v' => r' = r ∧ i_Rel (k + 5) u v') v) u := by
  obtain ⟨sv, kd, iy, nm, sk, si, sn, dt, us, pa, cp, spa, scp, hn, rfl, rfl, S, T, H⟩ := I
  exact ef_xCo S.2.2.2.2.2.1 T.2.2.2.2.2.1 (ef_yCo S T (fun us _ => ⟨rfl, ef_mk S T H⟩))
theorem i_vc_nodes {k : Nat} {u : SX} {v : SY} (I : i_Rel k u v) (hk : k + 5 ≤ 2560) : wpX_nodes (fun r => wpY_nodes (fun r' => r' = r ∧ i_Rel (k + 5) u v) v) u := by
  have R : i_Rel (k + 5) u v := i_up I
  obtain ⟨sv, kd, iy, nm, sk, si, sn, dt, us, pa, cp, spa, scp, hn, rfl, rfl, S, T, H⟩ := I
  exact ef_xNo (ef_yNo (fun j hj => ef_St_pos S hj) ⟨rfl, R⟩)
end EFT
