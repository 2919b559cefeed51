/-! make, erase -/
section EFT
variable {sv : Int32} {kd iy nm sk si sn dt us pr cx sp sc cy sy : Nat → Int32} {pa cp spa scp hn : Nat → Nat}
/-! A: make -/
theorem ef_xM91 {post : Int32 → SX → Prop} {a f d : Nat} {y t : Int32} (ha : a < 4) (hf : f < 16) (hd : d < 16) (h : post 0 (sv, upd kd f t, ef_X 16 (ef_un pa f d), upd nm f y, cx, sk, sp, sn, sc, dt, ef_X 16 (ef_un hn a f))) : wX_make_91 post (nI a) y (nI d) (nI f) t (nI f) sv kd (ef_X 16 pa) nm cx sk sp sn sc dt (ef_X 16 hn) := by
  have vf := vp_in_nI (n := f) (N := 16) hf (by decide)
  have cf := ef_cl hf (by omega)
  exact ⟨vf, nm_r (by rw [cf]) ⟨vf, nm_r (ef_xun (by omega) (by omega)) ⟨vf, nm_r (by rw [cf]) ⟨vp_in_nI ha (by decide), nm_r (ef_xun (by omega) (by omega)) h⟩⟩⟩⟩
theorem ef_yM124 {post : Int32 → SY → Prop} {a f d : Nat} {y t : Int32} (ha : a < 4) (hf : f < 16) (hd : d < 4) (h : post 0 (sv, upd kd f t, upd iy f (nI (hn d)), upd nm f y, ef_Y (ef_fr (8 * f) (8 * f + 8) 24 cp), sk, si, sn, sy, dt, us, ef_Y (ef_un hn a f))) : wY_make_124 post (nI a) (nI d) y (nI f) t (nI f) sv kd iy nm (ef_Y cp) sk si sn sy dt us (ef_Y hn) := by
  have vf := vp_in_nI (n := f) (N := 16) hf (by decide)
  have cf := ef_cl hf (by omega)
  have w := ef_yM149 ha hf h 9 0 (by omega) (by omega)
  rw [show 8 * f + 0 = 8 * f from rfl, ef_fr0] at w
  exact ⟨vf, nm_r (by rw [cf]) ⟨vp_in_nI hd (by decide), vf, nm_r (by rw [cf, ef_nYh hd]) ⟨vf, nm_r (by rw [cf]) ⟨9, w⟩⟩⟩⟩
theorem ef_make (k : Nat) (S : ef_St kd iy nm pa cp) (T : ef_St sk si sn spa scp) (H : ∀ j, j < 4 → hn j ≤ 16) (v1 v2 v3 b : Int32) : ∃ r u' v',
    (∀ post : Int32 → SX → Prop, post r u' → wpX_make post (sv, kd, ef_X 16 pa, nm, ef_X 24 cp, sk, ef_X 16 spa, sn, ef_X 24 scp, dt, ef_X 16 hn) v1 v2 v3 b) ∧
    (∀ post : Int32 → SY → Prop, post r v' → wpY_make post (sv, kd, iy, nm, ef_Y cp, sk, si, sn, ef_Y scp, dt, us, ef_Y hn) v1 v2 v3 b) ∧ i_Rel k u' v' := by
  by_cases A : ∃ j, 1 ≤ j ∧ j < 4 ∧ v1 = nI j
  · obtain ⟨a, a1, a4, rfl⟩ := A
    by_cases D : ∃ j, j < 4 ∧ v2 = nI j
    · obtain ⟨d, d4, rfl⟩ := D
      have vd := vp_in_nI (n := d) (N := 4) d4 (by decide)
      have Hd := H d d4
      by_cases N2 : ∃ m, m < 100 ∧ v3 = nI m
      · obtain ⟨m, hm, rfl⟩ := N2
        by_cases e : hn d = 16
        · exact ⟨-3, _, _, fun post h => by unfold wpX_make; exact ef_xF1 a1 a4 (br_f (by decide) (ef_xH1 d4 (br_f (by decide) (ef_xN1 hm (br_f (by decide) (ef_xDFa d4 e (br_f (by decide) h))))))),
            fun post h => by unfold wpY_make; exact ef_yF1 a1 a4 (ef_yH1 d4 (br_f (by decide) (ef_yN1 hm (br_f (by decide) (ef_yWa d4 e (br_f (by decide) h)))))), ef_mk S T H⟩
        · have ed : hn d < 16 := by omega
          by_cases g : kd (hn d) = 1
          · obtain ⟨r, r1, r2, r3, fX, fY⟩ := ef_find S ed (nI m)
            by_cases er : r = 16
            · subst er
              obtain ⟨f, f1, f2, f3, f4⟩ := ef_least (fun j => kd j = 0) 0 16 (by omega)
              have f5 : ∀ j, j < f → ¬ kd j = 0 := fun j hj => f4 j (Nat.zero_le j) hj
              by_cases ef : f = 16
              · subst ef
                have cn : ef_cn (fun j => kd j ≠ 0) 16 = 16 := ef_cna f5
                exact ⟨-2, _, _, fun post h => by unfold wpX_make; exact ef_xF1 a1 a4 (br_f (by decide) (ef_xH1 d4 (br_f (by decide) (ef_xN1 hm (br_f (by decide) (ef_xDFc d4 ed g (br_t rfl ⟨vd, nm_r (ef_nXh d4 e) (fX _ _ _ _ _ _ _ _ _ (br_t rfl (ef_xFN f2 f3 f5 (br_t rfl h))))⟩))))))),
                  fun post h => by unfold wpY_make; exact ef_yF1 a1 a4 (ef_yH1 d4 (br_f (by decide) (ef_yN1 hm (br_f (by decide) (ef_yWc d4 ed g (br_t rfl ⟨vd, by rw [ef_nYh d4]; exact fY _ _ _ _ _ _ _ _ _ _ (br_t (by decide) (ef_yNo (fun j hj => ef_St_pos S hj) (by rw [cn]; exact br_t rfl h)))⟩)))))), ef_mk S T H⟩
              · have ef' : f < 16 := by omega
                have f0 : kd f = 0 := f3 ef'
                have f6 : 1 ≤ f := by
                  apply Nat.le_of_not_lt
                  intro z
                  have e0 : f = 0 := by omega
                  rw [e0, S.1] at f0
                  exact absurd f0 (by decide)
                have cn : ef_cn (fun j => kd j ≠ 0) 16 < 16 := ef_cnl ef' (fun z => z f0)
                by_cases b0 : b = 0
                · have S' := ef_St_make S ef' f0 ed g hm (Or.inr (rfl : (2 : Int32) = 2))
                  have w := fun (post : Int32 → SY → Prop) h => ef_yM124 (post := post) (sv := sv) (kd := kd) (iy := iy) (nm := nm) (sk := sk) (si := si) (sn := sn) (sy := ef_Y scp) (dt := dt) (us := us) (cp := cp) (hn := hn) (y := nI m) (t := 2) a4 ef' d4 h
                  rw [S'.2] at w
                  exact ⟨0, _, _, fun post h => by unfold wpX_make; exact ef_xF1 a1 a4 (br_f (by decide) (ef_xH1 d4 (br_f (by decide) (ef_xN1 hm (br_f (by decide) (ef_xDFc d4 ed g (br_t rfl ⟨vd, nm_r (ef_nXh d4 e) (fX _ _ _ _ _ _ _ _ _ (br_t rfl (ef_xFN f2 f3 f5 (by rw [ef_encN ef]; exact br_f (ef_nn1 (by omega)) (br_t b0 (ef_xM91 a4 ef' ed h))))))⟩))))))),
                    fun post h => by unfold wpY_make; exact ef_yF1 a1 a4 (ef_yH1 d4 (br_f (by decide) (ef_yN1 hm (br_f (by decide) (ef_yWc d4 ed g (br_t rfl ⟨vd, by rw [ef_nYh d4]; exact fY _ _ _ _ _ _ _ _ _ _ (br_t (by decide) (ef_yNo (fun j hj => ef_St_pos S hj) (br_f (ef_n16 cn) ⟨16, ef_yM83 f6 f2 f3 (fun j _ hj => f5 j hj) (br_t b0 (w post h)) 16 15 (by omega) (by omega) 16 (fun z => absurd z (by omega))⟩)))⟩)))))), ef_mk S'.1 T (ef_Hu H (by omega))⟩
                · have S' := ef_St_make S ef' f0 ed g hm (Or.inl (rfl : (1 : Int32) = 1))
                  have w := fun (post : Int32 → SY → Prop) h => ef_yM124 (post := post) (sv := sv) (kd := kd) (iy := iy) (nm := nm) (sk := sk) (si := si) (sn := sn) (sy := ef_Y scp) (dt := dt) (us := us) (cp := cp) (hn := hn) (y := nI m) (t := 1) a4 ef' d4 h
                  rw [S'.2] at w
                  exact ⟨0, _, _, fun post h => by unfold wpX_make; exact ef_xF1 a1 a4 (br_f (by decide) (ef_xH1 d4 (br_f (by decide) (ef_xN1 hm (br_f (by decide) (ef_xDFc d4 ed g (br_t rfl ⟨vd, nm_r (ef_nXh d4 e) (fX _ _ _ _ _ _ _ _ _ (br_t rfl (ef_xFN f2 f3 f5 (by rw [ef_encN ef]; exact br_f (ef_nn1 (by omega)) (br_f b0 (ef_xM91 a4 ef' ed h))))))⟩))))))),
                    fun post h => by unfold wpY_make; exact ef_yF1 a1 a4 (ef_yH1 d4 (br_f (by decide) (ef_yN1 hm (br_f (by decide) (ef_yWc d4 ed g (br_t rfl ⟨vd, by rw [ef_nYh d4]; exact fY _ _ _ _ _ _ _ _ _ _ (br_t (by decide) (ef_yNo (fun j hj => ef_St_pos S hj) (br_f (ef_n16 cn) ⟨16, ef_yM83 f6 f2 f3 (fun j _ hj => f5 j hj) (br_f b0 (w post h)) 16 15 (by omega) (by omega) 16 (fun z => absurd z (by omega))⟩)))⟩)))))), ef_mk S'.1 T (ef_Hu H (by omega))⟩
            · have er' : r < 16 := by omega
              exact ⟨-5, _, _, fun post h => by unfold wpX_make; exact ef_xF1 a1 a4 (br_f (by decide) (ef_xH1 d4 (br_f (by decide) (ef_xN1 hm (br_f (by decide) (ef_xDFc d4 ed g (br_t rfl ⟨vd, nm_r (ef_nXh d4 e) (fX _ _ _ _ _ _ _ _ _ (by rw [ef_encN er]; exact br_f (ef_nn1 (by omega)) h))⟩))))))),
                fun post h => by unfold wpY_make; exact ef_yF1 a1 a4 (ef_yH1 d4 (br_f (by decide) (ef_yN1 hm (br_f (by decide) (ef_yWc d4 ed g (br_t rfl ⟨vd, by rw [ef_nYh d4]; exact fY _ _ _ _ _ _ _ _ _ _ (br_f (nI_ge (b := 16) er' (by decide)) h)⟩)))))), ef_mk S T H⟩
          · exact ⟨-4, _, _, fun post h => by unfold wpX_make; exact ef_xF1 a1 a4 (br_f (by decide) (ef_xH1 d4 (br_f (by decide) (ef_xN1 hm (br_f (by decide) (ef_xDFb d4 ed g (br_f (by decide) h))))))),
              fun post h => by unfold wpY_make; exact ef_yF1 a1 a4 (ef_yH1 d4 (br_f (by decide) (ef_yN1 hm (br_f (by decide) (ef_yWb d4 ed g (br_f (by decide) h)))))), ef_mk S T H⟩
      · exact ⟨-1, _, _, fun post h => by unfold wpX_make; exact ef_xF1 a1 a4 (br_f (by decide) (ef_xH1 d4 (br_f (by decide) (ef_xN0 N2 (br_t rfl h))))),
          fun post h => by unfold wpY_make; exact ef_yF1 a1 a4 (ef_yH1 d4 (br_f (by decide) (ef_yN0 N2 (br_t rfl h)))), ef_mk S T H⟩
    · exact ⟨-1, _, _, fun post h => by unfold wpX_make; exact ef_xF1 a1 a4 (br_f (by decide) (ef_xH0 D (br_t rfl h))),
        fun post h => by unfold wpY_make; exact ef_yF1 a1 a4 (ef_yH0 D (br_t rfl h)), ef_mk S T H⟩
  · exact ⟨-1, _, _, fun post h => by unfold wpX_make; exact ef_xF0 A (br_t rfl h), fun post h => by unfold wpY_make; exact ef_yF0 A h, ef_mk S T H⟩
theorem i_vc_make {k : Nat} {u : SX} {v : SY} (I : i_Rel k u v) (hk : k + 5 ≤ 2560) (v1 : Int32) (v2 : Int32) (v3 : Int32) (v4 : Int32) : wpX_make (fun r u' => wpY_make (fun r' v' => r' = r ∧ i_Rel (k + 5) u' v') v v1 v2 v3 (lw_bz v4)) u v1 v2 v3 (lw_bz v4) := by
  obtain ⟨sv, kd, iy, nm, sk, si, sn, dt, us, pa, cp, spa, scp, hn, rfl, rfl, S, T, H⟩ := I
  obtain ⟨r, u', v', hX, hY, R⟩ := ef_make (sv := sv) (dt := dt) (us := us) (k + 5) S T H v1 v2 v3 (lw_bz v4)
  exact hX _ (hY _ ⟨rfl, R⟩)
/-! B: erase -/
theorem ef_erase (k : Nat) (S : ef_St kd iy nm pa cp) (T : ef_St sk si sn spa scp) (H : ∀ j, j < 4 → hn j ≤ 16) (v1 v2 : Int32) : ∃ r u' v',
    (∀ post : Int32 → SX → Prop, post r u' → wpX_erase post (sv, kd, ef_X 16 pa, nm, ef_X 24 cp, sk, ef_X 16 spa, sn, ef_X 24 scp, dt, ef_X 16 hn) v1 v2) ∧
    (∀ post : Int32 → SY → Prop, post r v' → wpY_erase post (sv, kd, iy, nm, ef_Y cp, sk, si, sn, ef_Y scp, dt, us, ef_Y hn) v1 v2) ∧ i_Rel k u' v' := by
  by_cases D : ∃ j, j < 4 ∧ v1 = nI j
  · obtain ⟨d, d4, rfl⟩ := D
    have vd := vp_in_nI (n := d) (N := 4) d4 (by decide)
    have Hd := H d d4
    by_cases N2 : ∃ m, m < 100 ∧ v2 = nI m
    · obtain ⟨m, hm, rfl⟩ := N2
      by_cases e : hn d = 16
      · exact ⟨-3, _, _, fun post h => by unfold wpX_erase; exact ef_xH1 d4 (br_f (by decide) (ef_xN1 hm (br_f (by decide) (ef_xDFa d4 e (br_f (by decide) h))))),
          fun post h => by unfold wpY_erase; exact ef_yH1 d4 (br_f (by decide) (ef_yN1 hm (br_f (by decide) (ef_yWa d4 e (br_f (by decide) h))))), ef_mk S T H⟩
      · have ed : hn d < 16 := by omega
        by_cases g : kd (hn d) = 1
        · obtain ⟨r, r1, r2, r3, fX, fY⟩ := ef_find S ed (nI m)
          by_cases er : r = 16
          · subst er
            exact ⟨-3, _, _, fun post h => by unfold wpX_erase; exact ef_xH1 d4 (br_f (by decide) (ef_xN1 hm (br_f (by decide) (ef_xDFc d4 ed g (br_t rfl ⟨vd, by rw [ef_nXh d4 e]; exact fX _ _ _ _ _ _ _ _ _ (br_t rfl h)⟩))))),
              fun post h => by unfold wpY_erase; exact ef_yH1 d4 (br_f (by decide) (ef_yN1 hm (br_f (by decide) (ef_yWc d4 ed g (br_t rfl ⟨vd, by rw [ef_nYh d4]; exact fY _ _ _ _ _ _ _ _ _ _ (br_t rfl h)⟩))))), ef_mk S T H⟩
          · have er' : r < 16 := by omega
            have vr := vp_in_nI (n := r) (N := 16) er' (by decide)
            have cr := ef_cl er' (by omega)
            have hpa : ∀ j, j < 16 → pa j ≤ 16 := fun j hj => ef_St_pa S hj
            have hz : ∀ j, j < 16 → (kd j ≤ 0 ↔ kd j = 0) := fun j hj => ef_St_pos S hj
            have hE : ∀ j, 1 ≤ j → j < 16 → (pa j = r ↔ (kd j ≠ 0 ∧ iy j = nI r)) := fun j j1 j2 => ef_St_ent S j2 er' j1
            have h0 := ef_St_top S er'
            have hf : ¬ kd r = 1 → ∀ j, j < 16 → ¬ pa j = r := by
              intro z j hj q
              by_cases lv : j = 0 ∨ kd j = 0
              · rw [S.2.2.2.1 j hj lv] at q
                omega
              · have := (S.2.2.2.2.1 j hj (fun z => lv (Or.inl z)) (fun z => lv (Or.inr z))).2.2
                rw [q] at this
                exact z this
            have wX : ∀ (post : Int32 → SX → Prop), (((∃ j, j < 4 ∧ hn j = r) → post (-6) (sv, kd, ef_X 16 pa, nm, ef_X 24 cp, sk, ef_X 16 spa, sn, ef_X 24 scp, dt, ef_X 16 hn)) ∧ ((¬ ∃ j, j < 4 ∧ hn j = r) → ¬ ef_cn (fun j => pa j = r) 16 = 0 → post (-2) (sv, kd, ef_X 16 pa, nm, ef_X 24 cp, sk, ef_X 16 spa, sn, ef_X 24 scp, dt, ef_X 16 hn)) ∧ ((¬ ∃ j, j < 4 ∧ hn j = r) → ef_cn (fun j => pa j = r) 16 = 0 → post 0 (sv, upd kd r 0, ef_X 16 (ef_un pa r 16), nm, ef_X 24 (ef_fr (8 * r) (8 * r + 8) 24 cp), sk, ef_X 16 spa, sn, ef_X 24 scp, dt, ef_X 16 hn))) → wpX_erase post (sv, kd, ef_X 16 pa, nm, ef_X 24 cp, sk, ef_X 16 spa, sn, ef_X 24 scp, dt, ef_X 16 hn) (nI d) (nI m) := by
              intro post ⟨h1, h2, h3⟩
              unfold wpX_erase
              refine ef_xH1 d4 (br_f (by decide) (ef_xN1 hm (br_f (by decide) (ef_xDFc d4 ed g (br_t rfl ⟨vd, ?_⟩)))))
              rw [ef_nXh d4 e]
              refine fX _ _ _ _ _ _ _ _ _ ?_
              rw [ef_encN er]
              refine br_f (ef_nn1 (by omega)) (ef_xHH er' H (fun z => br_f (by decide) (h1 z)) (fun z => br_t rfl (ef_xCE hpa er' ?_)))
              have hl := ef_cnle (fun j => pa j = r) 16
              by_cases q : ef_cn (fun j => pa j = r) 16 = 0
              · rw [q]
                refine br_t (by decide) (ef_xDB (b := 0) er' (by omega) S.2.2.2.2.2.1 ⟨vr, nm_r (by rw [cr]) ⟨vr, nm_r (e' := ef_X 16 (ef_un pa r 16)) ?_ (h3 z q)⟩⟩)
                rw [cr, ef_XuB]
              · exact br_f (nI_nle (by omega) (by omega)) (h2 z q)
            have wY : ∀ (post : Int32 → SY → Prop), (((∃ j, j < 4 ∧ hn j = r) → post (-6) (sv, kd, iy, nm, ef_Y cp, sk, si, sn, ef_Y scp, dt, us, ef_Y hn)) ∧ ((¬ ∃ j, j < 4 ∧ hn j = r) → ¬ ef_cn (fun j => pa j = r) 16 = 0 → post (-2) (sv, kd, iy, nm, ef_Y cp, sk, si, sn, ef_Y scp, dt, us, ef_Y hn)) ∧ ((¬ ∃ j, j < 4 ∧ hn j = r) → ef_cn (fun j => pa j = r) 16 = 0 → post 0 (sv, upd kd r 0, iy, nm, ef_Y (ef_fr (8 * r) (8 * r + 8) 24 cp), sk, si, sn, ef_Y scp, dt, us, ef_Y hn))) → wpY_erase post (sv, kd, iy, nm, ef_Y cp, sk, si, sn, ef_Y scp, dt, us, ef_Y hn) (nI d) (nI m) := by
              intro post ⟨h1, h2, h3⟩
              unfold wpY_erase
              refine ef_yH1 d4 (br_f (by decide) (ef_yN1 hm (br_f (by decide) (ef_yWc d4 ed g (br_t rfl ⟨vd, ?_⟩)))))
              rw [ef_nYh d4]
              exact fY _ _ _ _ _ _ _ _ _ _ (br_f (ef_n16 er') ⟨5, ef_yE57 er' H hz hE h0 hf h1 h2 h3 5 0 (by omega) (by omega) (fun j hj => absurd hj (Nat.not_lt_zero j))⟩)
            by_cases hb : ∃ j, j < 4 ∧ hn j = r
            · exact ⟨-6, _, _, fun post h => wX post ⟨fun _ => h, fun z => absurd hb z, fun z => absurd hb z⟩, fun post h => wY post ⟨fun _ => h, fun z => absurd hb z, fun z => absurd hb z⟩, ef_mk S T H⟩
            · by_cases q : ef_cn (fun j => pa j = r) 16 = 0
              · exact ⟨0, _, _, fun post h => wX post ⟨fun z => absurd z hb, fun _ z => absurd q z, fun _ _ => h⟩, fun post h => wY post ⟨fun z => absurd z hb, fun _ z => absurd q z, fun _ _ => h⟩, ef_mk (ef_St_erase S (by omega) (ef_cnz q)) T H⟩
              · exact ⟨-2, _, _, fun post h => wX post ⟨fun z => absurd z hb, fun _ _ => h, fun _ z => absurd z q⟩, fun post h => wY post ⟨fun z => absurd z hb, fun _ _ => h, fun _ z => absurd z q⟩, ef_mk S T H⟩
        · exact ⟨-4, _, _, fun post h => by unfold wpX_erase; exact ef_xH1 d4 (br_f (by decide) (ef_xN1 hm (br_f (by decide) (ef_xDFb d4 ed g (br_f (by decide) h))))),
            fun post h => by unfold wpY_erase; exact ef_yH1 d4 (br_f (by decide) (ef_yN1 hm (br_f (by decide) (ef_yWb d4 ed g (br_f (by decide) h))))), ef_mk S T H⟩
    · exact ⟨-1, _, _, fun post h => by unfold wpX_erase; exact ef_xH1 d4 (br_f (by decide) (ef_xN0 N2 (br_t rfl h))),
        fun post h => by unfold wpY_erase; exact ef_yH1 d4 (br_f (by decide) (ef_yN0 N2 (br_t rfl h))), ef_mk S T H⟩
  · exact ⟨-1, _, _, fun post h => by unfold wpX_erase; exact ef_xH0 D (br_t rfl h), fun post h => by unfold wpY_erase; exact ef_yH0 D (br_t rfl h), ef_mk S T H⟩
theorem i_vc_erase {k : Nat} {u : SX} {v : SY} (I : i_Rel k u v) (hk : k + 5 ≤ 2560) (v1 : Int32) (v2 : Int32) : wpX_erase (fun r u' => wpY_erase (fun r' v' => r' = r ∧ i_Rel (k + 5) u' v') v v1 v2) u v1 v2 := by
  obtain ⟨sv, kd, iy, nm, sk, si, sn, dt, us, pa, cp, spa, scp, hn, rfl, rfl, S, T, H⟩ := I
  obtain ⟨r, u', v', hX, hY, R⟩ := ef_erase (sv := sv) (dt := dt) (us := us) (k + 5) S T H v1 v2
  exact hX _ (hY _ ⟨rfl, R⟩)
end EFT
