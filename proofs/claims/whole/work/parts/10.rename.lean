/-! rename, write -/
section EFT
variable {sv : Int32} {kd iy nm sk si sn dt us pr cx sp sc cy sy : Nat → Int32} {pa cp spa scp hn : Nat → Nat}
/-! A: rename -/
theorem ef_rename (k : Nat) (S : ef_St kd iy nm pa cp) (T : ef_St sk si sn spa scp) (H : ∀ j, j < 4 → hn j ≤ 16) (v1 v2 v3 v4 : Int32) : ∃ r u' v',
    (∀ post : Int32 → SX → Prop, post r u' → wpX_rename post (sv, kd, ef_X 16 pa, nm, ef_X 24 cp, sk, ef_X 16 spa, sn, ef_X 24 scp, dt, ef_X 16 hn) v1 v2 v3 v4) ∧
    (∀ post : Int32 → SY → Prop, post r v' → wpY_rename post (sv, kd, iy, nm, ef_Y cp, sk, si, sn, ef_Y scp, dt, us, ef_Y hn) v1 v2 v3 v4) ∧ i_Rel k u' v' := by
  by_cases D : ∃ j, j < 4 ∧ v1 = nI j
  · obtain ⟨d, d4, rfl⟩ := D
    by_cases E : ∃ j, j < 4 ∧ v3 = nI j
    · obtain ⟨e, e4, rfl⟩ := E
      by_cases N2 : ∃ m, m < 100 ∧ v2 = nI m
      · obtain ⟨m, hm, rfl⟩ := N2
        by_cases N4 : ∃ m, m < 100 ∧ v4 = nI m
        · obtain ⟨o, ho, rfl⟩ := N4
          have vd := vp_in_nI (n := d) (N := 4) d4 (by decide)
          have ve := vp_in_nI (n := e) (N := 4) e4 (by decide)
          have Hd := H d d4
          have He := H e e4
          by_cases gd : hn d = 16
          · exact ⟨-3, _, _, fun post h => by unfold wpX_rename; exact ef_xH1 d4 (br_f (by decide) (ef_xH1 e4 (br_f (by decide) (ef_xN1 hm (br_f (by decide) (ef_xN1 ho (br_f (by decide) ⟨vd, nm_r (ef_nX16 d4 gd) ⟨ve, nm_e (br_t rfl h)⟩⟩))))))),
              fun post h => by unfold wpY_rename; exact ef_yH1 d4 (br_f (by decide) (ef_yH1 e4 (br_f (by decide) (ef_yN1 hm (br_f (by decide) (ef_yN1 ho (br_f (by decide) ⟨vd, br_t (ef_nY16 d4 gd) h⟩))))))), ef_mk S T H⟩
          · have ld : hn d < 16 := by omega
            by_cases ge : hn e = 16
            · exact ⟨-3, _, _, fun post h => by unfold wpX_rename; exact ef_xH1 d4 (br_f (by decide) (ef_xH1 e4 (br_f (by decide) (ef_xN1 hm (br_f (by decide) (ef_xN1 ho (br_f (by decide) ⟨vd, nm_r (ef_nXh d4 gd) ⟨ve, nm_r (ef_nX16 e4 ge) (br_f (ef_nn1 (by omega)) (br_t rfl h))⟩⟩))))))),
                fun post h => by unfold wpY_rename; exact ef_yH1 d4 (br_f (by decide) (ef_yH1 e4 (br_f (by decide) (ef_yN1 hm (br_f (by decide) (ef_yN1 ho (br_f (by decide) ⟨vd, br_f (ef_nY0 d4 ld) ⟨ve, br_t (ef_nY16 e4 ge) h⟩⟩))))))), ef_mk S T H⟩
            · have le : hn e < 16 := by omega
              have vhd := vp_in_nI (n := hn d) (N := 16) ld (by decide)
              have vhe := vp_in_nI (n := hn e) (N := 16) le (by decide)
              have chd := ef_cl ld (by omega)
              have che := ef_cl le (by omega)
              by_cases kdd : kd (hn d) = 1
              · by_cases kde : kd (hn e) = 1
                · obtain ⟨r, r1, r2, r3, fX, fY⟩ := ef_find S ld (nI m)
                  by_cases er : r = 16
                  · subst er
                    exact ⟨-3, _, _, fun post h => by unfold wpX_rename; exact ef_xH1 d4 (br_f (by decide) (ef_xH1 e4 (br_f (by decide) (ef_xN1 hm (br_f (by decide) (ef_xN1 ho (br_f (by decide) ⟨vd, nm_r (ef_nXh d4 gd) ⟨ve, nm_r (ef_nXh e4 ge) (br_f (ef_nn1 (by omega)) (br_f (ef_nn1 (by omega)) ⟨vhd, br_t (by rw [chd]; exact kdd) ⟨vhe, br_t (by rw [che]; exact kde) (fX _ _ _ _ _ _ _ _ _ (br_t rfl h))⟩⟩))⟩⟩))))))),
                      fun post h => by unfold wpY_rename; exact ef_yH1 d4 (br_f (by decide) (ef_yH1 e4 (br_f (by decide) (ef_yN1 hm (br_f (by decide) (ef_yN1 ho (br_f (by decide) ⟨vd, br_f (ef_nY0 d4 ld) ⟨ve, br_f (ef_nY0 e4 le) (by rw [ef_nYh d4, ef_nYh e4]; exact ⟨vd, vhd, br_t (by rw [chd]; exact kdd) ⟨ve, vhe, br_t (by rw [che]; exact kde) ⟨vd, fY _ _ _ _ _ _ _ _ _ _ (br_t rfl h)⟩⟩⟩)⟩⟩))))))), ef_mk S T H⟩
                  · have lr : r < 16 := by omega
                    have vr := vp_in_nI (n := r) (N := 16) lr (by decide)
                    have cr := ef_cl lr (by omega)
                    obtain ⟨s, s1, s2, s3, gX, gY⟩ := ef_find S le (nI o)
                    by_cases es : s = 16
                    · subst es
                      have kr : kd r ≠ 0 := ((ef_St_ent S lr ld r1).mp (r3 lr).1).1
                      have ha : ∀ i, ef_an pa (hn e) i ≤ 16 := by
                        intro i
                        rcases ef_an_in S le kde i with z | z
                        · omega
                        · omega
                      have wX : ∀ (post : Int32 → SX → Prop), (((∃ i, i < 16 ∧ ef_an pa (hn e) i = r) → post (-7) (sv, kd, ef_X 16 pa, nm, ef_X 24 cp, sk, ef_X 16 spa, sn, ef_X 24 scp, dt, ef_X 16 hn)) ∧ ((¬ ∃ i, i < 16 ∧ ef_an pa (hn e) i = r) → post 0 (sv, kd, ef_X 16 (ef_un pa r (hn e)), upd nm r (nI o), ef_X 24 cp, sk, ef_X 16 spa, sn, ef_X 24 scp, dt, ef_X 16 hn))) → wpX_rename post (sv, kd, ef_X 16 pa, nm, ef_X 24 cp, sk, ef_X 16 spa, sn, ef_X 24 scp, dt, ef_X 16 hn) (nI d) (nI m) (nI e) (nI o) := by
                        intro post ⟨h1, h2⟩
                        unfold wpX_rename
                        refine ef_xH1 d4 (br_f (by decide) (ef_xH1 e4 (br_f (by decide) (ef_xN1 hm (br_f (by decide) (ef_xN1 ho (br_f (by decide) ⟨vd, nm_r (ef_nXh d4 gd) ⟨ve, nm_r (ef_nXh e4 ge) (br_f (ef_nn1 (by omega)) (br_f (ef_nn1 (by omega)) ⟨vhd, br_t (by rw [chd]; exact kdd) ⟨vhe, br_t (by rw [che]; exact kde) (fX _ _ _ _ _ _ _ _ _ ?_)⟩⟩))⟩⟩)))))))
                        rw [ef_encN er]
                        refine br_f (ef_nn1 (by omega)) (gX _ _ _ _ _ _ _ _ _ (br_t rfl (ef_xUp lr le ha (fun z => br_f (by decide) (h1 z)) (fun z => br_t rfl ⟨vr, nm_r (ef_xun (by omega) ge) ⟨vr, nm_r (by rw [cr]) (h2 z)⟩⟩))))
                      have wY : ∀ (post : Int32 → SY → Prop), (((∃ i, i < 16 ∧ ef_an pa (hn e) i = r) → post (-7) (sv, kd, iy, nm, ef_Y cp, sk, si, sn, ef_Y scp, dt, us, ef_Y hn)) ∧ ((¬ ∃ i, i < 16 ∧ ef_an pa (hn e) i = r) → post 0 (sv, kd, upd iy r (nI (hn e)), upd nm r (nI o), ef_Y cp, sk, si, sn, ef_Y scp, dt, us, ef_Y hn))) → wpY_rename post (sv, kd, iy, nm, ef_Y cp, sk, si, sn, ef_Y scp, dt, us, ef_Y hn) (nI d) (nI m) (nI e) (nI o) := by
                        intro post ⟨h1, h2⟩
                        unfold wpY_rename
                        have w := ef_yR147 (y := nI o) e4 (by omega : r ≠ 0) lr le kde rfl S h1 h2 17 0 (by omega) (by omega) (fun j hj => absurd hj (Nat.not_lt_zero j))
                        rw [show ef_q (ef_an pa (hn e) 0) = hn e from ef_qn (n := hn e) ge] at w
                        exact ef_yH1 d4 (br_f (by decide) (ef_yH1 e4 (br_f (by decide) (ef_yN1 hm (br_f (by decide) (ef_yN1 ho (br_f (by decide) ⟨vd, br_f (ef_nY0 d4 ld) ⟨ve, br_f (ef_nY0 e4 le) (by rw [ef_nYh d4, ef_nYh e4]; exact ⟨vd, vhd, br_t (by rw [chd]; exact kdd) ⟨ve, vhe, br_t (by rw [che]; exact kde) ⟨vd, fY _ _ _ _ _ _ _ _ _ _ (br_f (ef_n16 lr) ⟨ve, gY _ _ _ _ _ _ _ _ _ _ (br_t (by decide) ⟨ve, nm_e ⟨17, w⟩⟩)⟩)⟩⟩⟩)⟩⟩)))))))
                      by_cases hb : ∃ i, i < 16 ∧ ef_an pa (hn e) i = r
                      · exact ⟨-7, _, _, fun post h => wX post ⟨fun _ => h, fun z => absurd hb z⟩, fun post h => wY post ⟨fun _ => h, fun z => absurd hb z⟩, ef_mk S T H⟩
                      · exact ⟨0, _, _, fun post h => wX post ⟨fun z => absurd z hb, fun _ => h⟩, fun post h => wY post ⟨fun z => absurd z hb, fun _ => h⟩, ef_mk (ef_St_ren S (by omega) kr le kde ho) T H⟩
                    · have ls : s < 16 := by omega
                      exact ⟨-5, _, _, fun post h => by unfold wpX_rename; exact ef_xH1 d4 (br_f (by decide) (ef_xH1 e4 (br_f (by decide) (ef_xN1 hm (br_f (by decide) (ef_xN1 ho (br_f (by decide) ⟨vd, nm_r (ef_nXh d4 gd) ⟨ve, nm_r (ef_nXh e4 ge) (br_f (ef_nn1 (by omega)) (br_f (ef_nn1 (by omega)) ⟨vhd, br_t (by rw [chd]; exact kdd) ⟨vhe, br_t (by rw [che]; exact kde) (fX _ _ _ _ _ _ _ _ _ (by rw [ef_encN er]; exact br_f (ef_nn1 (by omega)) (gX _ _ _ _ _ _ _ _ _ (by rw [ef_encN es]; exact br_f (ef_nn1 (by omega)) h))))⟩⟩))⟩⟩))))))),
                        fun post h => by unfold wpY_rename; exact ef_yH1 d4 (br_f (by decide) (ef_yH1 e4 (br_f (by decide) (ef_yN1 hm (br_f (by decide) (ef_yN1 ho (br_f (by decide) ⟨vd, br_f (ef_nY0 d4 ld) ⟨ve, br_f (ef_nY0 e4 le) (by rw [ef_nYh d4, ef_nYh e4]; exact ⟨vd, vhd, br_t (by rw [chd]; exact kdd) ⟨ve, vhe, br_t (by rw [che]; exact kde) ⟨vd, fY _ _ _ _ _ _ _ _ _ _ (br_f (ef_n16 lr) ⟨ve, gY _ _ _ _ _ _ _ _ _ _ (br_f (nI_ge (b := 16) ls (by decide)) h)⟩)⟩⟩⟩)⟩⟩))))))), ef_mk S T H⟩
                · exact ⟨-4, _, _, fun post h => by unfold wpX_rename; exact ef_xH1 d4 (br_f (by decide) (ef_xH1 e4 (br_f (by decide) (ef_xN1 hm (br_f (by decide) (ef_xN1 ho (br_f (by decide) ⟨vd, nm_r (ef_nXh d4 gd) ⟨ve, nm_r (ef_nXh e4 ge) (br_f (ef_nn1 (by omega)) (br_f (ef_nn1 (by omega)) ⟨vhd, br_t (by rw [chd]; exact kdd) ⟨vhe, br_f (by rw [che]; exact kde) h⟩⟩))⟩⟩))))))),
                    fun post h => by unfold wpY_rename; exact ef_yH1 d4 (br_f (by decide) (ef_yH1 e4 (br_f (by decide) (ef_yN1 hm (br_f (by decide) (ef_yN1 ho (br_f (by decide) ⟨vd, br_f (ef_nY0 d4 ld) ⟨ve, br_f (ef_nY0 e4 le) (by rw [ef_nYh d4, ef_nYh e4]; exact ⟨vd, vhd, br_t (by rw [chd]; exact kdd) ⟨ve, vhe, br_f (by rw [che]; exact kde) h⟩⟩)⟩⟩))))))), ef_mk S T H⟩
              · exact ⟨-4, _, _, fun post h => by unfold wpX_rename; exact ef_xH1 d4 (br_f (by decide) (ef_xH1 e4 (br_f (by decide) (ef_xN1 hm (br_f (by decide) (ef_xN1 ho (br_f (by decide) ⟨vd, nm_r (ef_nXh d4 gd) ⟨ve, nm_r (ef_nXh e4 ge) (br_f (ef_nn1 (by omega)) (br_f (ef_nn1 (by omega)) ⟨vhd, br_f (by rw [chd]; exact kdd) h⟩))⟩⟩))))))),
                  fun post h => by unfold wpY_rename; exact ef_yH1 d4 (br_f (by decide) (ef_yH1 e4 (br_f (by decide) (ef_yN1 hm (br_f (by decide) (ef_yN1 ho (br_f (by decide) ⟨vd, br_f (ef_nY0 d4 ld) ⟨ve, br_f (ef_nY0 e4 le) (by rw [ef_nYh d4, ef_nYh e4]; exact ⟨vd, vhd, br_f (by rw [chd]; exact kdd) h⟩)⟩⟩))))))), ef_mk S T H⟩
        · exact ⟨-1, _, _, fun post h => by unfold wpX_rename; exact ef_xH1 d4 (br_f (by decide) (ef_xH1 e4 (br_f (by decide) (ef_xN1 hm (br_f (by decide) (ef_xN0 N4 (br_t rfl h))))))),
            fun post h => by unfold wpY_rename; exact ef_yH1 d4 (br_f (by decide) (ef_yH1 e4 (br_f (by decide) (ef_yN1 hm (br_f (by decide) (ef_yN0 N4 (br_t rfl h))))))), ef_mk S T H⟩
      · exact ⟨-1, _, _, fun post h => by unfold wpX_rename; exact ef_xH1 d4 (br_f (by decide) (ef_xH1 e4 (br_f (by decide) (ef_xN0 N2 (br_t rfl h))))),
          fun post h => by unfold wpY_rename; exact ef_yH1 d4 (br_f (by decide) (ef_yH1 e4 (br_f (by decide) (ef_yN0 N2 (br_t rfl h))))), ef_mk S T H⟩
    · exact ⟨-1, _, _, fun post h => by unfold wpX_rename; exact ef_xH1 d4 (br_f (by decide) (ef_xH0 E (br_t rfl h))),
        fun post h => by unfold wpY_rename; exact ef_yH1 d4 (br_f (by decide) (ef_yH0 E (br_t rfl h))), ef_mk S T H⟩
  · exact ⟨-1, _, _, fun post h => by unfold wpX_rename; exact ef_xH0 D (br_t rfl h), fun post h => by unfold wpY_rename; exact ef_yH0 D (br_t rfl h), ef_mk S T H⟩
theorem i_vc_rename {k : Nat} {u : SX} {v : SY} (I : i_Rel k u v) (hk : k + 5 ≤ 2560) (v1 : Int32) (v2 : Int32) (v3 : Int32) (v4 : Int32) : wpX_rename (fun r u' => wpY_rename (fun r' v' => r' = r ∧ i_Rel (k + 5) u' v') v v1 v2 v3 v4) u v1 v2 v3 v4 := by
  obtain ⟨sv, kd, iy, nm, sk, si, sn, dt, us, pa, cp, spa, scp, hn, rfl, rfl, S, T, H⟩ := I
  obtain ⟨r, u', v', hX, hY, R⟩ := ef_rename (sv := sv) (dt := dt) (us := us) (k + 5) S T H v1 v2 v3 v4
  exact hX _ (hY _ ⟨rfl, R⟩)
end EFT
