/-! opening a handle -/
section EFT
variable {sv : Int32} {kd iy nm sk si sn dt us : Nat → Int32} {pa cp spa scp hn : Nat → Nat}
/-! A: its cases -/
theorem ef_open (k : Nat) (S : ef_St kd iy nm pa cp) (T : ef_St sk si sn spa scp) (H : ∀ j, j < 4 → hn j ≤ 16) (v1 v2 v3 : Int32) : ∃ r u' v',
    (∀ post : Int32 → SX → Prop, post r u' → wpX_open post (sv, kd, ef_X 16 pa, nm, ef_X 24 cp, sk, ef_X 16 spa, sn, ef_X 24 scp, dt, ef_X 16 hn) v1 v2 v3) ∧
    (∀ post : Int32 → SY → Prop, post r v' → wpY_open post (sv, kd, iy, nm, ef_Y cp, sk, si, sn, ef_Y scp, dt, us, ef_Y hn) v1 v2 v3) ∧ i_Rel k u' v' := by
  by_cases A : ∃ j, 1 ≤ j ∧ j < 4 ∧ v1 = nI j
  · obtain ⟨a, a1, a4, rfl⟩ := A
    by_cases D : ∃ j, j < 4 ∧ v2 = nI j
    · obtain ⟨d, d4, rfl⟩ := D
      have vd := vp_in_nI (n := d) (N := 4) d4 (by decide)
      have va := vp_in_nI (n := a) (N := 4) a4 (by decide)
      have Hd := H d d4
      by_cases N1 : v3 = -1
      · subst N1
        by_cases e : hn d = 16
        · exact ⟨-3, _, _, fun post h => by unfold wpX_open; exact ef_xF1 a1 a4 (br_f (by decide) (ef_xH1 d4 (br_f (by decide) (br_t rfl ⟨vd, nm_r (ef_nX16 d4 e) (br_t rfl h)⟩)))),
            fun post h => by unfold wpY_open; exact ef_yF1 a1 a4 (ef_yH1 d4 (br_f (by decide) (ef_yNm1 ⟨vd, br_t (ef_nY16 d4 e) h⟩))), ef_mk S T H⟩
        · exact ⟨0, _, _, fun post h => by unfold wpX_open; exact ef_xF1 a1 a4 (br_f (by decide) (ef_xH1 d4 (br_f (by decide) (br_t rfl ⟨vd, nm_r (ef_nXh d4 e) (br_f (ef_nn1 (by omega)) (br_t rfl ⟨va, nm_r (ef_xun (by omega) e) h⟩))⟩)))),
            fun post h => by unfold wpY_open; exact ef_yF1 a1 a4 (ef_yH1 d4 (br_f (by decide) (ef_yNm1 ⟨vd, br_f (ef_nY0 d4 (by omega)) (br_t rfl ⟨vd, va, nm_r (by rw [ef_nYh d4]; exact ef_yun (by omega)) h⟩)⟩))), ef_mk S T (ef_Hu H Hd)⟩
      · by_cases N2 : ∃ m, m < 100 ∧ v3 = nI m
        · obtain ⟨m, hm, rfl⟩ := N2
          by_cases e : hn d = 16
          · exact ⟨-3, _, _, fun post h => by unfold wpX_open; exact ef_xF1 a1 a4 (br_f (by decide) (ef_xH1 d4 (br_f (by decide) (br_f N1 (ef_xN1 hm (br_f (by decide) ⟨vd, nm_r (ef_nX16 d4 e) (br_t rfl h)⟩)))))),
              fun post h => by unfold wpY_open; exact ef_yF1 a1 a4 (ef_yH1 d4 (br_f (by decide) (ef_yNm2 hm ⟨vd, br_t (ef_nY16 d4 e) h⟩))), ef_mk S T H⟩
          · have ed : hn d < 16 := by omega
            have vh := vp_in_nI (n := hn d) (N := 16) ed (by decide)
            have ch := ef_cl ed (by omega)
            by_cases g : kd (hn d) = 1
            · obtain ⟨r, r1, r2, r3, fX, fY⟩ := ef_find S ed (nI m)
              by_cases er : r = 16
              · subst er
                exact ⟨-3, _, _, fun post h => by unfold wpX_open; exact ef_xF1 a1 a4 (br_f (by decide) (ef_xH1 d4 (br_f (by decide) (br_f N1 (ef_xN1 hm (br_f (by decide) ⟨vd, nm_r (ef_nXh d4 e) (br_f (ef_nn1 (by omega)) (br_f N1 ⟨vh, br_t (by rw [ch]; exact g) (fX _ _ _ _ _ _ _ _ _ (br_t rfl h))⟩))⟩)))))),
                  fun post h => by unfold wpY_open; exact ef_yF1 a1 a4 (ef_yH1 d4 (br_f (by decide) (ef_yNm2 hm ⟨vd, br_f (ef_nY0 d4 ed) (br_f N1 ⟨vd, by rw [ef_nYh d4]; exact ⟨vh, br_t (by rw [ch]; exact g) ⟨vd, fY _ _ _ _ _ _ _ _ _ _ (br_t rfl h)⟩⟩⟩)⟩))), ef_mk S T H⟩
              · have er' : r < 16 := by omega
                exact ⟨0, _, _, fun post h => by unfold wpX_open; exact ef_xF1 a1 a4 (br_f (by decide) (ef_xH1 d4 (br_f (by decide) (br_f N1 (ef_xN1 hm (br_f (by decide) ⟨vd, nm_r (ef_nXh d4 e) (br_f (ef_nn1 (by omega)) (br_f N1 ⟨vh, br_t (by rw [ch]; exact g) (fX _ _ _ _ _ _ _ _ _ (by rw [ef_encN er]; exact br_f (ef_nn1 (by omega)) ⟨va, nm_r (ef_xun (by omega) er) h⟩))⟩))⟩)))))),
                  fun post h => by unfold wpY_open; exact ef_yF1 a1 a4 (ef_yH1 d4 (br_f (by decide) (ef_yNm2 hm ⟨vd, br_f (ef_nY0 d4 ed) (br_f N1 ⟨vd, by rw [ef_nYh d4]; exact ⟨vh, br_t (by rw [ch]; exact g) ⟨vd, fY _ _ _ _ _ _ _ _ _ _ (br_f (ef_n16 er') ⟨va, nm_r (ef_yun (by omega)) h⟩)⟩⟩⟩)⟩))), ef_mk S T (ef_Hu H r2)⟩
            · exact ⟨-4, _, _, fun post h => by unfold wpX_open; exact ef_xF1 a1 a4 (br_f (by decide) (ef_xH1 d4 (br_f (by decide) (br_f N1 (ef_xN1 hm (br_f (by decide) ⟨vd, nm_r (ef_nXh d4 e) (br_f (ef_nn1 (by omega)) (br_f N1 ⟨vh, br_f (by rw [ch]; exact g) h⟩))⟩)))))),
                fun post h => by unfold wpY_open; exact ef_yF1 a1 a4 (ef_yH1 d4 (br_f (by decide) (ef_yNm2 hm ⟨vd, br_f (ef_nY0 d4 ed) (br_f N1 ⟨vd, by rw [ef_nYh d4]; exact ⟨vh, br_f (by rw [ch]; exact g) h⟩⟩)⟩))), ef_mk S T H⟩
        · exact ⟨-1, _, _, fun post h => by unfold wpX_open; exact ef_xF1 a1 a4 (br_f (by decide) (ef_xH1 d4 (br_f (by decide) (br_f N1 (ef_xN0 N2 (br_t rfl h)))))),
            fun post h => by unfold wpY_open; exact ef_yF1 a1 a4 (ef_yH1 d4 (br_f (by decide) (ef_yNm0 N1 N2 h))), ef_mk S T H⟩
    · exact ⟨-1, _, _, fun post h => by unfold wpX_open; exact ef_xF1 a1 a4 (br_f (by decide) (ef_xH0 D (br_t rfl h))),
        fun post h => by unfold wpY_open; exact ef_yF1 a1 a4 (ef_yH0 D (br_t rfl h)), ef_mk S T H⟩
  · exact ⟨-1, _, _, fun post h => by unfold wpX_open; exact ef_xF0 A (br_t rfl h), fun post h => by unfold wpY_open; exact ef_yF0 A h, ef_mk S T H⟩
theorem i_vc_open {k : Nat} {u : SX} {v : SY} (I : i_Rel k u v) (hk : k + 5 ≤ 2560) (v1 : Int32) (v2 : Int32) (v3 : Int32) : wpX_open (fun r u' => wpY_open (fun r' v' => r' = r ∧ i_Rel (k + 5) u' v') v v1 v2 v3) u v1 v2 v3 := by
  obtain ⟨sv, kd, iy, nm, sk, si, sn, dt, us, pa, cp, spa, scp, hn, rfl, rfl, S, T, H⟩ := I
  obtain ⟨r, u', v', hX, hY, R⟩ := ef_open (sv := sv) (dt := dt) (us := us) (k + 5) S T H v1 v2 v3
  exact hX _ (hY _ ⟨rfl, R⟩)
end EFT
