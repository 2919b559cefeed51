/-! write, read -/
section EFT
variable {sv : Int32} {kd iy nm sk si sn dt us pr cx sp sc cy sy no hy : Nat → Int32} {pa cp spa scp hn : Nat → Nat}
theorem ef_free (cp scp : Nat → Nat) : ∃ r, r ≤ 24 ∧ (r < 24 → ¬ (ef_hd cp r ∨ ef_hd scp r)) ∧ ∀ j, j < r → ef_hd cp j ∨ ef_hd scp j := by
  obtain ⟨r, h1, h2, h3, h4⟩ := ef_least (fun c => ¬ (ef_hd cp c ∨ ef_hd scp c)) 0 24 (by omega)
  exact ⟨r, h2, h3, fun j hj => Classical.byContradiction (h4 j (Nat.zero_le j) hj)⟩
theorem ef_xW105 {post : Int32 → SX → Prop} {o c : Nat} {y : Int32} (ho : o < 24) (hc : c < 32) (h : post 0 (sv, kd, pr, nm, cx, sk, sp, sn, sc, upd dt (4 * o + c % 4) y, no)) : wX_write_105 post (nI c) y (nI o) sv kd pr nm cx sk sp sn sc dt no := by
  unfold wX_write_105
  rw [ef_r4 (by omega), ef_p4, nI_clamp (by omega)]
  exact ⟨by decide, vp_in_nI (by omega) (by decide), nm_e h⟩
theorem ef_xW69 {post : Int32 → SX → Prop} {p o c r : Nat} {y : Int32} (hp : p < 128) (ho : o ≤ 24) (hc : c < 32) (hh : ∀ p, p < 128 → cp p ≤ 24) (hs : ∀ p, p < 128 → scp p ≤ 24) (r1 : r ≤ 24) (r2 : r < 24 → ¬ (ef_hd cp r ∨ ef_hd scp r)) (r3 : ∀ j, j < r → ef_hd cp j ∨ ef_hd scp j)
    (a : r = 24 → post (-2) (sv, kd, pr, nm, ef_X 24 cp, sk, sp, sn, ef_X 24 scp, dt, no)) (b : r < 24 → post 0 (sv, kd, pr, nm, ef_X 24 (ef_un cp p r), sk, sp, sn, ef_X 24 scp, upd (ef_fl dt r o 4) (4 * r + c % 4) y, no)) : wX_write_69 post (nI c) y (nI p) (ef_enc 24 o) sv kd pr nm (ef_X 24 cp) sk sp sn (ef_X 24 scp) dt no := by
  unfold wX_write_69
  refine ef_xFC hh hs r1 r2 r3 ?_
  by_cases e : r = 24
  · rw [e, ef_encB]
    exact br_t rfl (a e)
  · have lr : r < 24 := by omega
    rw [ef_encN e]
    exact br_f (ef_nn1 (by omega)) (ef_xFi lr ho ⟨vp_in_nI hp (by decide), nm_r (ef_xun (by omega) e) (ef_xW105 lr hc (b lr))⟩)
theorem ef_yW82 {post : Int32 → SY → Prop} {p o c r : Nat} {y : Int32} (hp : p < 128) (ho : o ≤ 24) (hc : c < 32) (S : ef_St kd iy nm pa cp) (T : ef_St sk si sn spa scp) (r1 : r ≤ 24) (r2 : r < 24 → ¬ (ef_hd cp r ∨ ef_hd scp r)) (r3 : ∀ j, j < r → ef_hd cp j ∨ ef_hd scp j)
    (a : r = 24 → ∀ us : Nat → Int32, post (-2) (sv, kd, iy, nm, ef_Y cp, sk, si, sn, ef_Y scp, dt, us, hy)) (b : r < 24 → ∀ us : Nat → Int32, post 0 (sv, kd, iy, nm, ef_Y (ef_un cp p r), sk, si, sn, ef_Y scp, upd (ef_fl dt r o 4) (4 * r + c % 4) y, us, hy)) : wY_write_82 post (nI c) y (nI p) (nI o) sv kd iy nm (ef_Y cp) sk si sn (ef_Y scp) dt us hy := by
  unfold wY_write_82
  refine ef_yCo S T (fun us hu => ?_)
  by_cases e : r = 24
  · rw [ef_cna (P := fun c => ef_hd cp c ∨ ef_hd scp c) (n := 24) (fun j hj => r3 j (by omega))]
    exact br_t rfl (a e us)
  · have lr : r < 24 := by omega
    have cn := ef_cnl (P := fun c => ef_hd cp c ∨ ef_hd scp c) lr (r2 lr)
    have w := ef_yW102 (x2 := nI c) (x3 := y) (x5 := nI p) (x6 := nI o) lr ((hu r lr).mpr (r2 lr)) (fun j hj z => (hu j (by omega)).mp z (r3 j hj)) ⟨5, ef_yW130 hp hc lr ho (b lr us) 5 0 (by omega) (by omega)⟩ 25 24 (by omega) (by omega) 24 (fun z => absurd z (by omega))
    rw [show nI 24 + (-1) = 23 from by decide] at w
    exact br_f (fun z => absurd ((nI_eq (b := 24) (by omega) (by decide)).mp z) (by omega)) ⟨25, w⟩
theorem ef_G0 (T : ef_St sk si sn spa scp) (hG : ef_G (fun c => ef_M sk scp 128 c) 0 kd cp 128 us) {c : Nat} (hc : c < 24) : us c = 0 ↔ ¬ ef_hd scp c := by
  have hG' : us c = 0 ↔ ¬ (ef_M sk scp 128 c ∨ ((0 : Int32) ≠ 0 ∧ ef_M kd cp 128 c)) := hG c (by omega)
  rw [hG', ef_Mh T hc]
  exact ⟨fun z o => z (Or.inl o), fun z o => o.elim z (fun q => q.1 rfl)⟩
theorem ef_write (k : Nat) (S : ef_St kd iy nm pa cp) (T : ef_St sk si sn spa scp) (H : ∀ j, j < 4 → hn j ≤ 16) (v1 v2 v3 : Int32) : ∃ (r : Int32) (u' : SX) (V : (Nat → Int32) → SY),
    (∀ post : Int32 → SX → Prop, post r u' → wpX_write post (sv, kd, ef_X 16 pa, nm, ef_X 24 cp, sk, ef_X 16 spa, sn, ef_X 24 scp, dt, ef_X 16 hn) v1 v2 v3) ∧
    (∀ post : Int32 → SY → Prop, (∀ us, post r (V us)) → wpY_write post (sv, kd, iy, nm, ef_Y cp, sk, si, sn, ef_Y scp, dt, us, ef_Y hn) v1 v2 v3) ∧ ∀ us, i_Rel k u' (V us) := by
  by_cases D : ∃ j, j < 4 ∧ v1 = nI j
  · obtain ⟨d, d4, rfl⟩ := D
    have vd := vp_in_nI (n := d) (N := 4) d4 (by decide)
    have Hd := H d d4
    by_cases C : ∃ j, j < 32 ∧ v2 = nI j
    · obtain ⟨c, hc, rfl⟩ := C
      by_cases e : hn d = 16
      · exact ⟨-3, _, fun us => (sv, kd, iy, nm, ef_Y cp, sk, si, sn, ef_Y scp, dt, us, ef_Y hn), fun post h => by unfold wpX_write; exact ef_xH1 d4 (br_f (by decide) (ef_xC1 hc (br_f (by decide) (ef_xFFa d4 e (br_f (by decide) h))))),
          fun post h => by unfold wpY_write; exact ef_yH1 d4 (br_f (by decide) (ef_yR1 31 rfl (by decide) (by omega) (ef_yWa d4 e (br_f (by decide) (h us))))), fun us => ef_mk S T H⟩
      · have ed : hn d < 16 := by omega
        by_cases g : kd (hn d) = 2
        · have hh := S.2.2.2.2.2.1
          have hs := T.2.2.2.2.2.1
          have hp : 8 * hn d + c / 4 < 128 := by omega
          have vp := vp_in_nI (n := 8 * hn d + c / 4) (N := 128) hp (by decide)
          have cpl : (nI (8 * hn d + c / 4)).toNatClampNeg = 8 * hn d + c / 4 := nI_clamp (by omega)
          have ho := hh (8 * hn d + c / 4) hp
          have kp : kd ((8 * hn d + c / 4) / 8) = 2 := by rw [show (8 * hn d + c / 4) / 8 = hn d from by omega]; exact g
          -- each side up to the old copy
          have wX : ∀ (post : Int32 → SX → Prop), ((cp (8 * hn d + c / 4) = 24 → wX_write_69 post (nI c) v3 (nI (8 * hn d + c / 4)) (ef_enc 24 (cp (8 * hn d + c / 4))) sv kd (ef_X 16 pa) nm (ef_X 24 cp) sk (ef_X 16 spa) sn (ef_X 24 scp) dt (ef_X 16 hn)) ∧ (cp (8 * hn d + c / 4) < 24 → (ef_hd scp (cp (8 * hn d + c / 4)) → wX_write_69 post (nI c) v3 (nI (8 * hn d + c / 4)) (ef_enc 24 (cp (8 * hn d + c / 4))) sv kd (ef_X 16 pa) nm (ef_X 24 cp) sk (ef_X 16 spa) sn (ef_X 24 scp) dt (ef_X 16 hn)) ∧ (¬ ef_hd scp (cp (8 * hn d + c / 4)) → wX_write_105 post (nI c) v3 (nI (cp (8 * hn d + c / 4))) sv kd (ef_X 16 pa) nm (ef_X 24 cp) sk (ef_X 16 spa) sn (ef_X 24 scp) dt (ef_X 16 hn)))) → wpX_write post (sv, kd, ef_X 16 pa, nm, ef_X 24 cp, sk, ef_X 16 spa, sn, ef_X 24 scp, dt, ef_X 16 hn) (nI d) (nI c) v3 := by
            intro post ⟨h1, h2⟩
            unfold wpX_write
            refine ef_xH1 d4 (br_f (by decide) (ef_xC1 hc (br_f (by decide) (ef_xFFc d4 ed g (br_t rfl ⟨vd, by decide, ?_⟩)))))
            rw [ef_nXh d4 e, ef_d4 (by omega)]
            refine ef_xPl ⟨vp, nm_r (e' := ef_enc 24 (cp (8 * hn d + c / 4))) (by rw [cpl]; rfl) ?_⟩
            by_cases q : cp (8 * hn d + c / 4) = 24
            · exact br_t ((ef_encI (by omega)).mpr q) (h1 q)
            · have lq : cp (8 * hn d + c / 4) < 24 := by omega
              have h2' := h2 lq
              rw [ef_encN q] at h2' ⊢
              exact br_f (ef_nn1 (by omega)) (ef_xHCs lq hs (fun z => br_f (by decide) (h2'.1 z)) (fun z => br_t rfl (h2'.2 z)))
          have wY : ∀ (post : Int32 → SY → Prop), ((cp (8 * hn d + c / 4) = 24 → ∀ us, wY_write_82 post (nI c) v3 (nI (8 * hn d + c / 4)) (nI (cp (8 * hn d + c / 4))) sv kd iy nm (ef_Y cp) sk si sn (ef_Y scp) dt us (ef_Y hn)) ∧ (cp (8 * hn d + c / 4) < 24 → (ef_hd scp (cp (8 * hn d + c / 4)) → ∀ us, wY_write_82 post (nI c) v3 (nI (8 * hn d + c / 4)) (nI (cp (8 * hn d + c / 4))) sv kd iy nm (ef_Y cp) sk si sn (ef_Y scp) dt us (ef_Y hn)) ∧ (¬ ef_hd scp (cp (8 * hn d + c / 4)) → ∀ us, wY_write_186 post (nI c) v3 (nI (8 * hn d + c / 4)) sv kd iy nm (ef_Y cp) sk si sn (ef_Y scp) dt us (ef_Y hn)))) → wpY_write post (sv, kd, iy, nm, ef_Y cp, sk, si, sn, ef_Y scp, dt, us, ef_Y hn) (nI d) (nI c) v3 := by
            intro post ⟨h1, h2⟩
            unfold wpY_write
            refine ef_yH1 d4 (br_f (by decide) (ef_yR1 31 rfl (by decide) (by omega) (ef_yWc d4 ed g (br_t rfl ⟨vd, by decide, nm_r (e' := nI (8 * hn d + c / 4)) (by rw [ef_nYh d4, ef_d4 (by omega), ef_pl8]) ⟨vp, nm_r (e' := nI (cp (8 * hn d + c / 4))) (by rw [cpl]; rfl) (ef_yFU hh hs (fun us hG => ?_))⟩⟩))))
            by_cases q : cp (8 * hn d + c / 4) = 24
            · exact br_t (by rw [q]; rfl) (h1 q us)
            · have lq : cp (8 * hn d + c / 4) < 24 := by omega
              have hu := ef_G0 T hG lq
              have h2' := h2 lq
              refine br_f (fun z => q ((nI_eq (b := 24) (by omega) (by decide)).mp z)) ⟨vp_in_nI (by omega) (by decide), ?_⟩
              rw [nI_clamp (by omega : cp (8 * hn d + c / 4) < 2 ^ 31)]
              by_cases z : ef_hd scp (cp (8 * hn d + c / 4))
              · exact br_f (fun y => hu.mp y z) (h2'.1 z us)
              · exact br_t (hu.mpr z) (h2'.2 z us)
          obtain ⟨r, r1, r2, r3⟩ := ef_free cp scp
          by_cases nw : cp (8 * hn d + c / 4) = 24 ∨ ef_hd scp (cp (8 * hn d + c / 4))
          · by_cases er : r = 24
            · have fX := fun (post : Int32 → SX → Prop) h => ef_xW69 (post := post) (sv := sv) (kd := kd) (pr := ef_X 16 pa) (nm := nm) (sk := sk) (sp := ef_X 16 spa) (sn := sn) (dt := dt) (no := ef_X 16 hn) (y := v3) hp ho hc hh hs r1 r2 r3 (fun _ => h) (fun z => absurd er (by omega))
              have fY := fun (post : Int32 → SY → Prop) us h => ef_yW82 (post := post) (sv := sv) (dt := dt) (us := us) (hy := ef_Y hn) (y := v3) hp ho hc S T r1 r2 r3 (fun _ => h) (fun z => absurd er (by omega))
              exact ⟨-2, _, fun us => (sv, kd, iy, nm, ef_Y cp, sk, si, sn, ef_Y scp, dt, us, ef_Y hn), fun post h => wX post ⟨fun _ => fX post h, fun lq => ⟨fun _ => fX post h, fun z => absurd nw (fun o => o.elim (fun y => absurd y (by omega)) z)⟩⟩,
                fun post h => wY post ⟨fun _ us => fY post us h, fun lq => ⟨fun _ us => fY post us h, fun z => absurd nw (fun o => o.elim (fun y => absurd y (by omega)) z)⟩⟩, fun us => ef_mk S T H⟩
            · have lr : r < 24 := by omega
              have fX := fun (post : Int32 → SX → Prop) h => ef_xW69 (post := post) (sv := sv) (kd := kd) (pr := ef_X 16 pa) (nm := nm) (sk := sk) (sp := ef_X 16 spa) (sn := sn) (dt := dt) (no := ef_X 16 hn) (y := v3) hp ho hc hh hs r1 r2 r3 (fun z => absurd z er) (fun _ => h)
              have fY := fun (post : Int32 → SY → Prop) us h => ef_yW82 (post := post) (sv := sv) (dt := dt) (us := us) (hy := ef_Y hn) (y := v3) hp ho hc S T r1 r2 r3 (fun z => absurd z er) (fun _ => h)
              exact ⟨0, _, fun us => (sv, kd, iy, nm, ef_Y (ef_un cp (8 * hn d + c / 4) r), sk, si, sn, ef_Y scp, upd (ef_fl dt r (cp (8 * hn d + c / 4)) 4) (4 * r + c % 4) v3, us, ef_Y hn), fun post h => wX post ⟨fun _ => fX post h, fun lq => ⟨fun _ => fX post h, fun z => absurd nw (fun o => o.elim (fun y => absurd y (by omega)) z)⟩⟩,
                fun post h => wY post ⟨fun _ us => fY post us h, fun lq => ⟨fun _ us => fY post us h, fun z => absurd nw (fun o => o.elim (fun y => absurd y (by omega)) z)⟩⟩, fun us => ef_mk (ef_St_put S kp r1) T H⟩
          · have lq : cp (8 * hn d + c / 4) < 24 := Nat.lt_of_le_of_ne ho (fun z => nw (Or.inl z))
            exact ⟨0, _, fun us => (sv, kd, iy, nm, ef_Y cp, sk, si, sn, ef_Y scp, upd dt (4 * cp (8 * hn d + c / 4) + c % 4) v3, us, ef_Y hn), fun post h => wX post ⟨fun z => absurd (Or.inl z) nw, fun _ => ⟨fun z => absurd (Or.inr z) nw, fun _ => ef_xW105 lq hc h⟩⟩,
              fun post h => wY post ⟨fun z => absurd (Or.inl z) nw, fun _ => ⟨fun z => absurd (Or.inr z) nw, fun _ us => ef_yW186 hp hc lq (h us)⟩⟩, fun us => ef_mk S T H⟩
        · exact ⟨-4, _, fun us => (sv, kd, iy, nm, ef_Y cp, sk, si, sn, ef_Y scp, dt, us, ef_Y hn), fun post h => by unfold wpX_write; exact ef_xH1 d4 (br_f (by decide) (ef_xC1 hc (br_f (by decide) (ef_xFFb d4 ed g (br_f (by decide) h))))),
            fun post h => by unfold wpY_write; exact ef_yH1 d4 (br_f (by decide) (ef_yR1 31 rfl (by decide) (by omega) (ef_yWb d4 ed g (br_f (by decide) (h us))))), fun us => ef_mk S T H⟩
    · exact ⟨-1, _, fun us => (sv, kd, iy, nm, ef_Y cp, sk, si, sn, ef_Y scp, dt, us, ef_Y hn), fun post h => by unfold wpX_write; exact ef_xH1 d4 (br_f (by decide) (ef_xC0 C (br_t rfl h))),
        fun post h => by unfold wpY_write; exact ef_yH1 d4 (br_f (by decide) (ef_yR0 31 rfl C (h us))), fun us => ef_mk S T H⟩
  · exact ⟨-1, _, fun us => (sv, kd, iy, nm, ef_Y cp, sk, si, sn, ef_Y scp, dt, us, ef_Y hn), fun post h => by unfold wpX_write; exact ef_xH0 D (br_t rfl h), fun post h => by unfold wpY_write; exact ef_yH0 D (br_t rfl (h us)), fun us => ef_mk S T H⟩
theorem i_vc_write {k : Nat} {u : SX} {v : SY} (I : i_Rel k u v) (hk : k + 5 ≤ 2560) (v1 : Int32) (v2 : Int32) (v3 : Int32) : wpX_write (fun r u' => wpY_write (fun r' v' => r' = r ∧ i_Rel (k + 5) u' v') v v1 v2 v3) u v1 v2 v3 := by
  obtain ⟨sv, kd, iy, nm, sk, si, sn, dt, us, pa, cp, spa, scp, hn, rfl, rfl, S, T, H⟩ := I
  obtain ⟨r, u', V, hX, hY, R⟩ := ef_write (sv := sv) (dt := dt) (us := us) (k + 5) S T H v1 v2 v3
  exact hX _ (hY _ (fun us => ⟨rfl, R us⟩))
/-! B: read -/
theorem ef_read (S : ef_St kd iy nm pa cp) (H : ∀ j, j < 4 → hn j ≤ 16) (v1 v2 : Int32) : ∃ r,
    (∀ post : Int32 → Prop, post r → wpX_read post (sv, kd, pr, nm, ef_X 24 cp, sk, sp, sn, sc, dt, ef_X 16 hn) v1 v2) ∧ (∀ post : Int32 → Prop, post r → wpY_read post (sv, kd, iy, nm, ef_Y cp, sk, si, sn, sy, dt, us, ef_Y hn) v1 v2) := by
  by_cases D : ∃ j, j < 4 ∧ v1 = nI j
  · obtain ⟨d, d4, rfl⟩ := D
    have vd := vp_in_nI (n := d) (N := 4) d4 (by decide)
    have Hd := H d d4
    by_cases C : ∃ j, j < 32 ∧ v2 = nI j
    · obtain ⟨c, hc, rfl⟩ := C
      have c0 : ¬ nI c < 0 := nI_pos (by omega)
      have c31 : ¬ (31 : Int32) < nI c := nI_nlt (a := 31) (b := c) (by omega) (by decide)
      by_cases e : hn d = 16
      · exact ⟨0, fun post h => by unfold wpX_read; exact ef_xH1 d4 (br_f (by decide) (ef_xC1 hc (br_f (by decide) (ef_xFFa d4 e (br_f (by decide) h))))),
          fun post h => by unfold wpY_read; exact ef_yH1 d4 (br_f (by decide) (br_f c0 (br_f c31 (ef_yWa d4 e (br_f (by decide) h)))))⟩
      · have ed : hn d < 16 := by omega
        by_cases g : kd (hn d) = 2
        · have hp : 8 * hn d + c / 4 < 128 := by omega
          have vp := vp_in_nI (n := 8 * hn d + c / 4) (N := 128) hp (by decide)
          have cpl : (nI (8 * hn d + c / 4)).toNatClampNeg = 8 * hn d + c / 4 := nI_clamp (by omega)
          have ho := S.2.2.2.2.2.1 (8 * hn d + c / 4) hp
          by_cases q : cp (8 * hn d + c / 4) = 24
          · refine ⟨0, fun post h => ?_, fun post h => ?_⟩
            · unfold wpX_read
              refine ef_xH1 d4 (br_f (by decide) (ef_xC1 hc (br_f (by decide) (ef_xFFc d4 ed g (br_t rfl ⟨vd, by decide, ?_⟩)))))
              rw [ef_nXh d4 e, ef_d4 (by omega)]
              exact ef_xPl ⟨vp, nm_r (e' := -1) (by rw [cpl]; exact (ef_encI (by omega)).mpr q) (br_t rfl h)⟩
            · unfold wpY_read
              refine ef_yH1 d4 (br_f (by decide) (br_f c0 (br_f c31 (ef_yWc d4 ed g (br_t rfl ⟨vd, by decide, ?_⟩)))))
              rw [ef_nYh d4, ef_d4 (by omega), ef_pl8, cpl, ef_Yv, q]
              exact ⟨vp, nm_e (br_t rfl h)⟩
          · have lq : cp (8 * hn d + c / 4) < 24 := by omega
            refine ⟨dt (4 * cp (8 * hn d + c / 4) + c % 4), fun post h => ?_, fun post h => ?_⟩
            · unfold wpX_read
              refine ef_xH1 d4 (br_f (by decide) (ef_xC1 hc (br_f (by decide) (ef_xFFc d4 ed g (br_t rfl ⟨vd, by decide, ?_⟩)))))
              rw [ef_nXh d4 e, ef_r4 (by omega), ef_d4 (by omega)]
              refine ef_xPl ⟨vp, nm_r (e' := nI (cp (8 * hn d + c / 4))) (by rw [cpl]; exact ef_encN q) (br_f (ef_nn1 (by omega)) ⟨by decide, ?_⟩)⟩
              rw [ef_p4, nI_clamp (by omega)]
              exact ⟨vp_in_nI (by omega) (by decide), h⟩
            · unfold wpY_read
              refine ef_yH1 d4 (br_f (by decide) (br_f c0 (br_f c31 (ef_yWc d4 ed g (br_t rfl ⟨vd, by decide, ?_⟩)))))
              rw [ef_r4 (by omega), ef_nYh d4, ef_d4 (by omega), ef_pl8, cpl, ef_Yv]
              refine ⟨vp, nm_e (br_f (fun z => q ((nI_eq (b := 24) (by omega) (by decide)).mp z)) ⟨by decide, ?_⟩)⟩
              rw [ef_p48, nI_clamp (by omega)]
              exact ⟨vp_in_nI (by omega) (by decide), h⟩
        · exact ⟨0, fun post h => by unfold wpX_read; exact ef_xH1 d4 (br_f (by decide) (ef_xC1 hc (br_f (by decide) (ef_xFFb d4 ed g (br_f (by decide) h))))),
            fun post h => by unfold wpY_read; exact ef_yH1 d4 (br_f (by decide) (br_f c0 (br_f c31 (ef_yWb d4 ed g (br_f (by decide) h)))))⟩
    · refine ⟨0, fun post h => by unfold wpX_read; exact ef_xH1 d4 (br_f (by decide) (ef_xC0 C (br_t rfl h))), fun post h => ?_⟩
      unfold wpY_read
      refine ef_yH1 d4 (br_f (by decide) ?_)
      by_cases c0 : v2 < 0
      · exact br_t c0 h
      · obtain ⟨m, h1, h2, em⟩ := ef_out C c0
        exact br_f c0 (br_t (by rw [em]; exact nI_lt (a := 31) (by omega) h2) h)
  · exact ⟨0, fun post h => by unfold wpX_read; exact ef_xH0 D (br_t rfl h), fun post h => by unfold wpY_read; exact ef_yH0 D (br_t rfl h)⟩
theorem i_vc_read {k : Nat} {u : SX} {v : SY} (I : i_Rel k u v) (hk : k + 5 ≤ 2560) (v1 : Int32) (v2 : Int32) : wpX_read (fun r => wpY_read (fun r' => r' = r ∧ i_Rel (k + 5) u v) v v1 v2) u v1 v2 := by
  have R : i_Rel (k + 5) u v := i_up I
  obtain ⟨sv, kd, iy, nm, sk, si, sn, dt, us, pa, cp, spa, scp, hn, rfl, rfl, S, T, H⟩ := I
  obtain ⟨r, hX, hY⟩ := ef_read (sv := sv) (pr := ef_X 16 pa) (sk := sk) (sp := ef_X 16 spa) (sn := sn) (sc := ef_X 24 scp) (si := si) (sy := ef_Y scp) (dt := dt) (us := us) S H v1 v2
  exact hX _ (hY _ ⟨rfl, R⟩)
end EFT
