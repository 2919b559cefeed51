/-! the reference's own methods, each for a general post -/
section EFY
variable {sv : Int32} {kd iy nm cy sk si sn sy dt us hy : Nat → Int32} {pa cp scp hn : Nat → Nat}
theorem ef_Yv {f : Nat → Nat} {j : Nat} : ef_Y f j = nI (f j) := rfl
/-! A: ranges of arguments -/
theorem ef_yH1 {post : Int32 → Prop} {j : Nat} (hj : j < 4) (h : post 1) : wpY_isHandle post (sv, kd, iy, nm, cy, sk, si, sn, sy, dt, us, hy) (nI j) :=
  br_f (nI_pos (by omega)) (br_f (nI_nlt (a := 3) (b := j) (by omega) (by decide)) h)
theorem ef_yH0 {post : Int32 → Prop} {x : Int32} (hx : ¬ ∃ j, j < 4 ∧ x = nI j) (h : post 0) : wpY_isHandle post (sv, kd, iy, nm, cy, sk, si, sn, sy, dt, us, hy) x := by
  by_cases h0 : x < 0
  · exact br_t h0 h
  · obtain ⟨m, h1, h2, e⟩ := ef_out hx h0
    exact br_f h0 (br_t (show (3 : Int32) < x by rw [e]; exact nI_lt (a := 3) (by omega) h2) h)
theorem ef_yN1 {post : Int32 → Prop} {j : Nat} (hj : j < 100) (h : post 1) : wpY_isName post (sv, kd, iy, nm, cy, sk, si, sn, sy, dt, us, hy) (nI j) :=
  br_f (nI_pos (by omega)) (br_f (nI_nlt (a := 99) (b := j) (by omega) (by decide)) h)
theorem ef_yN0 {post : Int32 → Prop} {x : Int32} (hx : ¬ ∃ j, j < 100 ∧ x = nI j) (h : post 0) : wpY_isName post (sv, kd, iy, nm, cy, sk, si, sn, sy, dt, us, hy) x := by
  by_cases h0 : x < 0
  · exact br_t h0 h
  · obtain ⟨m, h1, h2, e⟩ := ef_out hx h0
    exact br_f h0 (br_t (show (99 : Int32) < x by rw [e]; exact nI_lt (a := 99) (by omega) h2) h)
theorem ef_yF1 {A B : Prop} {j : Nat} (h1 : 1 ≤ j) (hj : j < 4) (b : B) : (nI j < 1 → A) ∧ (¬ nI j < 1 → ((3 < nI j → A) ∧ (¬ 3 < nI j → B))) :=
  br_f (nI_nlt (b := 1) h1 (by omega)) (br_f (nI_nlt (a := 3) (b := j) (by omega) (by decide)) b)
theorem ef_yF0 {A B : Prop} {x : Int32} (hx : ¬ ∃ j, 1 ≤ j ∧ j < 4 ∧ x = nI j) (a : A) : (x < 1 → A) ∧ (¬ x < 1 → ((3 < x → A) ∧ (¬ 3 < x → B))) := by
  by_cases h0 : x < 1
  · exact br_t h0 a
  · obtain ⟨m, h1, h2, e⟩ := ef_out1 hx h0
    exact br_f h0 (br_t (show (3 : Int32) < x by rw [e]; exact nI_lt (a := 3) (by omega) h2) a)
/-- 0 .. n, tested as x < 0, then x ≤ n -/
theorem ef_yR1 {A B : Prop} {j : Nat} {M : Int32} (n : Nat) (hM : M = nI n) (hn : n < 2 ^ 31) (hj : j ≤ n) (b : B) : (nI j < 0 → A) ∧ (¬ nI j < 0 → ((nI j ≤ M → B) ∧ (¬ nI j ≤ M → A))) :=
  br_f (nI_pos (by omega)) (br_t (by rw [hM]; exact nI_le hj hn) b)
theorem ef_yR0 {A B : Prop} {x M : Int32} (n : Nat) (hM : M = nI n) (hx : ¬ ∃ j, j < n + 1 ∧ x = nI j) (a : A) : (x < 0 → A) ∧ (¬ x < 0 → ((x ≤ M → B) ∧ (¬ x ≤ M → A))) := by
  by_cases h0 : x < 0
  · exact br_t h0 a
  · obtain ⟨m, h1, h2, e⟩ := ef_out hx h0
    exact br_f h0 (br_f (by rw [e, hM]; exact nI_ge (by omega) h2) a)
/-! B: faults -/
theorem ef_yW {post : Int32 → Prop} {j : Nat} {t : Int32} (hj : j < 4) (hh : hn j ≤ 16) (a : hn j = 16 → post (-3)) (b : hn j < 16 → kd (hn j) = t → post 0) (c : hn j < 16 → ¬ kd (hn j) = t → post (-4)) : wpY_want post (sv, kd, iy, nm, cy, sk, si, sn, sy, dt, us, ef_Y hn) (nI j) t := by
  have v := vp_in_nI (n := j) (N := 4) hj (by decide)
  refine ⟨v, ?_⟩
  rw [nI_clamp (by omega), ef_Yv]
  by_cases e : hn j = 16
  · exact br_t (by rw [e]; rfl) (a e)
  · refine br_f (fun z => e ((nI_eq (b := 16) (by omega) (by decide)).mp z)) ⟨v, vp_in_nI (by omega) (by decide), ?_⟩
    rw [nI_clamp (by omega)]
    exact br_c (b (by omega)) (c (by omega))
/-! C: scans -/
theorem ef_yFd2 {post : Int32 → Prop} {d r : Nat} {y : Int32} (hz : ∀ j, j < 16 → (kd j ≤ 0 ↔ kd j = 0)) (hE : ∀ j, 1 ≤ j → j < 16 → (pa j = d ↔ (kd j ≠ 0 ∧ iy j = nI d))) (hr : r ≤ 16) (hP : r < 16 → pa r = d ∧ nm r = y) (hN : ∀ j, j < r → ¬ (pa j = d ∧ nm j = y)) (h : post (nI r)) : ∀ (n i : Nat), 16 < n + i → 1 ≤ i → i ≤ r → wY_find_2 post (nI d) y sv kd iy nm cy sk si sn sy dt us hy n (nI i) := by
  intro n
  induction n with
  | zero => intro i h1 h2; omega
  | succ n ih =>
    intro i h1 h2 h3
    have c : (nI i).toNatClampNeg = i := nI_clamp (by omega)
    rw [wY_find_2]
    by_cases e : i = 16
    · have er : r = 16 := by omega
      rw [er] at h
      subst e
      exact br_t (show (16 : Int32) ≤ nI 16 from by decide) h
    · have v := vp_in_nI (n := i) (N := 16) (by omega) (by decide)
      have hx := hE i h2 (by omega)
      have hz' := hz i (by omega)
      refine br_f (nI_ge (b := 16) (by omega) (by decide)) ⟨v, ?_⟩
      rw [c]
      by_cases q : i = r
      · have hq := hP (by omega)
        rw [← q] at hq h
        have g := hx.mp hq.1
        exact br_f (fun z => g.1 (hz'.mp z)) ⟨v, br_t g.2 ⟨v, br_t hq.2 h⟩⟩
      · have hq := hN i (by omega)
        have w := nm_r (nI_1 i) (ih (i + 1) (by omega) (by omega) (by omega))
        by_cases g : kd i = 0
        · exact br_t (hz'.mpr g) w
        · refine br_f (fun z => g (hz'.mp z)) ⟨v, ?_⟩
          by_cases s : iy i = nI d
          · exact br_t s ⟨v, br_f (fun z => hq ⟨hx.mpr ⟨g, s⟩, z⟩) w⟩
          · exact br_f s w
theorem ef_yFd {post : Int32 → Prop} {d r : Nat} {y : Int32} (hz : ∀ j, j < 16 → (kd j ≤ 0 ↔ kd j = 0)) (hE : ∀ j, 1 ≤ j → j < 16 → (pa j = d ↔ (kd j ≠ 0 ∧ iy j = nI d))) (h1 : 1 ≤ r) (hr : r ≤ 16) (hP : r < 16 → pa r = d ∧ nm r = y) (hN : ∀ j, j < r → ¬ (pa j = d ∧ nm j = y)) (h : post (nI r)) : wpY_find post (sv, kd, iy, nm, cy, sk, si, sn, sy, dt, us, hy) (nI d) y :=
  ⟨17, ef_yFd2 hz hE hr hP hN h 17 1 (by omega) (by omega) h1⟩
theorem ef_yNo2 {post : Int32 → Prop} (hz : ∀ j, j < 16 → (kd j ≤ 0 ↔ kd j = 0)) (h : post (nI (ef_cn (fun j => kd j ≠ 0) 16))) : ∀ (n i : Nat), 16 < n + i → i ≤ 16 → wY_nodes_4 post sv kd iy nm cy sk si sn sy dt us hy n (nI (ef_cn (fun j => kd j ≠ 0) i)) (nI i) := by
  intro n
  induction n with
  | zero => intro i h1 h2; omega
  | succ n ih =>
    intro i h1 h2
    have c : (nI i).toNatClampNeg = i := nI_clamp (by omega)
    rw [wY_nodes_4]
    by_cases e : i = 16
    · subst e
      exact br_t (show (16 : Int32) ≤ nI 16 from by decide) h
    · refine br_f (nI_ge (b := 16) (by omega) (by decide)) ⟨vp_in_nI (by omega) (by decide), ?_⟩
      rw [c]
      have hz' := hz i (by omega)
      have w := ih (i + 1) (by omega) (by omega)
      by_cases g : kd i = 0
      · rw [ef_cnf (P := fun j => kd j ≠ 0) (fun z => z g)] at w
        exact br_t (hz'.mpr g) (nm_r (nI_1 i) w)
      · rw [ef_cnt (P := fun j => kd j ≠ 0) g] at w
        exact br_f (fun z => g (hz'.mp z)) (nm_r (nI_1 _) (nm_r (nI_1 i) w))
theorem ef_yNo {post : Int32 → Prop} (hz : ∀ j, j < 16 → (kd j ≤ 0 ↔ kd j = 0)) (h : post (nI (ef_cn (fun j => kd j ≠ 0) 16))) : wpY_nodes post (sv, kd, iy, nm, cy, sk, si, sn, sy, dt, us, hy) :=
  ⟨17, ef_yNo2 hz h 17 0 (by omega) (by omega)⟩
theorem ef_yEn2 {post : Int32 → Prop} {d : Nat} (hz : ∀ j, j < 16 → (kd j ≤ 0 ↔ kd j = 0)) (hE : ∀ j, 1 ≤ j → j < 16 → (pa j = d ↔ (kd j ≠ 0 ∧ iy j = nI d))) (h : post (nI (ef_cn (fun j => pa j = d) 16))) : ∀ (n i : Nat), 16 < n + i → 1 ≤ i → i ≤ 16 → wY_entries_4 post (nI d) sv kd iy nm cy sk si sn sy dt us hy n (nI (ef_cn (fun j => pa j = d) i)) (nI i) := by
  intro n
  induction n with
  | zero => intro i h1 h2; omega
  | succ n ih =>
    intro i h1 h2 h3
    have c : (nI i).toNatClampNeg = i := nI_clamp (by omega)
    rw [wY_entries_4]
    by_cases e : i = 16
    · subst e
      exact br_t (show (16 : Int32) ≤ nI 16 from by decide) h
    · have v := vp_in_nI (n := i) (N := 16) (by omega) (by decide)
      refine br_f (nI_ge (b := 16) (by omega) (by decide)) ⟨v, ?_⟩
      rw [c]
      have hz' := hz i (by omega)
      have hx := hE i h2 (by omega)
      have w := ih (i + 1) (by omega) (by omega) (by omega)
      by_cases g : kd i = 0
      · rw [ef_cnf (P := fun j => pa j = d) (fun z => (hx.mp z).1 g)] at w
        exact br_t (hz'.mpr g) (nm_r (nI_1 i) w)
      · refine br_f (fun z => g (hz'.mp z)) ⟨v, ?_⟩
        by_cases s : iy i = nI d
        · rw [ef_cnt (P := fun j => pa j = d) (hx.mpr ⟨g, s⟩)] at w
          exact br_t s (nm_r (nI_1 _) (nm_r (nI_1 i) w))
        · rw [ef_cnf (P := fun j => pa j = d) (fun z => s (hx.mp z).2)] at w
          exact br_f s (nm_r (nI_1 i) w)
theorem ef_yEn {post : Int32 → Prop} {d : Nat} (hz : ∀ j, j < 16 → (kd j ≤ 0 ↔ kd j = 0)) (hE : ∀ j, 1 ≤ j → j < 16 → (pa j = d ↔ (kd j ≠ 0 ∧ iy j = nI d))) (h0 : ¬ pa 0 = d) (h : post (nI (ef_cn (fun j => pa j = d) 16))) : wpY_entries post (sv, kd, iy, nm, cy, sk, si, sn, sy, dt, us, hy) (nI d) := by
  have w := ef_yEn2 (sv := sv) (nm := nm) (cy := cy) (sk := sk) (si := si) (sn := sn) (sy := sy) (dt := dt) (us := us) (hy := hy) hz hE h 17 1 (by omega) (by omega) (by omega)
  rw [ef_cnf (P := fun j => pa j = d) (i := 0) h0] at w
  exact ⟨17, w⟩
/-! D: make -/
theorem ef_yM149 {post : Int32 → SY → Prop} {a r : Nat} (ha : a < 4) (hr : r < 16) (h : post 0 (sv, kd, iy, nm, ef_Y (ef_fr (8 * r) (8 * r + 8) 24 cp), sk, si, sn, sy, dt, us, ef_Y (ef_un hn a r))) : ∀ (n i : Nat), 8 < n + i → i ≤ 8 → wY_make_149 post (nI a) (nI r) sv n (nI i) kd iy nm ((ef_Y (ef_fr (8 * r) (8 * r + i) 24 cp))) sk si sn sy dt us (ef_Y hn) := by
  intro n
  induction n with
  | zero => intro i h1 h2; omega
  | succ n ih =>
    intro i h1 h2
    rw [wY_make_149]
    by_cases e : i = 8
    · subst e
      refine br_t (show (8 : Int32) ≤ nI 8 from by decide) ⟨vp_in_nI ha (by decide), nm_r (e' := ef_Y (ef_un hn a r)) ?_ h⟩
      rw [nI_clamp (by omega), ef_Yu]
    · have w := ih (i + 1) (by omega) (by omega)
      rw [← Nat.add_assoc (8 * r) i 1, ← ef_frs (by omega), ← ef_Yu] at w
      refine br_f (nI_ge (b := 8) (by omega) (by decide)) ?_
      rw [ef_pl8, nI_clamp (by omega)]
      exact ⟨vp_in_nI (by omega) (by decide), nm_e (nm_r (nI_1 i) w)⟩
theorem ef_yM83 {post : Int32 → SY → Prop} {x1 x2 x3 x4 : Int32} {r : Nat} (h1 : 1 ≤ r) (hr : r ≤ 16) (hP : r < 16 → kd r = 0) (hN : ∀ j, 1 ≤ j → j < r → ¬ kd j = 0) (h : (x4 = 0 → wY_make_124 post x1 x2 x3 (nI r) 2 (nI r) sv kd iy nm cy sk si sn sy dt us hy) ∧ (¬ x4 = 0 → wY_make_124 post x1 x2 x3 (nI r) 1 (nI r) sv kd iy nm cy sk si sn sy dt us hy)) : ∀ (n i : Nat), i < n → i ≤ 15 → ∀ f : Int32, (i < r → f = nI r) → wY_make_83 post x1 x2 x3 x4 sv kd iy nm cy sk si sn sy dt us hy n f (nI i) := by
  intro n
  induction n with
  | zero => intro i h2; omega
  | succ n ih =>
    intro i h2 h3 f hf
    rw [wY_make_83]
    by_cases e : i = 0
    · subst e
      rw [hf (by omega)]
      exact br_t (show nI 0 ≤ (0 : Int32) from by decide) h
    · obtain ⟨k, rfl⟩ : ∃ k, i = k + 1 := ⟨i - 1, by omega⟩
      refine br_f (nI_nle (by omega) (by omega)) ⟨vp_in_nI (by omega) (by decide), ?_⟩
      rw [nI_clamp (by omega)]
      by_cases g : kd (k + 1) = 0
      · refine br_t g (nm_r (pk_m1 k) (ih k (by omega) (by omega) _ (fun z => ?_)))
        by_cases q : k + 1 = r
        · rw [q]
        · exact absurd g (hN (k + 1) (by omega) (by omega))
      · refine br_f g (nm_r (pk_m1 k) (ih k (by omega) (by omega) _ (fun z => hf ?_)))
        apply Nat.lt_of_le_of_ne (by omega)
        intro q
        rw [q] at g
        exact g (hP (by omega))
/-! E: erase -/
theorem ef_yE118 {post : Int32 → SY → Prop} {r : Nat} (hr : r < 16) (h : post 0 (sv, kd, iy, nm, ef_Y (ef_fr (8 * r) (8 * r + 8) 24 cp), sk, si, sn, sy, dt, us, hy)) : ∀ (n i : Nat), 8 < n + i → i ≤ 8 → wY_erase_118 post (nI r) sv n (nI i) kd iy nm ((ef_Y (ef_fr (8 * r) (8 * r + i) 24 cp))) sk si sn sy dt us hy := by
  intro n
  induction n with
  | zero => intro i h1 h2; omega
  | succ n ih =>
    intro i h1 h2
    rw [wY_erase_118]
    by_cases e : i = 8
    · subst e
      exact br_t (show (8 : Int32) ≤ nI 8 from by decide) h
    · have w := ih (i + 1) (by omega) (by omega)
      rw [← Nat.add_assoc (8 * r) i 1, ← ef_frs (by omega), ← ef_Yu] at w
      refine br_f (nI_ge (b := 8) (by omega) (by decide)) ?_
      rw [ef_pl8, nI_clamp (by omega)]
      exact ⟨vp_in_nI (by omega) (by decide), nm_e (nm_r (nI_1 i) w)⟩
theorem ef_yE118' {post : Int32 → SY → Prop} {r : Nat} (hr : r < 16) (h : post 0 (sv, kd, iy, nm, ef_Y (ef_fr (8 * r) (8 * r + 8) 24 cp), sk, si, sn, sy, dt, us, hy)) : ∃ n, wY_erase_118 post (nI r) sv n 0 kd iy nm (ef_Y cp) sk si sn sy dt us hy := by
  have w := ef_yE118 hr h 9 0 (by omega) (by omega)
  rw [show 8 * r + 0 = 8 * r from rfl, ef_fr0] at w
  exact ⟨9, w⟩
/-- from the handles on: busy, full, or gone -/
theorem ef_yE57 {post : Int32 → SY → Prop} {k : Nat} (hk : k < 16) (hh : ∀ j, j < 4 → hn j ≤ 16) (hz : ∀ j, j < 16 → (kd j ≤ 0 ↔ kd j = 0)) (hE : ∀ j, 1 ≤ j → j < 16 → (pa j = k ↔ (kd j ≠ 0 ∧ iy j = nI k))) (h0 : ¬ pa 0 = k) (hf : ¬ kd k = 1 → ∀ j, j < 16 → ¬ pa j = k)
    (a : (∃ j, j < 4 ∧ hn j = k) → post (-6) (sv, kd, iy, nm, ef_Y cp, sk, si, sn, sy, dt, us, ef_Y hn)) (b : (¬ ∃ j, j < 4 ∧ hn j = k) → ¬ ef_cn (fun j => pa j = k) 16 = 0 → post (-2) (sv, kd, iy, nm, ef_Y cp, sk, si, sn, sy, dt, us, ef_Y hn)) (c : (¬ ∃ j, j < 4 ∧ hn j = k) → ef_cn (fun j => pa j = k) 16 = 0 → post 0 (sv, upd kd k 0, iy, nm, ef_Y (ef_fr (8 * k) (8 * k + 8) 24 cp), sk, si, sn, sy, dt, us, ef_Y hn)) :
    ∀ (n i : Nat), 4 < n + i → i ≤ 4 → (∀ j, j < i → hn j ≠ k) → wY_erase_57 post (nI k) sv kd iy nm (ef_Y cp) sk si sn sy dt us (ef_Y hn) n (nI i) := by
  intro n
  induction n with
  | zero => intro i h1 h2; omega
  | succ n ih =>
    intro i h1 h2 h3
    rw [wY_erase_57]
    have v := vp_in_nI (n := k) (N := 16) hk (by decide)
    have ck : (nI k).toNatClampNeg = k := nI_clamp (by omega)
    by_cases e : i = 4
    · subst e
      have hno : ¬ ∃ j, j < 4 ∧ hn j = k := fun ⟨j, h4, h5⟩ => h3 j h4 h5
      refine br_t (show (4 : Int32) ≤ nI 4 from by decide) ⟨v, ?_⟩
      rw [ck]
      by_cases g : kd k = 1
      · refine br_t g (ef_yEn hz hE h0 ?_)
        have hl := ef_cnle (fun j => pa j = k) 16
        by_cases q : ef_cn (fun j => pa j = k) 16 = 0
        · rw [q]
          exact br_t (show nI 0 ≤ (0 : Int32) from by decide) ⟨v, nm_e (ef_yE118' hk (c hno q))⟩
        · exact br_f (nI_nle (by omega) (by omega)) (b hno q)
      · exact br_f g ⟨v, nm_e (ef_yE118' hk (c hno (ef_cn0 (hf g))))⟩
    · refine br_f (nI_ge (b := 4) (by omega) (by decide)) ⟨vp_in_nI (by omega) (by decide), ?_⟩
      rw [nI_clamp (by omega : i < 2 ^ 31), ef_Yv]
      have hb := hh i (by omega)
      by_cases g : hn i = k
      · exact br_t (by rw [g]) (a ⟨i, by omega, g⟩)
      · refine br_f (fun z => g ((nI_eq (by omega) (by omega)).mp z)) (nm_r (nI_1 i) (ih (i + 1) (by omega) (by omega) (fun j hj => ?_)))
        by_cases ej : j = i
        · rw [ej]; exact g
        · exact h3 j (by omega)
/-! F: rename -/
theorem ef_yR147 {post : Int32 → SY → Prop} {e k p : Nat} {y : Int32} (he : e < 4) (k0 : k ≠ 0) (hk : k < 16) (hp : p < 16) (hkp : kd p = 1) (hpe : hn e = p) (S : ef_St kd iy nm pa cp)
    (a : (∃ i, i < 16 ∧ ef_an pa p i = k) → post (-7) (sv, kd, iy, nm, cy, sk, si, sn, sy, dt, us, ef_Y hn)) (b : (¬ ∃ i, i < 16 ∧ ef_an pa p i = k) → post 0 (sv, kd, upd iy k (nI p), upd nm k y, cy, sk, si, sn, sy, dt, us, ef_Y hn)) :
    ∀ (n i : Nat), 16 < n + i → i ≤ 16 → (∀ j, j < i → ef_an pa p j ≠ k) → wY_rename_147 post (nI e) y (nI k) sv kd iy nm cy sk si sn sy dt us (ef_Y hn) n (nI (ef_q (ef_an pa p i))) (nI i) := by
  intro n
  induction n with
  | zero => intro i h1 h2; omega
  | succ n ih =>
    intro i h1 h2 h3
    rw [wY_rename_147]
    have v := vp_in_nI (n := k) (N := 16) hk (by decide)
    have ck : (nI k).toNatClampNeg = k := nI_clamp (by omega)
    by_cases ei : i = 16
    · subst ei
      refine br_t (show (16 : Int32) ≤ nI 16 from by decide) ⟨vp_in_nI he (by decide), v, ?_⟩
      rw [nI_clamp (by omega : e < 2 ^ 31), ef_Yv, hpe, ck]
      exact nm_e ⟨v, nm_e (b (fun ⟨j, h4, h5⟩ => h3 j h4 h5))⟩
    · refine br_f (nI_ge (b := 16) (by omega) (by decide)) ?_
      have hA : ef_an pa p i ≤ 16 := by
        rcases ef_an_in S hp hkp i with z | z
        · omega
        · omega
      have hq := ef_qlt hA
      have hu := ef_q_up S hp hkp i
      by_cases g : ef_an pa p i = k
      · exact br_t (by rw [(ef_qk k0 hk).mpr g]) (a ⟨i, by omega, g⟩)
      · refine br_f (fun z => g ((ef_qk k0 hk).mp ((nI_eq (by omega) (by omega)).mp z))) ?_
        have w := ih (i + 1) (by omega) (by omega) (fun j hj => by
          by_cases ej : j = i
          · rw [ej]; exact g
          · exact h3 j (by omega))
        by_cases z : ef_q (ef_an pa p i) = 0
        · rw [hu.1 z] at w
          rw [z]
          exact br_t (show nI 0 ≤ (0 : Int32) from by decide) (nm_r (nI_1 i) w)
        · refine br_f (nI_nle (by omega) (by omega)) ⟨vp_in_nI hq (by decide), ?_⟩
          rw [nI_clamp (by omega), hu.2 z]
          exact nm_e (nm_r (nI_1 i) w)
end EFY
