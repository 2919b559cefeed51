/-! the component's own methods, each for a general post -/
section EFX
variable {sv : Int32} {kd pr nm cx sk sp sn sc dt no : Nat → Int32} {pa cp scp hn : Nat → Nat}
/-! A: ranges of arguments -/
theorem ef_out {x : Int32} {n : Nat} (hx : ¬ ∃ j, j < n ∧ x = nI j) (h0 : ¬ x < 0) : ∃ m, n ≤ m ∧ m < 2 ^ 31 ∧ x = nI m := by
  obtain ⟨m, hm, e⟩ := nI_of h0
  exact ⟨m, Nat.le_of_not_lt (fun g => hx ⟨m, g, e⟩), hm, e⟩
theorem ef_out1 {x : Int32} {n : Nat} (hx : ¬ ∃ j, 1 ≤ j ∧ j < n ∧ x = nI j) (h0 : ¬ x < 1) : ∃ m, n ≤ m ∧ m < 2 ^ 31 ∧ x = nI m := by
  have h : ¬ x < 0 := fun z => h0 (Int32.lt_trans z (by decide))
  obtain ⟨m, hm, e⟩ := nI_of h
  have h1 : 1 ≤ m := by
    apply Nat.le_of_not_lt
    intro g
    have g0 : m = 0 := by omega
    rw [e, g0] at h0
    exact h0 (by decide)
  exact ⟨m, Nat.le_of_not_lt (fun g => hx ⟨m, h1, g, e⟩), hm, e⟩
theorem ef_xH1 {post : Int32 → Prop} {j : Nat} (hj : j < 4) (h : post 1) : wpX_isHandle post (nI j) :=
  br_f (nI_pos (by omega)) (br_f (nI_ge (b := 4) hj (by decide)) h)
theorem ef_xH0 {post : Int32 → Prop} {x : Int32} (hx : ¬ ∃ j, j < 4 ∧ x = nI j) (h : post 0) : wpX_isHandle post x := by
  by_cases h0 : x < 0
  · exact br_t h0 h
  · obtain ⟨m, h1, h2, e⟩ := ef_out hx h0
    exact br_f h0 (br_t (show (4 : Int32) ≤ x by rw [e]; exact nI_le (a := 4) h1 h2) h)
theorem ef_xF1 {post : Int32 → Prop} {j : Nat} (h1 : 1 ≤ j) (hj : j < 4) (h : post 1) : wpX_isFreeHandle post (nI j) :=
  br_f (nI_nlt (b := 1) h1 (by omega)) (br_f (nI_ge (b := 4) hj (by decide)) h)
theorem ef_xF0 {post : Int32 → Prop} {x : Int32} (hx : ¬ ∃ j, 1 ≤ j ∧ j < 4 ∧ x = nI j) (h : post 0) : wpX_isFreeHandle post x := by
  by_cases h0 : x < 1
  · exact br_t h0 h
  · obtain ⟨m, h1, h2, e⟩ := ef_out1 hx h0
    exact br_f h0 (br_t (show (4 : Int32) ≤ x by rw [e]; exact nI_le (a := 4) h1 h2) h)
theorem ef_xN1 {post : Int32 → Prop} {j : Nat} (hj : j < 100) (h : post 1) : wpX_isName post (nI j) :=
  br_f (nI_pos (by omega)) (br_f (nI_nlt (a := 99) (b := j) (by omega) (by decide)) h)
theorem ef_xN0 {post : Int32 → Prop} {x : Int32} (hx : ¬ ∃ j, j < 100 ∧ x = nI j) (h : post 0) : wpX_isName post x := by
  by_cases h0 : x < 0
  · exact br_t h0 h
  · obtain ⟨m, h1, h2, e⟩ := ef_out hx h0
    exact br_f h0 (br_t (show (99 : Int32) < x by rw [e]; exact nI_lt (a := 99) (by omega) h2) h)
theorem ef_xC1 {post : Int32 → Prop} {j : Nat} (hj : j < 32) (h : post 1) : wpX_isCell post (nI j) :=
  br_f (nI_pos (by omega)) (br_f (nI_ge (b := 32) hj (by decide)) h)
theorem ef_xC0 {post : Int32 → Prop} {x : Int32} (hx : ¬ ∃ j, j < 32 ∧ x = nI j) (h : post 0) : wpX_isCell post x := by
  by_cases h0 : x < 0
  · exact br_t h0 h
  · obtain ⟨m, h1, h2, e⟩ := ef_out hx h0
    exact br_f h0 (br_t (show (32 : Int32) ≤ x by rw [e]; exact nI_le (a := 32) h1 h2) h)
/-! B: places -/
theorem ef_pl (k i : Nat) : nI k * 8 + nI i = nI (8 * k + i) := by
  rw [show (8 : Int32) = nI 8 from rfl, pk_mul, nI_add, Nat.mul_comm]
theorem ef_pl8 (k i : Nat) : 8 * nI k + nI i = nI (8 * k + i) := by
  rw [show (8 : Int32) = nI 8 from rfl, pk_mul, nI_add]
theorem ef_p4 (k i : Nat) : nI k * 4 + nI i = nI (4 * k + i) := by
  rw [show (4 : Int32) = nI 4 from rfl, pk_mul, nI_add, Nat.mul_comm]
theorem ef_p48 (k i : Nat) : 4 * nI k + nI i = nI (4 * k + i) := by
  rw [show (4 : Int32) = nI 4 from rfl, pk_mul, nI_add]
theorem ef_d4 {a : Nat} (h : a < 2 ^ 31) : nI a / 4 = nI (a / 4) := pk_div (d := 4) h (by decide) (by decide)
theorem ef_d8 {a : Nat} (h : a < 2 ^ 31) : nI a / 8 = nI (a / 8) := pk_div (d := 8) h (by decide) (by decide)
theorem ef_r4 {a : Nat} (h : a < 2 ^ 31) : nI a - nI a / 4 * 4 = nI (a % 4) := pk_rem (d := 4) h (by decide) (by decide)
theorem ef_xPl {post : Int32 → Prop} {k i : Nat} (h : post (nI (8 * k + i))) : wpX_placeOf post (nI k) (nI i) := by
  unfold wpX_placeOf
  rw [ef_pl]
  exact h
theorem ef_XuB {B : Nat} {f : Nat → Nat} {k : Nat} : upd (ef_X B f) k (-1) = ef_X B (ef_un f k B) := by
  rw [← ef_Xu, ef_encB]
/-! C: faults -/
theorem ef_xDF {post : Int32 → Prop} {j : Nat} (hj : j < 4) (hh : hn j ≤ 16) (a : hn j = 16 → post (-3)) (b : hn j < 16 → kd (hn j) = 1 → post 0) (c : hn j < 16 → ¬ kd (hn j) = 1 → post (-4)) : wpX_directoryFault post (sv, kd, pr, nm, cx, sk, sp, sn, sc, dt, ef_X 16 hn) (nI j) := by
  refine ⟨vp_in_nI hj (by decide), nm_r (e' := ef_enc 16 (hn j)) (by rw [nI_clamp (by omega)]; rfl) ?_⟩
  by_cases e : hn j = 16
  · rw [e, ef_encB]; exact br_t rfl (a e)
  · rw [ef_encN e]
    refine br_f (ef_nn1 (by omega)) ⟨vp_in_nI (by omega) (by decide), ?_⟩
    rw [nI_clamp (by omega)]
    exact br_c (b (by omega)) (c (by omega))
theorem ef_xFF {post : Int32 → Prop} {j : Nat} (hj : j < 4) (hh : hn j ≤ 16) (a : hn j = 16 → post (-3)) (b : hn j < 16 → kd (hn j) = 2 → post 0) (c : hn j < 16 → ¬ kd (hn j) = 2 → post (-4)) : wpX_fileFault post (sv, kd, pr, nm, cx, sk, sp, sn, sc, dt, ef_X 16 hn) (nI j) := by
  refine ⟨vp_in_nI hj (by decide), nm_r (e' := ef_enc 16 (hn j)) (by rw [nI_clamp (by omega)]; rfl) ?_⟩
  by_cases e : hn j = 16
  · rw [e, ef_encB]; exact br_t rfl (a e)
  · rw [ef_encN e]
    refine br_f (ef_nn1 (by omega)) ⟨vp_in_nI (by omega) (by decide), ?_⟩
    rw [nI_clamp (by omega)]
    exact br_c (b (by omega)) (c (by omega))
/-! D: scans -/
theorem ef_xEnt2 {post : Int32 → Prop} {d r : Nat} {y : Int32} (hp : ∀ j, j < 16 → pa j ≤ 16) (hd : d < 16) (hr : r ≤ 16) (hP : r < 16 → pa r = d ∧ nm r = y) (hN : ∀ j, j < r → ¬ (pa j = d ∧ nm j = y)) (h : post (ef_enc 16 r)) : ∀ (n i : Nat), 16 < n + i → i ≤ r → wX_entryOf_2 post (nI d) y sv kd (ef_X 16 pa) nm cx sk sp sn sc dt no n (nI i) := by
  intro n
  induction n with
  | zero => intro i h1 h2; omega
  | succ n ih =>
    intro i h1 h2
    have c : (nI i).toNatClampNeg = i := nI_clamp (by omega)
    rw [wX_entryOf_2]
    by_cases e : i = 16
    · have er : r = 16 := by omega
      rw [er, ef_encB] at h
      subst e
      exact br_t (show (16 : Int32) ≤ nI 16 from by decide) h
    · have v := vp_in_nI (n := i) (N := 16) (by omega) (by decide)
      have hx : ef_X 16 pa i = nI d ↔ pa i = d := ef_encE (by have := hp i (by omega); omega) (by omega) (by omega)
      refine br_f (nI_ge (b := 16) (by omega) (by decide)) ⟨v, ?_⟩
      rw [c]
      by_cases q : i = r
      · have hq := hP (by omega)
        rw [← q] at hq h
        rw [ef_encN e] at h
        exact br_t (hx.mpr hq.1) ⟨v, br_t hq.2 h⟩
      · have hq := hN i (by omega)
        by_cases g : pa i = d
        · exact br_t (hx.mpr g) ⟨v, br_f (fun z => hq ⟨g, z⟩) (nm_r (nI_1 i) (ih (i + 1) (by omega) (by omega)))⟩
        · exact br_f (fun z => g (hx.mp z)) (nm_r (nI_1 i) (ih (i + 1) (by omega) (by omega)))
theorem ef_xEnt {post : Int32 → Prop} {d r : Nat} {y : Int32} (hp : ∀ j, j < 16 → pa j ≤ 16) (hd : d < 16) (hr : r ≤ 16) (hP : r < 16 → pa r = d ∧ nm r = y) (hN : ∀ j, j < r → ¬ (pa j = d ∧ nm j = y)) (h : post (ef_enc 16 r)) : wpX_entryOf post (sv, kd, ef_X 16 pa, nm, cx, sk, sp, sn, sc, dt, no) (nI d) y :=
  ⟨17, ef_xEnt2 hp hd hr hP hN h 17 0 (by omega) (by omega)⟩
theorem ef_xFN2 {post : Int32 → Prop} {r : Nat} (hr : r ≤ 16) (hP : r < 16 → kd r = 0) (hN : ∀ j, j < r → ¬ kd j = 0) (h : post (ef_enc 16 r)) : ∀ (n i : Nat), 16 < n + i → i ≤ r → wX_freeNode_2 post sv kd pr nm cx sk sp sn sc dt no n (nI i) := by
  intro n
  induction n with
  | zero => intro i h1 h2; omega
  | succ n ih =>
    intro i h1 h2
    have c : (nI i).toNatClampNeg = i := nI_clamp (by omega)
    rw [wX_freeNode_2]
    by_cases e : i = 16
    · have er : r = 16 := by omega
      rw [er, ef_encB] at h
      subst e
      exact br_t (show (16 : Int32) ≤ nI 16 from by decide) h
    · have v := vp_in_nI (n := i) (N := 16) (by omega) (by decide)
      refine br_f (nI_ge (b := 16) (by omega) (by decide)) ⟨v, ?_⟩
      rw [c]
      by_cases q : i = r
      · have hq := hP (by omega)
        rw [← q] at hq h
        rw [ef_encN e] at h
        exact br_t hq h
      · exact br_f (hN i (by omega)) (nm_r (nI_1 i) (ih (i + 1) (by omega) (by omega)))
theorem ef_xFN {post : Int32 → Prop} {r : Nat} (hr : r ≤ 16) (hP : r < 16 → kd r = 0) (hN : ∀ j, j < r → ¬ kd j = 0) (h : post (ef_enc 16 r)) : wpX_freeNode post (sv, kd, pr, nm, cx, sk, sp, sn, sc, dt, no) :=
  ⟨17, ef_xFN2 hr hP hN h 17 0 (by omega) (by omega)⟩
theorem ef_xHH2 {post : Int32 → Prop} {k : Nat} (hk : k < 16) (hh : ∀ j, j < 4 → hn j ≤ 16) (a : (∃ j, j < 4 ∧ hn j = k) → post 1) (b : (¬ ∃ j, j < 4 ∧ hn j = k) → post 0) : ∀ (n i : Nat), 4 < n + i → i ≤ 4 → (∀ j, j < i → hn j ≠ k) → wX_hasHandle_2 post (nI k) sv kd pr nm cx sk sp sn sc dt (ef_X 16 hn) n (nI i) := by
  intro n
  induction n with
  | zero => intro i h1 h2; omega
  | succ n ih =>
    intro i h1 h2 h3
    have c : (nI i).toNatClampNeg = i := nI_clamp (by omega)
    rw [wX_hasHandle_2]
    by_cases e : i = 4
    · subst e
      exact br_t (show (4 : Int32) ≤ nI 4 from by decide) (b (fun ⟨j, h4, h5⟩ => h3 j h4 h5))
    · have hx : ef_X 16 hn i = nI k ↔ hn i = k := ef_encE (by have := hh i (by omega); omega) (by omega) (by omega)
      refine br_f (nI_ge (b := 4) (by omega) (by decide)) ⟨vp_in_nI (by omega) (by decide), ?_⟩
      rw [c]
      by_cases g : hn i = k
      · exact br_t (hx.mpr g) (a ⟨i, by omega, g⟩)
      · refine br_f (fun z => g (hx.mp z)) (nm_r (nI_1 i) (ih (i + 1) (by omega) (by omega) (fun j hj => ?_)))
        by_cases ej : j = i
        · rw [ej]; exact g
        · exact h3 j (by omega)
theorem ef_xHH {post : Int32 → Prop} {k : Nat} (hk : k < 16) (hh : ∀ j, j < 4 → hn j ≤ 16) (a : (∃ j, j < 4 ∧ hn j = k) → post 1) (b : (¬ ∃ j, j < 4 ∧ hn j = k) → post 0) : wpX_hasHandle post (sv, kd, pr, nm, cx, sk, sp, sn, sc, dt, ef_X 16 hn) (nI k) :=
  ⟨5, ef_xHH2 hk hh a b 5 0 (by omega) (by omega) (fun j hj => absurd hj (Nat.not_lt_zero j))⟩
/-! E: counts -/
theorem ef_xCE2 {post : Int32 → Prop} {d : Nat} (hp : ∀ j, j < 16 → pa j ≤ 16) (hd : d < 16) (h : post (nI (ef_cn (fun j => pa j = d) 16))) : ∀ (n i : Nat), 16 < n + i → i ≤ 16 → wX_countEntries_4 post (nI d) sv kd (ef_X 16 pa) nm cx sk sp sn sc dt no n (nI (ef_cn (fun j => pa j = d) i)) (nI i) := by
  intro n
  induction n with
  | zero => intro i h1 h2; omega
  | succ n ih =>
    intro i h1 h2
    have c : (nI i).toNatClampNeg = i := nI_clamp (by omega)
    rw [wX_countEntries_4]
    by_cases e : i = 16
    · subst e
      exact br_t (show (16 : Int32) ≤ nI 16 from by decide) h
    · have hx : ef_X 16 pa i = nI d ↔ pa i = d := ef_encE (by have := hp i (by omega); omega) (by omega) (by omega)
      refine br_f (nI_ge (b := 16) (by omega) (by decide)) ⟨vp_in_nI (by omega) (by decide), ?_⟩
      rw [c]
      by_cases g : pa i = d
      · have w := ih (i + 1) (by omega) (by omega)
        rw [ef_cnt (P := fun j => pa j = d) g] at w
        exact br_t (hx.mpr g) (nm_r (nI_1 _) (nm_r (nI_1 i) w))
      · have w := ih (i + 1) (by omega) (by omega)
        rw [ef_cnf (P := fun j => pa j = d) g] at w
        exact br_f (fun z => g (hx.mp z)) (nm_r (nI_1 i) w)
theorem ef_xCE {post : Int32 → Prop} {d : Nat} (hp : ∀ j, j < 16 → pa j ≤ 16) (hd : d < 16) (h : post (nI (ef_cn (fun j => pa j = d) 16))) : wpX_countEntries post (sv, kd, ef_X 16 pa, nm, cx, sk, sp, sn, sc, dt, no) (nI d) :=
  ⟨17, ef_xCE2 hp hd h 17 0 (by omega) (by omega)⟩
theorem ef_xCB2 {post : Int32 → Prop} {k : Nat} (hk : k < 16) (hc : ∀ p, p < 128 → cp p ≤ 24) (h : post (nI (ef_cn (fun b => cp (8 * k + b) ≠ 24) 8))) : ∀ (n i : Nat), 8 < n + i → i ≤ 8 → wX_countBlocks_4 post (nI k) sv kd pr nm (ef_X 24 cp) sk sp sn sc dt no n (nI (ef_cn (fun b => cp (8 * k + b) ≠ 24) i)) (nI i) := by
  intro n
  induction n with
  | zero => intro i h1 h2; omega
  | succ n ih =>
    intro i h1 h2
    have c : (nI (8 * k + i)).toNatClampNeg = 8 * k + i := nI_clamp (by omega)
    rw [wX_countBlocks_4]
    by_cases e : i = 8
    · subst e
      exact br_t (show (8 : Int32) ≤ nI 8 from by decide) h
    · have hx : ef_X 24 cp (8 * k + i) = -1 ↔ cp (8 * k + i) = 24 := ef_encI (by have := hc (8 * k + i) (by omega); omega)
      refine br_f (nI_ge (b := 8) (by omega) (by decide)) (ef_xPl ⟨vp_in_nI (by omega) (by decide), ?_⟩)
      rw [c]
      have w := ih (i + 1) (by omega) (by omega)
      by_cases g : cp (8 * k + i) = 24
      · rw [ef_cnf (P := fun b => cp (8 * k + b) ≠ 24) (fun z => z g)] at w
        exact br_t (hx.mpr g) (nm_r (nI_1 i) w)
      · rw [ef_cnt (P := fun b => cp (8 * k + b) ≠ 24) g] at w
        exact br_f (fun z => g (hx.mp z)) (nm_r (nI_1 _) (nm_r (nI_1 i) w))
theorem ef_xCB {post : Int32 → Prop} {k : Nat} (hk : k < 16) (hc : ∀ p, p < 128 → cp p ≤ 24) (h : post (nI (ef_cn (fun b => cp (8 * k + b) ≠ 24) 8))) : wpX_countBlocks post (sv, kd, pr, nm, ef_X 24 cp, sk, sp, sn, sc, dt, no) (nI k) :=
  ⟨9, ef_xCB2 hk hc h 9 0 (by omega) (by omega)⟩
theorem ef_xNo2 {post : Int32 → Prop} (h : post (nI (ef_cn (fun j => kd j ≠ 0) 16))) : ∀ (n i : Nat), 16 < n + i → i ≤ 16 → wX_nodes_4 post sv kd pr nm cx sk sp sn sc dt no n (nI (ef_cn (fun j => kd j ≠ 0) i)) (nI i) := by
  intro n
  induction n with
  | zero => intro i h1 h2; omega
  | succ n ih =>
    intro i h1 h2
    have c : (nI i).toNatClampNeg = i := nI_clamp (by omega)
    rw [wX_nodes_4]
    by_cases e : i = 16
    · subst e
      exact br_t (show (16 : Int32) ≤ nI 16 from by decide) h
    · refine br_f (nI_ge (b := 16) (by omega) (by decide)) ⟨vp_in_nI (by omega) (by decide), ?_⟩
      rw [c]
      have w := ih (i + 1) (by omega) (by omega)
      by_cases g : kd i = 0
      · rw [ef_cnf (P := fun j => kd j ≠ 0) (fun z => z g)] at w
        exact br_t g (nm_r (nI_1 i) w)
      · rw [ef_cnt (P := fun j => kd j ≠ 0) g] at w
        exact br_f g (nm_r (nI_1 _) (nm_r (nI_1 i) w))
theorem ef_xNo {post : Int32 → Prop} (h : post (nI (ef_cn (fun j => kd j ≠ 0) 16))) : wpX_nodes post (sv, kd, pr, nm, cx, sk, sp, sn, sc, dt, no) :=
  ⟨17, ef_xNo2 h 17 0 (by omega) (by omega)⟩
end EFX
