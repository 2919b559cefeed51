/-! the component's own methods, further -/
section EFX
variable {sv : Int32} {kd pr nm cx sk sp sn sc dt no : Nat → Int32} {pa cp scp hn : Nat → Nat}
/-! A: blocks dropped -/
theorem ef_xDB2 {post : Int32 → SX → Prop} {k b : Nat} (hk : k < 16) (hc : ∀ p, p < 128 → cp p ≤ 24) (h : post (nI (ef_cn (fun j => b ≤ j ∧ cp (8 * k + j) ≠ 24) 8)) (sv, kd, pr, nm, ef_X 24 (ef_fr (8 * k + b) (8 * k + 8) 24 cp), sk, sp, sn, sc, dt, no)) : ∀ (n i : Nat), 8 < n + i → b ≤ i → i ≤ 8 → wX_dropBlocks_5 post (nI k) sv n (nI (ef_cn (fun j => b ≤ j ∧ cp (8 * k + j) ≠ 24) i)) (nI i) kd pr nm (ef_X 24 (ef_fr (8 * k + b) (8 * k + i) 24 cp)) sk sp sn sc dt no := by
  intro n
  induction n with
  | zero => intro i h1 h2; omega
  | succ n ih =>
    intro i h1 h2 h3
    have c : (nI (8 * k + i)).toNatClampNeg = 8 * k + i := nI_clamp (by omega)
    rw [wX_dropBlocks_5]
    by_cases e : i = 8
    · subst e
      exact br_t (show (8 : Int32) ≤ nI 8 from by decide) h
    · have ev : ef_X 24 (ef_fr (8 * k + b) (8 * k + i) 24 cp) (8 * k + i) = ef_enc 24 (cp (8 * k + i)) := congrArg (ef_enc 24) (ef_frf (by omega))
      have hx : ef_enc 24 (cp (8 * k + i)) = -1 ↔ cp (8 * k + i) = 24 := ef_encI (by have := hc (8 * k + i) (by omega); omega)
      have v := vp_in_nI (n := 8 * k + i) (N := 128) (by omega) (by decide)
      refine br_f (nI_ge (b := 8) (by omega) (by decide)) (ef_xPl ⟨v, ?_⟩)
      rw [c, ev]
      have w := ih (i + 1) (by omega) (by omega) (by omega)
      by_cases g : cp (8 * k + i) = 24
      · rw [ef_cnf (P := fun j => b ≤ j ∧ cp (8 * k + j) ≠ 24) (fun z => z.2 g), ← Nat.add_assoc (8 * k) i 1, ← ef_frk g] at w
        exact br_t (hx.mpr g) (nm_r (nI_1 i) w)
      · rw [ef_cnt (P := fun j => b ≤ j ∧ cp (8 * k + j) ≠ 24) ⟨h2, g⟩, ← Nat.add_assoc (8 * k) i 1, ← ef_frs (by omega), ← ef_XuB] at w
        exact br_f (fun z => g (hx.mp z)) ⟨v, nm_e (nm_r (nI_1 _) (nm_r (nI_1 i) w))⟩
theorem ef_xDB {post : Int32 → SX → Prop} {k b : Nat} (hk : k < 16) (hb : b ≤ 8) (hc : ∀ p, p < 128 → cp p ≤ 24) (h : post (nI (ef_cn (fun j => b ≤ j ∧ cp (8 * k + j) ≠ 24) 8)) (sv, kd, pr, nm, ef_X 24 (ef_fr (8 * k + b) (8 * k + 8) 24 cp), sk, sp, sn, sc, dt, no)) : wpX_dropBlocks post (sv, kd, pr, nm, ef_X 24 cp, sk, sp, sn, sc, dt, no) (nI k) (nI b) := by
  have w := ef_xDB2 hk hc h 9 b (by omega) (Nat.le_refl b) hb
  rw [ef_cn0 (P := fun j => b ≤ j ∧ cp (8 * k + j) ≠ 24) (n := b) (fun j hj z => absurd z.1 (by omega)), ef_fr0] at w
  exact ⟨9, w⟩
/-! B: the way up -/
theorem ef_xUp2 {post : Int32 → Prop} {k p : Nat} (hk : k < 16) (ha : ∀ i, ef_an pa p i ≤ 16) (a : (∃ i, i < 16 ∧ ef_an pa p i = k) → post 1) (b : (¬ ∃ i, i < 16 ∧ ef_an pa p i = k) → post 0) : ∀ (n i : Nat), 16 < n + i → i ≤ 16 → (∀ j, j < i → ef_an pa p j ≠ k) → wX_isAtOrAbove_5 post (nI k) sv kd (ef_X 16 pa) nm cx sk sp sn sc dt no n (ef_enc 16 (ef_an pa p i)) (nI i) := by
  intro n
  induction n with
  | zero => intro i h1 h2; omega
  | succ n ih =>
    intro i h1 h2 h3
    rw [wX_isAtOrAbove_5]
    by_cases e : i = 16
    · subst e
      exact br_t (show (16 : Int32) ≤ nI 16 from by decide) (b (fun ⟨j, h4, h5⟩ => h3 j h4 h5))
    · refine br_f (nI_ge (b := 16) (by omega) (by decide)) ?_
      by_cases g : ef_an pa p i = 16
      · refine br_t (by rw [g, ef_encB]) (b (fun ⟨j, h4, h5⟩ => ?_))
        by_cases q : j < i
        · exact h3 j q h5
        · have := ef_an_up g (j - i)
          rw [show i + (j - i) = j from by omega] at this
          omega
      · have hl : ef_an pa p i < 16 := by have := ha i; omega
        have w := ih (i + 1) (by omega) (by omega)
        rw [ef_ann g] at w
        rw [ef_encN g]
        refine br_f (ef_nn1 (by omega)) ?_
        by_cases q : ef_an pa p i = k
        · exact br_t (by rw [q]) (a ⟨i, by omega, q⟩)
        · refine br_f (fun z => q ((nI_eq (by omega) (by omega)).mp z)) ⟨vp_in_nI hl (by decide), nm_r (e' := ef_enc 16 (pa (ef_an pa p i))) (by rw [nI_clamp (by omega)]; rfl) (nm_r (nI_1 i) (w (fun j hj => ?_)))⟩
          by_cases ej : j = i
          · rw [ej]; exact q
          · exact h3 j (by omega)
theorem ef_xUp {post : Int32 → Prop} {k p : Nat} (hk : k < 16) (hp : p < 16) (ha : ∀ i, ef_an pa p i ≤ 16) (a : (∃ i, i < 16 ∧ ef_an pa p i = k) → post 1) (b : (¬ ∃ i, i < 16 ∧ ef_an pa p i = k) → post 0) : wpX_isAtOrAbove post (sv, kd, ef_X 16 pa, nm, cx, sk, sp, sn, sc, dt, no) (nI k) (nI p) := by
  have w := ef_xUp2 (sv := sv) (kd := kd) (nm := nm) (cx := cx) (sk := sk) (sp := sp) (sn := sn) (sc := sc) (dt := dt) (no := no) hk ha a b 17 0 (by omega) (by omega) (fun j hj => absurd hj (Nat.not_lt_zero j))
  rw [show ef_enc 16 (ef_an pa p 0) = nI p from ef_encN (B := 16) (n := p) (by omega)] at w
  exact ⟨17, w⟩
/-! C: copies held -/
theorem ef_xHCs2 {post : Int32 → Prop} {c : Nat} (hc : c < 24) (hh : ∀ p, p < 128 → cp p ≤ 24) (a : ef_hd cp c → post 1) (b : ¬ ef_hd cp c → post 0) : ∀ (n i : Nat), 128 < n + i → i ≤ 128 → (∀ j, j < i → cp j ≠ c) → wX_holdsCopy__savedCopyAt_2 post (nI c) sv kd pr nm cx sk sp sn (ef_X 24 cp) dt no n (nI i) := by
  intro n
  induction n with
  | zero => intro i h1 h2; omega
  | succ n ih =>
    intro i h1 h2 h3
    have cl : (nI i).toNatClampNeg = i := nI_clamp (by omega)
    rw [wX_holdsCopy__savedCopyAt_2]
    by_cases e : i = 128
    · subst e
      exact br_t (show (128 : Int32) ≤ nI 128 from by decide) (b (fun ⟨j, h4, h5⟩ => h3 j h4 h5))
    · have hx : ef_X 24 cp i = nI c ↔ cp i = c := ef_encE (by have := hh i (by omega); omega) (by omega) (by omega)
      refine br_f (nI_ge (b := 128) (by omega) (by decide)) ⟨vp_in_nI (by omega) (by decide), ?_⟩
      rw [cl]
      by_cases g : cp i = c
      · exact br_t (hx.mpr g) (a ⟨i, by omega, g⟩)
      · refine br_f (fun z => g (hx.mp z)) (nm_r (nI_1 i) (ih (i + 1) (by omega) (by omega) (fun j hj => ?_)))
        by_cases ej : j = i
        · rw [ej]; exact g
        · exact h3 j (by omega)
theorem ef_xHCs {post : Int32 → Prop} {c : Nat} (hc : c < 24) (hh : ∀ p, p < 128 → cp p ≤ 24) (a : ef_hd cp c → post 1) (b : ¬ ef_hd cp c → post 0) : wpX_isSavedCopy post (sv, kd, pr, nm, cx, sk, sp, sn, ef_X 24 cp, dt, no) (nI c) :=
  ⟨129, ef_xHCs2 (post := fun r => narrow .boolean (.int r) = .int r ∧ post r) hc hh (fun z => ⟨rfl, a z⟩) (fun z => ⟨rfl, b z⟩) 129 0 (by omega) (by omega) (fun j hj => absurd hj (Nat.not_lt_zero j))⟩
theorem ef_xHCp2 {post : Int32 → Prop} {c : Nat} (hc : c < 24) (hh : ∀ p, p < 128 → cp p ≤ 24) (a : ef_hd cp c → post 1) (b : ¬ ef_hd cp c → post 0) : ∀ (n i : Nat), 128 < n + i → i ≤ 128 → (∀ j, j < i → cp j ≠ c) → wX_holdsCopy__copyAt_2 post (nI c) sv kd pr nm (ef_X 24 cp) sk sp sn sc dt no n (nI i) := by
  intro n
  induction n with
  | zero => intro i h1 h2; omega
  | succ n ih =>
    intro i h1 h2 h3
    have cl : (nI i).toNatClampNeg = i := nI_clamp (by omega)
    rw [wX_holdsCopy__copyAt_2]
    by_cases e : i = 128
    · subst e
      exact br_t (show (128 : Int32) ≤ nI 128 from by decide) (b (fun ⟨j, h4, h5⟩ => h3 j h4 h5))
    · have hx : ef_X 24 cp i = nI c ↔ cp i = c := ef_encE (by have := hh i (by omega); omega) (by omega) (by omega)
      refine br_f (nI_ge (b := 128) (by omega) (by decide)) ⟨vp_in_nI (by omega) (by decide), ?_⟩
      rw [cl]
      by_cases g : cp i = c
      · exact br_t (hx.mpr g) (a ⟨i, by omega, g⟩)
      · refine br_f (fun z => g (hx.mp z)) (nm_r (nI_1 i) (ih (i + 1) (by omega) (by omega) (fun j hj => ?_)))
        by_cases ej : j = i
        · rw [ej]; exact g
        · exact h3 j (by omega)
theorem ef_xHCp {post : Int32 → Prop} {c : Nat} (hc : c < 24) (hh : ∀ p, p < 128 → cp p ≤ 24) (a : ef_hd cp c → post 1) (b : ¬ ef_hd cp c → post 0) : wpX_isPresentCopy post (sv, kd, pr, nm, ef_X 24 cp, sk, sp, sn, sc, dt, no) (nI c) :=
  ⟨129, ef_xHCp2 (post := fun r => narrow .boolean (.int r) = .int r ∧ post r) hc hh (fun z => ⟨rfl, a z⟩) (fun z => ⟨rfl, b z⟩) 129 0 (by omega) (by omega) (fun j hj => absurd hj (Nat.not_lt_zero j))⟩
theorem ef_xFC2 {post : Int32 → Prop} {r : Nat} (hh : ∀ p, p < 128 → cp p ≤ 24) (hs : ∀ p, p < 128 → scp p ≤ 24) (hr : r ≤ 24) (hP : r < 24 → ¬ (ef_hd cp r ∨ ef_hd scp r)) (hN : ∀ j, j < r → ef_hd cp j ∨ ef_hd scp j) (h : post (ef_enc 24 r)) : ∀ (n i : Nat), 24 < n + i → i ≤ r → wX_freeCopy_2 post sv kd pr nm (ef_X 24 cp) sk sp sn (ef_X 24 scp) dt no n (nI i) := by
  intro n
  induction n with
  | zero => intro i h1 h2; omega
  | succ n ih =>
    intro i h1 h2
    rw [wX_freeCopy_2]
    by_cases e : i = 24
    · have er : r = 24 := by omega
      rw [er, ef_encB] at h
      subst e
      exact br_t (show (24 : Int32) ≤ nI 24 from by decide) h
    · refine br_f (nI_ge (b := 24) (by omega) (by decide)) ?_
      by_cases q : i = r
      · have hq := hP (by omega)
        rw [← q] at hq h
        rw [ef_encN e] at h
        exact ef_xHCp (by omega) hh (fun z => absurd (Or.inl z) hq) (fun _ => br_t rfl (ef_xHCs (by omega) hs (fun z => absurd (Or.inr z) hq) (fun _ => br_t rfl h)))
      · have w := nm_r (nI_1 i) (ih (i + 1) (by omega) (by omega))
        refine ef_xHCp (by omega) hh (fun z => br_f (by decide) w) (fun z => br_t rfl (ef_xHCs (by omega) hs (fun z => br_f (by decide) w) (fun y => ?_)))
        exact absurd (hN i (by omega)) (fun o => o.elim z y)
theorem ef_xFC {post : Int32 → Prop} {r : Nat} (hh : ∀ p, p < 128 → cp p ≤ 24) (hs : ∀ p, p < 128 → scp p ≤ 24) (hr : r ≤ 24) (hP : r < 24 → ¬ (ef_hd cp r ∨ ef_hd scp r)) (hN : ∀ j, j < r → ef_hd cp j ∨ ef_hd scp j) (h : post (ef_enc 24 r)) : wpX_freeCopy post (sv, kd, pr, nm, ef_X 24 cp, sk, sp, sn, ef_X 24 scp, dt, no) :=
  ⟨25, ef_xFC2 hh hs hr hP hN h 25 0 (by omega) (by omega)⟩
theorem ef_xCo2 {post : Int32 → Prop} (hh : ∀ p, p < 128 → cp p ≤ 24) (hs : ∀ p, p < 128 → scp p ≤ 24) (h : post (nI (ef_cn (fun c => ef_hd cp c ∨ ef_hd scp c) 24))) : ∀ (n i : Nat), 24 < n + i → i ≤ 24 → wX_copies_4 post sv kd pr nm (ef_X 24 cp) sk sp sn (ef_X 24 scp) dt no n (nI (ef_cn (fun c => ef_hd cp c ∨ ef_hd scp c) i)) (nI i) := by
  intro n
  induction n with
  | zero => intro i h1 h2; omega
  | succ n ih =>
    intro i h1 h2
    rw [wX_copies_4]
    by_cases e : i = 24
    · subst e
      exact br_t (show (24 : Int32) ≤ nI 24 from by decide) h
    · refine br_f (nI_ge (b := 24) (by omega) (by decide)) ?_
      have w := ih (i + 1) (by omega) (by omega)
      by_cases g : ef_hd cp i ∨ ef_hd scp i
      · rw [ef_cnt (P := fun c => ef_hd cp c ∨ ef_hd scp c) g] at w
        refine ef_xHCp (by omega) hh (fun z => br_f (by decide) (nm_r (nI_1 _) (nm_r (nI_1 i) w))) (fun z => br_t rfl (ef_xHCs (by omega) hs (fun z => br_f (by decide) (nm_r (nI_1 _) (nm_r (nI_1 i) w))) (fun y => ?_)))
        exact absurd g (fun o => o.elim z y)
      · rw [ef_cnf (P := fun c => ef_hd cp c ∨ ef_hd scp c) g] at w
        exact ef_xHCp (by omega) hh (fun z => absurd (Or.inl z) g) (fun _ => br_t rfl (ef_xHCs (by omega) hs (fun z => absurd (Or.inr z) g) (fun _ => br_t rfl (nm_r (nI_1 i) w))))
theorem ef_xCo {post : Int32 → Prop} (hh : ∀ p, p < 128 → cp p ≤ 24) (hs : ∀ p, p < 128 → scp p ≤ 24) (h : post (nI (ef_cn (fun c => ef_hd cp c ∨ ef_hd scp c) 24))) : wpX_copies post (sv, kd, pr, nm, ef_X 24 cp, sk, sp, sn, ef_X 24 scp, dt, no) :=
  ⟨25, ef_xCo2 hh hs h 25 0 (by omega) (by omega)⟩
theorem ef_xFi2 {post : SX → Prop} {f o : Nat} (hf : f < 24) (ho : o ≤ 24) (h : post (sv, kd, pr, nm, cx, sk, sp, sn, sc, ef_fl dt f o 4, no)) : ∀ (n i : Nat), 4 < n + i → i ≤ 4 → wX_fillCopy_2 post (nI f) (ef_enc 24 o) sv n (nI i) kd pr nm cx sk sp sn sc (ef_fl dt f o i) no := by
  intro n
  induction n with
  | zero => intro i h1 h2; omega
  | succ n ih =>
    intro i h1 h2
    rw [wX_fillCopy_2]
    by_cases e : i = 4
    · subst e
      exact br_t (show (4 : Int32) ≤ nI 4 from by decide) h
    · refine br_f (nI_ge (b := 4) (by omega) (by decide)) ?_
      have w := ih (i + 1) (by omega) (by omega)
      have cf : (nI (4 * f + i)).toNatClampNeg = 4 * f + i := nI_clamp (by omega)
      have vf := vp_in_nI (n := 4 * f + i) (N := 96) (by omega) (by decide)
      rw [ef_fls] at w
      by_cases g : o = 24
      · rw [if_pos g] at w
        refine br_t ((ef_encI (by omega)).mpr g) ?_
        unfold wX_fillCopy_26
        rw [ef_p4, cf]
        exact ⟨vf, nm_e (nm_r (nI_1 i) w)⟩
      · rw [if_neg g] at w
        have co : (nI (4 * o + i)).toNatClampNeg = 4 * o + i := nI_clamp (by omega)
        have vo := vp_in_nI (n := 4 * o + i) (N := 96) (by omega) (by decide)
        rw [ef_encN g] at w ⊢
        refine br_f (ef_nn1 (by omega)) ?_
        unfold wX_fillCopy_26
        rw [ef_p4, ef_p4, cf, co]
        exact ⟨vo, vf, nm_e (nm_r (nI_1 i) w)⟩
theorem ef_xFi {post : SX → Prop} {f o : Nat} (hf : f < 24) (ho : o ≤ 24) (h : post (sv, kd, pr, nm, cx, sk, sp, sn, sc, ef_fl dt f o 4, no)) : wpX_fillCopy post (sv, kd, pr, nm, cx, sk, sp, sn, sc, dt, no) (nI f) (ef_enc 24 o) :=
  ⟨5, ef_xFi2 hf ho h 5 0 (by omega) (by omega)⟩
/-! D: the next name -/
def ef_e3 (l : Nat) : Int32 := if l = 100 then -3 else nI l
theorem ef_e31 : ef_e3 100 = -3 := rfl
theorem ef_e3n {l : Nat} (h : l ≠ 100) : ef_e3 l = nI l := if_neg h
theorem ef_n3 {a : Nat} (h : a < 2 ^ 31) : ¬ nI a = -3 := by
  intro e
  have := nI_pos (n := a) h
  rw [e] at this
  exact this (by decide)
theorem ef_xNx2 {post : Int32 → Prop} {d : Nat} {y : Int32} {m : Nat → Nat} (hp : ∀ j, j < 16 → pa j ≤ 16) (hd : d < 16) (hm : ∀ j, j < 16 → m j < 100 ∧ nm j = nI (m j)) (h : post (ef_e3 (ef_nx (fun j => pa j = d ∧ ¬ nm j ≤ y) m 16))) : ∀ (n i : Nat), 16 < n + i → i ≤ 16 → wX_next_36 post y (nI d) sv kd (ef_X 16 pa) nm cx sk sp sn sc dt no n (ef_e3 (ef_nx (fun j => pa j = d ∧ ¬ nm j ≤ y) m i)) (nI i) := by
  intro n
  induction n with
  | zero => intro i h1 h2; omega
  | succ n ih =>
    intro i h1 h2
    have c : (nI i).toNatClampNeg = i := nI_clamp (by omega)
    rw [wX_next_36]
    by_cases e : i = 16
    · subst e
      exact br_t (show (16 : Int32) ≤ nI 16 from by decide) h
    · have hx : ef_X 16 pa i = nI d ↔ pa i = d := ef_encE (by have := hp i (by omega); omega) (by omega) (by omega)
      have v := vp_in_nI (n := i) (N := 16) (by omega) (by decide)
      have w := ih (i + 1) (by omega) (by omega)
      obtain ⟨hm1, hm2⟩ := hm i (by omega)
      have hl := ef_nxle (Q := fun j => pa j = d ∧ ¬ nm j ≤ y) (m := m) i
      refine br_f (nI_ge (b := 16) (by omega) (by decide)) ⟨v, ?_⟩
      unfold wX_next_70 wX_next_71
      rw [c]
      by_cases g : pa i = d
      · by_cases q : nm i ≤ y
        · rw [ef_nxf (fun z => z.1.2 q)] at w
          exact br_t (hx.mpr g) ⟨v, br_t q (br_t rfl (nm_r (nI_1 i) w))⟩
        · refine br_t (hx.mpr g) ⟨v, br_f q (br_f (by decide) ?_)⟩
          by_cases z : ef_nx (fun j => pa j = d ∧ ¬ nm j ≤ y) m i = 100
          · rw [ef_nxt (Q := fun j => pa j = d ∧ ¬ nm j ≤ y) ⟨g, q⟩ (by rw [z]; exact hm1), ef_e3n (by omega), ← hm2] at w
            rw [z, ef_e31]
            exact br_t rfl ⟨v, nm_e (nm_r (nI_1 i) w)⟩
          · rw [ef_e3n z]
            refine br_f (ef_n3 (by omega)) ⟨v, ?_⟩
            by_cases s : m i < ef_nx (fun j => pa j = d ∧ ¬ nm j ≤ y) m i
            · rw [ef_nxt (Q := fun j => pa j = d ∧ ¬ nm j ≤ y) ⟨g, q⟩ s, ef_e3n (by omega), ← hm2] at w
              refine br_f ?_ ⟨v, nm_e (nm_r (nI_1 i) w)⟩
              rw [hm2]
              exact nI_ge s (by omega)
            · rw [ef_nxf (fun z => s z.2), ef_e3n z] at w
              refine br_t ?_ (nm_r (nI_1 i) w)
              rw [hm2]
              exact nI_le (by omega) (by omega)
      · rw [ef_nxf (fun z => g z.1.1)] at w
        exact br_f (fun z => g (hx.mp z)) (br_t rfl (nm_r (nI_1 i) w))
theorem ef_xNx {post : Int32 → Prop} {d : Nat} {y : Int32} {m : Nat → Nat} (hp : ∀ j, j < 16 → pa j ≤ 16) (hd : d < 16) (hm : ∀ j, j < 16 → m j < 100 ∧ nm j = nI (m j)) (h : post (ef_e3 (ef_nx (fun j => pa j = d ∧ ¬ nm j ≤ y) m 16))) : ∃ n, wX_next_36 post y (nI d) sv kd (ef_X 16 pa) nm cx sk sp sn sc dt no n (-3) 0 :=
  ⟨17, ef_xNx2 hp hd hm h 17 0 (by omega) (by omega)⟩
/-! E: transfers -/
theorem ef_xT12 {post : SX → Prop} (h : post (sv, kd, pr, nm, cx, ef_mix 16 kd sk, sp, sn, sc, dt, no)) : ∀ (n i : Nat), 16 < n + i → i ≤ 16 → wX_transfer__kindOf_savedKindOf_2 post 16 sv n (nI i) kd pr nm cx (ef_mix i kd sk) sp sn sc dt no := by
  intro n
  induction n with
  | zero => intro i h1 h2; omega
  | succ n ih =>
    intro i h1 h2
    have c : (nI i).toNatClampNeg = i := nI_clamp (by omega)
    rw [wX_transfer__kindOf_savedKindOf_2]
    by_cases e : i = 16
    · subst e
      exact br_t (show (16 : Int32) ≤ nI 16 from by decide) h
    · have v := vp_in_nI (n := i) (N := 16) (by omega) (by decide)
      have w := ih (i + 1) (by omega) (by omega)
      rw [← ef_mixs] at w
      refine br_f (nI_ge (b := 16) (by omega) (by decide)) ⟨v, v, ?_⟩
      rw [c]
      exact nm_e (nm_r (nI_1 i) w)
theorem ef_xT1 {post : SX → Prop} (h : post (sv, kd, pr, nm, cx, ef_mix 16 kd sk, sp, sn, sc, dt, no)) : wpX_transfer__kindOf_savedKindOf post (sv, kd, pr, nm, cx, sk, sp, sn, sc, dt, no) 16 := by
  have w := ef_xT12 h 17 0 (by omega) (by omega)
  rw [ef_mix0] at w
  exact ⟨17, w⟩
theorem ef_xT22 {post : SX → Prop} (h : post (sv, kd, pr, nm, cx, sk, ef_mix 16 pr sp, sn, sc, dt, no)) : ∀ (n i : Nat), 16 < n + i → i ≤ 16 → wX_transfer__parentOf_savedParentOf_2 post 16 sv n (nI i) kd pr nm cx sk (ef_mix i pr sp) sn sc dt no := by
  intro n
  induction n with
  | zero => intro i h1 h2; omega
  | succ n ih =>
    intro i h1 h2
    have c : (nI i).toNatClampNeg = i := nI_clamp (by omega)
    rw [wX_transfer__parentOf_savedParentOf_2]
    by_cases e : i = 16
    · subst e
      exact br_t (show (16 : Int32) ≤ nI 16 from by decide) h
    · have v := vp_in_nI (n := i) (N := 16) (by omega) (by decide)
      have w := ih (i + 1) (by omega) (by omega)
      rw [← ef_mixs] at w
      refine br_f (nI_ge (b := 16) (by omega) (by decide)) ⟨v, v, ?_⟩
      rw [c]
      exact nm_e (nm_r (nI_1 i) w)
theorem ef_xT2 {post : SX → Prop} (h : post (sv, kd, pr, nm, cx, sk, ef_mix 16 pr sp, sn, sc, dt, no)) : wpX_transfer__parentOf_savedParentOf post (sv, kd, pr, nm, cx, sk, sp, sn, sc, dt, no) 16 := by
  have w := ef_xT22 h 17 0 (by omega) (by omega)
  rw [ef_mix0] at w
  exact ⟨17, w⟩
theorem ef_xT32 {post : SX → Prop} (h : post (sv, kd, pr, nm, cx, sk, sp, ef_mix 16 nm sn, sc, dt, no)) : ∀ (n i : Nat), 16 < n + i → i ≤ 16 → wX_transfer__nameOf_savedNameOf_2 post 16 sv n (nI i) kd pr nm cx sk sp (ef_mix i nm sn) sc dt no := by
  intro n
  induction n with
  | zero => intro i h1 h2; omega
  | succ n ih =>
    intro i h1 h2
    have c : (nI i).toNatClampNeg = i := nI_clamp (by omega)
    rw [wX_transfer__nameOf_savedNameOf_2]
    by_cases e : i = 16
    · subst e
      exact br_t (show (16 : Int32) ≤ nI 16 from by decide) h
    · have v := vp_in_nI (n := i) (N := 16) (by omega) (by decide)
      have w := ih (i + 1) (by omega) (by omega)
      rw [← ef_mixs] at w
      refine br_f (nI_ge (b := 16) (by omega) (by decide)) ⟨v, v, ?_⟩
      rw [c]
      exact nm_e (nm_r (nI_1 i) w)
theorem ef_xT3 {post : SX → Prop} (h : post (sv, kd, pr, nm, cx, sk, sp, ef_mix 16 nm sn, sc, dt, no)) : wpX_transfer__nameOf_savedNameOf post (sv, kd, pr, nm, cx, sk, sp, sn, sc, dt, no) 16 := by
  have w := ef_xT32 h 17 0 (by omega) (by omega)
  rw [ef_mix0] at w
  exact ⟨17, w⟩
theorem ef_xT42 {post : SX → Prop} (h : post (sv, kd, pr, nm, cx, sk, sp, sn, ef_mix 128 cx sc, dt, no)) : ∀ (n i : Nat), 128 < n + i → i ≤ 128 → wX_transfer__copyAt_savedCopyAt_2 post 128 sv n (nI i) kd pr nm cx sk sp sn (ef_mix i cx sc) dt no := by
  intro n
  induction n with
  | zero => intro i h1 h2; omega
  | succ n ih =>
    intro i h1 h2
    have c : (nI i).toNatClampNeg = i := nI_clamp (by omega)
    rw [wX_transfer__copyAt_savedCopyAt_2]
    by_cases e : i = 128
    · subst e
      exact br_t (show (128 : Int32) ≤ nI 128 from by decide) h
    · have v := vp_in_nI (n := i) (N := 128) (by omega) (by decide)
      have w := ih (i + 1) (by omega) (by omega)
      rw [← ef_mixs] at w
      refine br_f (nI_ge (b := 128) (by omega) (by decide)) ⟨v, v, ?_⟩
      rw [c]
      exact nm_e (nm_r (nI_1 i) w)
theorem ef_xT4 {post : SX → Prop} (h : post (sv, kd, pr, nm, cx, sk, sp, sn, ef_mix 128 cx sc, dt, no)) : wpX_transfer__copyAt_savedCopyAt post (sv, kd, pr, nm, cx, sk, sp, sn, sc, dt, no) 128 := by
  have w := ef_xT42 h 129 0 (by omega) (by omega)
  rw [ef_mix0] at w
  exact ⟨129, w⟩
theorem ef_xT52 {post : SX → Prop} (h : post (sv, ef_mix 16 sk kd, pr, nm, cx, sk, sp, sn, sc, dt, no)) : ∀ (n i : Nat), 16 < n + i → i ≤ 16 → wX_transfer__savedKindOf_kindOf_2 post 16 sv n (nI i) (ef_mix i sk kd) pr nm cx sk sp sn sc dt no := by
  intro n
  induction n with
  | zero => intro i h1 h2; omega
  | succ n ih =>
    intro i h1 h2
    have c : (nI i).toNatClampNeg = i := nI_clamp (by omega)
    rw [wX_transfer__savedKindOf_kindOf_2]
    by_cases e : i = 16
    · subst e
      exact br_t (show (16 : Int32) ≤ nI 16 from by decide) h
    · have v := vp_in_nI (n := i) (N := 16) (by omega) (by decide)
      have w := ih (i + 1) (by omega) (by omega)
      rw [← ef_mixs] at w
      refine br_f (nI_ge (b := 16) (by omega) (by decide)) ⟨v, v, ?_⟩
      rw [c]
      exact nm_e (nm_r (nI_1 i) w)
theorem ef_xT5 {post : SX → Prop} (h : post (sv, ef_mix 16 sk kd, pr, nm, cx, sk, sp, sn, sc, dt, no)) : wpX_transfer__savedKindOf_kindOf post (sv, kd, pr, nm, cx, sk, sp, sn, sc, dt, no) 16 := by
  have w := ef_xT52 h 17 0 (by omega) (by omega)
  rw [ef_mix0] at w
  exact ⟨17, w⟩
theorem ef_xT62 {post : SX → Prop} (h : post (sv, kd, ef_mix 16 sp pr, nm, cx, sk, sp, sn, sc, dt, no)) : ∀ (n i : Nat), 16 < n + i → i ≤ 16 → wX_transfer__savedParentOf_parentOf_2 post 16 sv n (nI i) kd (ef_mix i sp pr) nm cx sk sp sn sc dt no := by
  intro n
  induction n with
  | zero => intro i h1 h2; omega
  | succ n ih =>
    intro i h1 h2
    have c : (nI i).toNatClampNeg = i := nI_clamp (by omega)
    rw [wX_transfer__savedParentOf_parentOf_2]
    by_cases e : i = 16
    · subst e
      exact br_t (show (16 : Int32) ≤ nI 16 from by decide) h
    · have v := vp_in_nI (n := i) (N := 16) (by omega) (by decide)
      have w := ih (i + 1) (by omega) (by omega)
      rw [← ef_mixs] at w
      refine br_f (nI_ge (b := 16) (by omega) (by decide)) ⟨v, v, ?_⟩
      rw [c]
      exact nm_e (nm_r (nI_1 i) w)
theorem ef_xT6 {post : SX → Prop} (h : post (sv, kd, ef_mix 16 sp pr, nm, cx, sk, sp, sn, sc, dt, no)) : wpX_transfer__savedParentOf_parentOf post (sv, kd, pr, nm, cx, sk, sp, sn, sc, dt, no) 16 := by
  have w := ef_xT62 h 17 0 (by omega) (by omega)
  rw [ef_mix0] at w
  exact ⟨17, w⟩
theorem ef_xT72 {post : SX → Prop} (h : post (sv, kd, pr, ef_mix 16 sn nm, cx, sk, sp, sn, sc, dt, no)) : ∀ (n i : Nat), 16 < n + i → i ≤ 16 → wX_transfer__savedNameOf_nameOf_2 post 16 sv n (nI i) kd pr (ef_mix i sn nm) cx sk sp sn sc dt no := by
  intro n
  induction n with
  | zero => intro i h1 h2; omega
  | succ n ih =>
    intro i h1 h2
    have c : (nI i).toNatClampNeg = i := nI_clamp (by omega)
    rw [wX_transfer__savedNameOf_nameOf_2]
    by_cases e : i = 16
    · subst e
      exact br_t (show (16 : Int32) ≤ nI 16 from by decide) h
    · have v := vp_in_nI (n := i) (N := 16) (by omega) (by decide)
      have w := ih (i + 1) (by omega) (by omega)
      rw [← ef_mixs] at w
      refine br_f (nI_ge (b := 16) (by omega) (by decide)) ⟨v, v, ?_⟩
      rw [c]
      exact nm_e (nm_r (nI_1 i) w)
theorem ef_xT7 {post : SX → Prop} (h : post (sv, kd, pr, ef_mix 16 sn nm, cx, sk, sp, sn, sc, dt, no)) : wpX_transfer__savedNameOf_nameOf post (sv, kd, pr, nm, cx, sk, sp, sn, sc, dt, no) 16 := by
  have w := ef_xT72 h 17 0 (by omega) (by omega)
  rw [ef_mix0] at w
  exact ⟨17, w⟩
theorem ef_xT82 {post : SX → Prop} (h : post (sv, kd, pr, nm, ef_mix 128 sc cx, sk, sp, sn, sc, dt, no)) : ∀ (n i : Nat), 128 < n + i → i ≤ 128 → wX_transfer__savedCopyAt_copyAt_2 post 128 sv n (nI i) kd pr nm (ef_mix i sc cx) sk sp sn sc dt no := by
  intro n
  induction n with
  | zero => intro i h1 h2; omega
  | succ n ih =>
    intro i h1 h2
    have c : (nI i).toNatClampNeg = i := nI_clamp (by omega)
    rw [wX_transfer__savedCopyAt_copyAt_2]
    by_cases e : i = 128
    · subst e
      exact br_t (show (128 : Int32) ≤ nI 128 from by decide) h
    · have v := vp_in_nI (n := i) (N := 128) (by omega) (by decide)
      have w := ih (i + 1) (by omega) (by omega)
      rw [← ef_mixs] at w
      refine br_f (nI_ge (b := 128) (by omega) (by decide)) ⟨v, v, ?_⟩
      rw [c]
      exact nm_e (nm_r (nI_1 i) w)
theorem ef_xT8 {post : SX → Prop} (h : post (sv, kd, pr, nm, ef_mix 128 sc cx, sk, sp, sn, sc, dt, no)) : wpX_transfer__savedCopyAt_copyAt post (sv, kd, pr, nm, cx, sk, sp, sn, sc, dt, no) 128 := by
  have w := ef_xT82 h 129 0 (by omega) (by omega)
  rw [ef_mix0] at w
  exact ⟨129, w⟩
theorem ef_xSP {post : SX → Prop} (h : post (sv, kd, pr, nm, cx, ef_mix 16 kd sk, ef_mix 16 pr sp, ef_mix 16 nm sn, ef_mix 128 cx sc, dt, no)) : wpX_storePresent post (sv, kd, pr, nm, cx, sk, sp, sn, sc, dt, no) :=
  ef_xT1 (ef_xT2 (ef_xT3 (ef_xT4 h)))
theorem ef_xFS {post : SX → Prop} (h : post (sv, ef_mix 16 sk kd, ef_mix 16 sp pr, ef_mix 16 sn nm, ef_mix 128 sc cx, sk, sp, sn, sc, dt, no)) : wpX_fetchSaved post (sv, kd, pr, nm, cx, sk, sp, sn, sc, dt, no) :=
  ef_xT5 (ef_xT6 (ef_xT7 (ef_xT8 h)))
theorem ef_xDH2 {post : SX → Prop} (h : post (sv, kd, pr, nm, cx, sk, sp, sn, sc, dt, ef_X 16 (ef_fr 1 4 16 hn))) : ∀ (n i : Nat), 4 < n + i → 1 ≤ i → i ≤ 4 → wX_dropHandles_2 post sv n (nI i) kd pr nm cx sk sp sn sc dt (ef_X 16 (ef_fr 1 i 16 hn)) := by
  intro n
  induction n with
  | zero => intro i h1 h2; omega
  | succ n ih =>
    intro i h1 h2 h3
    have c : (nI i).toNatClampNeg = i := nI_clamp (by omega)
    rw [wX_dropHandles_2]
    by_cases e : i = 4
    · subst e
      exact br_t (show (4 : Int32) ≤ nI 4 from by decide) h
    · have w := ih (i + 1) (by omega) (by omega) (by omega)
      rw [← ef_frs h2, ← ef_XuB] at w
      refine br_f (nI_ge (b := 4) (by omega) (by decide)) ⟨vp_in_nI (by omega) (by decide), ?_⟩
      rw [c]
      exact nm_e (nm_r (nI_1 i) w)
theorem ef_xDH {post : SX → Prop} (h : post (sv, kd, pr, nm, cx, sk, sp, sn, sc, dt, ef_X 16 (ef_fr 1 4 16 hn))) : wpX_dropHandles post (sv, kd, pr, nm, cx, sk, sp, sn, sc, dt, ef_X 16 hn) := by
  have w := ef_xDH2 h 5 1 (by omega) (by omega) (by omega)
  rw [ef_fr0] at w
  exact ⟨5, w⟩
end EFX
