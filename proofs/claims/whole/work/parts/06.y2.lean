/-! the reference's own methods, further -/
section EFY
variable {sv : Int32} {kd iy nm cy sk si sn sy dt us hy : Nat → Int32} {pa cp scp hn : Nat → Nat}
/-! A: which copies are used -/
def ef_M (kd : Nat → Int32) (cp : Nat → Nat) (i c : Nat) : Prop := ∃ p, p < i ∧ kd (p / 8) = 2 ∧ cp p = c
theorem ef_Ms {i c : Nat} : ef_M kd cp (i + 1) c ↔ (ef_M kd cp i c ∨ (kd (i / 8) = 2 ∧ cp i = c)) := by
  constructor
  · rintro ⟨p, h1, h2, h3⟩
    by_cases e : p = i
    · rw [e] at h2 h3
      exact Or.inr ⟨h2, h3⟩
    · exact Or.inl ⟨p, by omega, h2, h3⟩
  · rintro (⟨p, h1, h2, h3⟩ | ⟨h2, h3⟩)
    · exact ⟨p, by omega, h2, h3⟩
    · exact ⟨i, by omega, h2, h3⟩
theorem ef_M0 {c : Nat} : ¬ ef_M kd cp 0 c := fun ⟨_, h, _⟩ => Nat.not_lt_zero _ h
theorem ef_Mh (S : ef_St kd iy nm pa cp) {c : Nat} (hc : c < 24) : ef_M kd cp 128 c ↔ ef_hd cp c := by
  constructor
  · rintro ⟨p, h1, h2, h3⟩
    exact ⟨p, h1, h3⟩
  · rintro ⟨p, h1, h3⟩
    by_cases z : kd (p / 8) = 2
    · exact ⟨p, h1, z, h3⟩
    · have := S.2.2.2.2.2.2 p h1 z
      omega
def ef_G (A : Nat → Prop) (b : Int32) (kd : Nat → Int32) (cp : Nat → Nat) (i : Nat) (us : Nat → Int32) : Prop := ∀ c, c < 25 → (us c = 0 ↔ ¬ (A c ∨ (b ≠ 0 ∧ ef_M kd cp i c)))
theorem ef_Gt {A : Nat → Prop} {b : Int32} {i : Nat} (hb : b ≠ 0) (hk : kd (i / 8) = 2) (h : ef_G A b kd cp i us) : ef_G A b kd cp (i + 1) (upd us (cp i) 1) := by
  intro c hc
  rw [ef_Ms]
  by_cases e : c = cp i
  · rw [e, pk_us]
    exact ⟨fun z => absurd z (by decide), fun z => absurd (Or.inr ⟨hb, Or.inr ⟨hk, rfl⟩⟩) z⟩
  · rw [pk_un e, h c hc]
    have : (ef_M kd cp i c ∨ (kd (i / 8) = 2 ∧ cp i = c)) ↔ ef_M kd cp i c := ⟨fun o => o.elim (fun z => z) (fun z => absurd z.2.symm e), Or.inl⟩
    rw [this]
theorem ef_Gf {A : Nat → Prop} {b : Int32} {i : Nat} (hk : b = 0 ∨ ¬ kd (i / 8) = 2) (h : ef_G A b kd cp i us) : ef_G A b kd cp (i + 1) us := by
  intro c hc
  rw [ef_Ms, h c hc]
  have : (b ≠ 0 ∧ (ef_M kd cp i c ∨ (kd (i / 8) = 2 ∧ cp i = c))) ↔ (b ≠ 0 ∧ ef_M kd cp i c) := by
    constructor
    · rintro ⟨h1, h2 | h2⟩
      · exact ⟨h1, h2⟩
      · exact absurd hk (fun o => o.elim h1 (fun z => z h2.1))
    · rintro ⟨h1, h2⟩
      exact ⟨h1, Or.inl h2⟩
  rw [this]
theorem ef_vb0 : vp_nar .boolean 0 = 0 := by decide
theorem ef_vb1 : vp_nar .boolean 1 = 1 := by decide
theorem ef_yMk42 {post : SY → Prop} {A : Nat → Prop} {b : Int32} (hc : ∀ p, p < 128 → cp p ≤ 24) (h : ∀ us : Nat → Int32, ef_G A b kd cp 128 us → post (sv, kd, iy, nm, ef_Y cp, sk, si, sn, sy, dt, us, hy)) : ∀ (n i : Nat) (us : Nat → Int32), 128 < n + i → i ≤ 128 → ef_G A b kd cp i us → wY_mark_42 post b sv n (nI i) kd iy nm (ef_Y cp) sk si sn sy dt us hy := by
  intro n
  induction n with
  | zero => intro i us h1 h2; omega
  | succ n ih =>
    intro i us h1 h2 hG
    rw [wY_mark_42]
    by_cases e : i = 128
    · subst e
      exact br_t (show (128 : Int32) ≤ nI 128 from by decide) (h us hG)
    · refine br_f (nI_ge (b := 128) (by omega) (by decide)) ?_
      by_cases g : b = 0
      · exact br_t g (nm_r (nI_1 i) (ih (i + 1) us (by omega) (by omega) (ef_Gf (Or.inl g) hG)))
      · refine br_f g ⟨by decide, ?_⟩
        rw [ef_d8 (by omega), nI_clamp (by omega : i / 8 < 2 ^ 31), nI_clamp (by omega : i < 2 ^ 31), ef_Yv]
        have hci := hc i (by omega)
        rw [nI_clamp (by omega), ef_vb1]
        refine ⟨vp_in_nI (by omega) (by decide), ?_⟩
        by_cases q : kd (i / 8) = 2
        · exact br_t q ⟨vp_in_nI (by omega) (by decide), vp_in_nI (by omega) (by decide), nm_e (nm_r (nI_1 i) (ih (i + 1) _ (by omega) (by omega) (ef_Gt g q hG)))⟩
        · exact br_f q (nm_r (nI_1 i) (ih (i + 1) us (by omega) (by omega) (ef_Gf (Or.inr q) hG)))
theorem ef_yMk2 {post : SY → Prop} {b : Int32} (hc : ∀ p, p < 128 → cp p ≤ 24) (hs : ∀ p, p < 128 → scp p ≤ 24) (h : ∀ us : Nat → Int32, ef_G (fun c => ef_M sk scp 128 c) b kd cp 128 us → post (sv, kd, iy, nm, ef_Y cp, sk, si, sn, ef_Y scp, dt, us, hy)) : ∀ (n i : Nat) (us : Nat → Int32), 128 < n + i → i ≤ 128 → ef_G (fun _ => False) 1 sk scp i us → wY_mark_2 post b sv n (nI i) kd iy nm (ef_Y cp) sk si sn (ef_Y scp) dt us hy := by
  intro n
  induction n with
  | zero => intro i us h1 h2; omega
  | succ n ih =>
    intro i us h1 h2 hG
    rw [wY_mark_2]
    by_cases e : i = 128
    · subst e
      refine br_t (show (128 : Int32) ≤ nI 128 from by decide) ⟨129, ef_yMk42 hc h 129 0 us (by omega) (by omega) ?_⟩
      intro c hc
      rw [hG c hc]
      constructor
      · intro z o
        exact o.elim (fun y => z (Or.inr ⟨by decide, y⟩)) (fun y => ef_M0 y.2)
      · intro z o
        exact o.elim (fun y => y) (fun y => z (Or.inl y.2))
    · refine br_f (nI_ge (b := 128) (by omega) (by decide)) ⟨by decide, ?_⟩
      rw [ef_d8 (by omega), nI_clamp (by omega : i / 8 < 2 ^ 31), nI_clamp (by omega : i < 2 ^ 31), ef_Yv]
      have hci := hs i (by omega)
      rw [nI_clamp (by omega), ef_vb1]
      refine ⟨vp_in_nI (by omega) (by decide), ?_⟩
      by_cases q : sk (i / 8) = 2
      · exact br_t q ⟨vp_in_nI (by omega) (by decide), vp_in_nI (by omega) (by decide), nm_e (nm_r (nI_1 i) (ih (i + 1) _ (by omega) (by omega) (ef_Gt (by decide) q hG)))⟩
      · exact br_f q (nm_r (nI_1 i) (ih (i + 1) us (by omega) (by omega) (ef_Gf (Or.inr q) hG)))
theorem ef_yFU2 {post : SY → Prop} {b : Int32} (hc : ∀ p, p < 128 → cp p ≤ 24) (hs : ∀ p, p < 128 → scp p ≤ 24) (h : ∀ us : Nat → Int32, ef_G (fun c => ef_M sk scp 128 c) b kd cp 128 us → post (sv, kd, iy, nm, ef_Y cp, sk, si, sn, ef_Y scp, dt, us, hy)) : ∀ (n i : Nat), 25 < n + i → i ≤ 25 → wY_findUsed_2 post b sv n (nI i) kd iy nm (ef_Y cp) sk si sn (ef_Y scp) dt (ef_mix i (fun _ => 0) us) hy := by
  intro n
  induction n with
  | zero => intro i h1 h2; omega
  | succ n ih =>
    intro i h1 h2
    rw [wY_findUsed_2]
    by_cases e : i = 25
    · subst e
      refine br_t (show (24 : Int32) < nI 25 from by decide) ⟨129, ef_yMk2 hc hs h 129 0 _ (by omega) (by omega) ?_⟩
      intro c hc
      rw [ef_mixl hc]
      exact ⟨fun _ o => o.elim (fun y => y) (fun y => ef_M0 y.2), fun _ => rfl⟩
    · have w := ih (i + 1) (by omega) (by omega)
      rw [← ef_mixs] at w
      refine br_f (nI_nlt (a := 24) (b := i) (by omega) (by decide)) ⟨vp_in_nI (by omega) (by decide), ?_⟩
      rw [nI_clamp (by omega), ef_vb0]
      exact nm_e (nm_r (nI_1 i) w)
theorem ef_yFU {post : SY → Prop} {b : Int32} (hc : ∀ p, p < 128 → cp p ≤ 24) (hs : ∀ p, p < 128 → scp p ≤ 24) (h : ∀ us : Nat → Int32, ef_G (fun c => ef_M sk scp 128 c) b kd cp 128 us → post (sv, kd, iy, nm, ef_Y cp, sk, si, sn, ef_Y scp, dt, us, hy)) : wpY_findUsed post (sv, kd, iy, nm, ef_Y cp, sk, si, sn, ef_Y scp, dt, us, hy) b := by
  have w := ef_yFU2 (us := us) hc hs h 26 0 (by omega) (by omega)
  rw [ef_mix0] at w
  exact ⟨26, w⟩
/-! B: copies counted -/
theorem ef_yCo9 {post : Int32 → SY → Prop} {H : Nat → Prop} (hu : ∀ c, c < 24 → (us c = 0 ↔ ¬ H c)) (h : post (nI (ef_cn H 24)) (sv, kd, iy, nm, cy, sk, si, sn, sy, dt, us, hy)) : ∀ (n i : Nat), 24 < n + i → i ≤ 24 → wY_copies_9 post sv kd iy nm cy sk si sn sy dt us hy n (nI (ef_cn H i)) (nI i) := by
  intro n
  induction n with
  | zero => intro i h1 h2; omega
  | succ n ih =>
    intro i h1 h2
    rw [wY_copies_9]
    by_cases e : i = 24
    · subst e
      exact br_t (show (24 : Int32) ≤ nI 24 from by decide) h
    · refine br_f (nI_ge (b := 24) (by omega) (by decide)) ⟨vp_in_nI (by omega) (by decide), ?_⟩
      rw [nI_clamp (by omega)]
      have hu' := hu i (by omega)
      have w := ih (i + 1) (by omega) (by omega)
      by_cases g : H i
      · rw [ef_cnt g] at w
        exact br_f (fun z => hu'.mp z g) (nm_r (nI_1 _) (nm_r (nI_1 i) w))
      · rw [ef_cnf g] at w
        exact br_t (hu'.mpr g) (nm_r (nI_1 i) w)
theorem ef_yCo {post : Int32 → SY → Prop} (S : ef_St kd iy nm pa cp) {spa : Nat → Nat} (T : ef_St sk si sn spa scp) (h : ∀ us : Nat → Int32, (∀ c, c < 24 → (us c = 0 ↔ ¬ (ef_hd cp c ∨ ef_hd scp c))) → post (nI (ef_cn (fun c => ef_hd cp c ∨ ef_hd scp c) 24)) (sv, kd, iy, nm, ef_Y cp, sk, si, sn, ef_Y scp, dt, us, hy)) : wpY_copies post (sv, kd, iy, nm, ef_Y cp, sk, si, sn, ef_Y scp, dt, us, hy) := by
  refine ef_yFU S.2.2.2.2.2.1 T.2.2.2.2.2.1 (fun us hG => ?_)
  have hu : ∀ c, c < 24 → (us c = 0 ↔ ¬ (ef_hd cp c ∨ ef_hd scp c)) := by
    intro c hc
    have hG' : us c = 0 ↔ ¬ (ef_M sk scp 128 c ∨ ((1 : Int32) ≠ 0 ∧ ef_M kd cp 128 c)) := hG c (by omega)
    rw [hG', ef_Mh S hc, ef_Mh T hc]
    constructor
    · intro z o
      exact o.elim (fun y => z (Or.inr ⟨by decide, y⟩)) (fun y => z (Or.inl y))
    · intro z o
      exact o.elim (fun y => z (Or.inr y)) (fun y => z (Or.inl y.2))
  exact ⟨25, ef_yCo9 hu (h us hu) 25 0 (by omega) (by omega)⟩
/-! C: write -/
theorem ef_yW186 {post : Int32 → SY → Prop} {p c : Nat} {y : Int32} (hp : p < 128) (hc : c < 32) (ho : cp p < 24) (h : post 0 (sv, kd, iy, nm, ef_Y cp, sk, si, sn, sy, upd dt (4 * cp p + c % 4) y, us, hy)) : wY_write_186 post (nI c) y (nI p) sv kd iy nm (ef_Y cp) sk si sn sy dt us hy := by
  refine ⟨vp_in_nI hp (by decide), by decide, ?_⟩
  rw [nI_clamp (by omega : p < 2 ^ 31), ef_Yv, ef_r4 (by omega), ef_p48, nI_clamp (by omega)]
  exact ⟨vp_in_nI (by omega) (by decide), nm_e h⟩
theorem ef_yW130 {post : Int32 → SY → Prop} {p c o r : Nat} {y : Int32} (hp : p < 128) (hc : c < 32) (hr : r < 24) (ho : o ≤ 24) (h : post 0 (sv, kd, iy, nm, ef_Y (ef_un cp p r), sk, si, sn, sy, upd (ef_fl dt r o 4) (4 * r + c % 4) y, us, hy)) : ∀ (n i : Nat), 4 < n + i → i ≤ 4 → wY_write_130 post (nI c) y (nI p) (nI o) (nI r) sv n (nI i) kd iy nm (ef_Y cp) sk si sn sy (ef_fl dt r o i) us hy := by
  intro n
  induction n with
  | zero => intro i h1 h2; omega
  | succ n ih =>
    intro i h1 h2
    rw [wY_write_130]
    by_cases e : i = 4
    · subst e
      refine br_t (show (4 : Int32) ≤ nI 4 from by decide) ⟨vp_in_nI hp (by decide), nm_r (e' := ef_Y (ef_un cp p r)) (by rw [nI_clamp (by omega), ef_Yu]) ?_⟩
      refine ef_yW186 hp hc (by rw [ef_uns]; exact hr) ?_
      rw [ef_uns]
      exact h
    · have w := ih (i + 1) (by omega) (by omega)
      rw [ef_fls] at w
      have vf := vp_in_nI (n := 4 * r + i) (N := 96) (by omega) (by decide)
      refine br_f (nI_ge (b := 4) (by omega) (by decide)) ?_
      rw [ef_p48, ef_p48, nI_clamp (by omega : 4 * r + i < 2 ^ 31), nI_clamp (by omega : 4 * o + i < 2 ^ 31)]
      by_cases g : o = 24
      · rw [if_pos g] at w
        exact br_t (by rw [g]; rfl) ⟨vf, nm_e (nm_r (nI_1 i) w)⟩
      · rw [if_neg g] at w
        exact br_f (fun z => g ((nI_eq (b := 24) (by omega) (by decide)).mp z)) ⟨vp_in_nI (by omega) (by decide), vf, nm_e (nm_r (nI_1 i) w)⟩
theorem ef_yW102 {post : Int32 → SY → Prop} {x2 x3 x5 x6 : Int32} {r : Nat} (hr : r < 24) (hP : us r = 0) (hN : ∀ j, j < r → ¬ us j = 0) (h : ∃ n, wY_write_130 post x2 x3 x5 x6 (nI r) sv n 0 kd iy nm cy sk si sn sy dt us hy) : ∀ (n e : Nat), e < n → e ≤ 24 → ∀ f : Int32, (e ≤ r → f = nI r) → wY_write_102 post x2 x3 x5 x6 sv kd iy nm cy sk si sn sy dt us hy n f (nI e + (-1)) := by
  intro n
  induction n with
  | zero => intro i h2; omega
  | succ n ih =>
    intro i h2 h3 f hf
    rw [wY_write_102]
    by_cases e : i = 0
    · subst e
      rw [hf (by omega)]
      exact br_t (show nI 0 + (-1) < (0 : Int32) from by decide) h
    · obtain ⟨k, rfl⟩ : ∃ k, i = k + 1 := ⟨i - 1, by omega⟩
      rw [pk_m1]
      refine br_f (nI_pos (by omega)) ⟨vp_in_nI (by omega) (by decide), ?_⟩
      rw [nI_clamp (by omega)]
      by_cases g : us k = 0
      · refine br_t g (nm_e (ih k (by omega) (by omega) _ (fun z => ?_)))
        by_cases q : k = r
        · rw [q]
        · exact absurd g (hN k (by omega))
      · refine br_f g (nm_e (ih k (by omega) (by omega) _ (fun z => hf ?_)))
        apply Nat.lt_of_le_of_ne z
        intro q
        rw [q] at g
        exact g hP
/-! D: cut, size, next -/
theorem ef_yC39 {post : Int32 → SY → Prop} {a k b : Nat} (ha : a < 4) (hk : k < 16) (hak : hn a = k) (hc : ∀ p, p < 128 → cp p ≤ 24) (h : post (nI (ef_cn (fun j => b ≤ j ∧ cp (8 * k + j) ≠ 24) 8)) (sv, kd, iy, nm, ef_Y (ef_fr (8 * k + b) (8 * k + 8) 24 cp), sk, si, sn, sy, dt, us, ef_Y hn)) : ∀ (n i : Nat), 8 < n + i → b ≤ i → i ≤ 8 → wY_cut_39 post (nI a) sv n (nI (ef_cn (fun j => b ≤ j ∧ cp (8 * k + j) ≠ 24) i)) (nI i) kd iy nm ((ef_Y (ef_fr (8 * k + b) (8 * k + i) 24 cp))) sk si sn sy dt us (ef_Y hn) := by
  intro n
  induction n with
  | zero => intro i h1 h2; omega
  | succ n ih =>
    intro i h1 h2 h3
    rw [wY_cut_39]
    unfold wY_cut_71
    by_cases e : i = 8
    · subst e
      exact br_t (show (8 : Int32) ≤ nI 8 from by decide) h
    · have w := ih (i + 1) (by omega) (by omega) (by omega)
      rw [← Nat.add_assoc (8 * k) i 1, ← ef_frs (by omega), ← ef_Yu] at w
      have ev : ef_Y (ef_fr (8 * k + b) (8 * k + i) 24 cp) (8 * k + i) = nI (cp (8 * k + i)) := congrArg nI (ef_frf (by omega))
      have hci := hc (8 * k + i) (by omega)
      have va := vp_in_nI (n := a) (N := 4) ha (by decide)
      have v := vp_in_nI (n := 8 * k + i) (N := 128) (by omega) (by decide)
      refine br_f (nI_ge (b := 8) (by omega) (by decide)) ⟨va, ?_⟩
      rw [nI_clamp (by omega : a < 2 ^ 31), ef_Yv, hak, ef_pl8, nI_clamp (by omega : 8 * k + i < 2 ^ 31), ev]
      refine ⟨v, ?_⟩
      by_cases g : cp (8 * k + i) = 24
      · rw [ef_cnf (P := fun j => b ≤ j ∧ cp (8 * k + j) ≠ 24) (fun z => z.2 g)] at w
        exact br_t (by rw [g]; decide) ⟨va, v, nm_e (nm_r (nI_1 i) w)⟩
      · rw [ef_cnt (P := fun j => b ≤ j ∧ cp (8 * k + j) ≠ 24) ⟨h2, g⟩] at w
        exact br_f (nI_ge (b := 24) (by omega) (by decide)) (nm_r (nI_1 _) ⟨va, v, nm_e (nm_r (nI_1 i) w)⟩)
theorem ef_yC39' {post : Int32 → SY → Prop} {a k b : Nat} (ha : a < 4) (hk : k < 16) (hak : hn a = k) (hb : b ≤ 8) (hc : ∀ p, p < 128 → cp p ≤ 24) (h : post (nI (ef_cn (fun j => b ≤ j ∧ cp (8 * k + j) ≠ 24) 8)) (sv, kd, iy, nm, ef_Y (ef_fr (8 * k + b) (8 * k + 8) 24 cp), sk, si, sn, sy, dt, us, ef_Y hn)) : ∃ n, wY_cut_39 post (nI a) sv n 0 (nI b) kd iy nm (ef_Y cp) sk si sn sy dt us (ef_Y hn) := by
  have w := ef_yC39 ha hk hak hc h 9 b (by omega) (Nat.le_refl b) hb
  rw [ef_cn0 (P := fun j => b ≤ j ∧ cp (8 * k + j) ≠ 24) (n := b) (fun j hj z => absurd z.1 (by omega)), ef_fr0] at w
  exact ⟨9, w⟩
theorem ef_yS53 {post : Int32 → Prop} {a k : Nat} (ha : a < 4) (hk : k < 16) (hak : hn a = k) (hc : ∀ p, p < 128 → cp p ≤ 24) (h : post (nI (ef_cn (fun b => cp (8 * k + b) ≠ 24) 8))) : ∀ (n i : Nat), 8 < n + i → i ≤ 8 → wY_size_53 post (nI a) sv kd iy nm (ef_Y cp) sk si sn sy dt us (ef_Y hn) n (nI (ef_cn (fun b => cp (8 * k + b) ≠ 24) i)) (nI i) := by
  intro n
  induction n with
  | zero => intro i h1 h2; omega
  | succ n ih =>
    intro i h1 h2
    rw [wY_size_53]
    by_cases e : i = 8
    · subst e
      exact br_t (show (8 : Int32) ≤ nI 8 from by decide) h
    · have w := ih (i + 1) (by omega) (by omega)
      have hci := hc (8 * k + i) (by omega)
      refine br_f (nI_ge (b := 8) (by omega) (by decide)) ⟨vp_in_nI ha (by decide), ?_⟩
      rw [nI_clamp (by omega : a < 2 ^ 31), ef_Yv, hak, ef_pl8, nI_clamp (by omega : 8 * k + i < 2 ^ 31), ef_Yv]
      refine ⟨vp_in_nI (by omega) (by decide), ?_⟩
      by_cases g : cp (8 * k + i) = 24
      · rw [ef_cnf (P := fun b => cp (8 * k + b) ≠ 24) (fun z => z g)] at w
        exact br_t (by rw [g]; decide) (nm_r (nI_1 i) w)
      · rw [ef_cnt (P := fun b => cp (8 * k + b) ≠ 24) g] at w
        exact br_f (nI_ge (b := 24) (by omega) (by decide)) (nm_r (nI_1 _) (nm_r (nI_1 i) w))
theorem ef_yNx2 {post : Int32 → Prop} {a d : Nat} {y : Int32} {m : Nat → Nat} (ha : a < 4) (had : hn a = d) (hz : ∀ j, j < 16 → (kd j ≤ 0 ↔ kd j = 0)) (hE : ∀ j, 1 ≤ j → j < 16 → (pa j = d ↔ (kd j ≠ 0 ∧ iy j = nI d))) (hm : ∀ j, j < 16 → m j < 100 ∧ nm j = nI (m j)) (h : post (ef_e3 (ef_nx (fun j => pa j = d ∧ ¬ nm j ≤ y) m 16))) : ∀ (n i : Nat), 16 < n + i → 1 ≤ i → i ≤ 16 → wY_next_30 post (nI a) y sv kd iy nm cy sk si sn sy dt us (ef_Y hn) n (nI (ef_nx (fun j => pa j = d ∧ ¬ nm j ≤ y) m i)) (nI i) := by
  intro n
  induction n with
  | zero => intro i h1 h2; omega
  | succ n ih =>
    intro i h1 h2 h3
    have c : (nI i).toNatClampNeg = i := nI_clamp (by omega)
    have hl := ef_nxle (Q := fun j => pa j = d ∧ ¬ nm j ≤ y) (m := m) i
    rw [wY_next_30]
    by_cases e : i = 16
    · subst e
      refine br_t (show (16 : Int32) ≤ nI 16 from by decide) ?_
      by_cases z : ef_nx (fun j => pa j = d ∧ ¬ nm j ≤ y) m 16 = 100
      · rw [z, ef_e31] at h
        rw [z]
        exact br_t rfl h
      · rw [ef_e3n z] at h
        exact br_f (fun q => z ((nI_eq (b := 100) (by omega) (by decide)).mp q)) h
    · have v := vp_in_nI (n := i) (N := 16) (by omega) (by decide)
      have w := ih (i + 1) (by omega) (by omega) (by omega)
      have hx := hE i h2 (by omega)
      have hz' := hz i (by omega)
      obtain ⟨hm1, hm2⟩ := hm i (by omega)
      refine br_f (nI_ge (b := 16) (by omega) (by decide)) ⟨v, ?_⟩
      rw [c, nI_clamp (by omega : a < 2 ^ 31), ef_Yv, had]
      by_cases g : kd i = 0
      · rw [ef_nxf (fun z => (hx.mp z.1.1).1 g)] at w
        exact br_t (hz'.mpr g) (nm_r (nI_1 i) w)
      · refine br_f (fun z => g (hz'.mp z)) ⟨v, vp_in_nI ha (by decide), ?_⟩
        by_cases s : iy i = nI d
        · have g' := hx.mpr ⟨g, s⟩
          refine br_t s ⟨v, ?_⟩
          by_cases q : nm i ≤ y
          · rw [ef_nxf (fun z => z.1.2 q)] at w
            exact br_t q (nm_r (nI_1 i) w)
          · refine br_f q ⟨v, ?_⟩
            by_cases t : m i < ef_nx (fun j => pa j = d ∧ ¬ nm j ≤ y) m i
            · rw [ef_nxt (Q := fun j => pa j = d ∧ ¬ nm j ≤ y) ⟨g', q⟩ t, ← hm2] at w
              refine br_f ?_ ⟨v, nm_e (nm_r (nI_1 i) w)⟩
              rw [hm2]
              exact nI_ge t (by omega)
            · rw [ef_nxf (fun z => t z.2)] at w
              refine br_t ?_ (nm_r (nI_1 i) w)
              rw [hm2]
              exact nI_le (by omega) (by omega)
        · rw [ef_nxf (fun z => s (hx.mp z.1.1).2)] at w
          exact br_f s (nm_r (nI_1 i) w)
theorem ef_yNx {post : Int32 → Prop} {a d : Nat} {y : Int32} {m : Nat → Nat} (ha : a < 4) (had : hn a = d) (hz : ∀ j, j < 16 → (kd j ≤ 0 ↔ kd j = 0)) (hE : ∀ j, 1 ≤ j → j < 16 → (pa j = d ↔ (kd j ≠ 0 ∧ iy j = nI d))) (h0 : ¬ pa 0 = d) (hm : ∀ j, j < 16 → m j < 100 ∧ nm j = nI (m j)) (h : post (ef_e3 (ef_nx (fun j => pa j = d ∧ ¬ nm j ≤ y) m 16))) : ∃ n, wY_next_30 post (nI a) y sv kd iy nm cy sk si sn sy dt us (ef_Y hn) n 100 1 := by
  have w := ef_yNx2 (sv := sv) (cy := cy) (sk := sk) (si := si) (sn := sn) (sy := sy) (dt := dt) (us := us) ha had hz hE hm h 17 1 (by omega) (by omega) (by omega)
  rw [ef_nxf (Q := fun j => pa j = d ∧ ¬ nm j ≤ y) (i := 0) (fun z => h0 z.1.1)] at w
  exact ⟨17, w⟩
/-! E: save, crash -/
theorem ef_yS52 {post : Int32 → SY → Prop} (h : post (sv + 1) (sv + 1, kd, iy, nm, cy, sk, si, sn, ef_mix 128 cy sy, dt, us, hy)) : ∀ (n i : Nat), 128 < n + i → i ≤ 128 → wY_save_52 post sv n (nI i) kd iy nm cy sk si sn (ef_mix i cy sy) dt us hy := by
  intro n
  induction n with
  | zero => intro i h1 h2; omega
  | succ n ih =>
    intro i h1 h2
    rw [wY_save_52]
    by_cases e : i = 128
    · subst e
      exact br_t (show (128 : Int32) ≤ nI 128 from by decide) (nm_e h)
    · have v := vp_in_nI (n := i) (N := 128) (by omega) (by decide)
      have w := ih (i + 1) (by omega) (by omega)
      rw [← ef_mixs] at w
      refine br_f (nI_ge (b := 128) (by omega) (by decide)) ⟨v, v, ?_⟩
      rw [nI_clamp (by omega)]
      exact nm_e (nm_r (nI_1 i) w)
theorem ef_yS2 {post : Int32 → SY → Prop} (h : post (sv + 1) (sv + 1, kd, iy, nm, cy, ef_mix 16 kd sk, ef_mix 16 iy si, ef_mix 16 nm sn, ef_mix 128 cy sy, dt, us, hy)) : ∀ (n i : Nat), 16 < n + i → i ≤ 16 → wY_save_2 post sv n (nI i) kd iy nm cy (ef_mix i kd sk) (ef_mix i iy si) (ef_mix i nm sn) sy dt us hy := by
  intro n
  induction n with
  | zero => intro i h1 h2; omega
  | succ n ih =>
    intro i h1 h2
    rw [wY_save_2]
    by_cases e : i = 16
    · subst e
      have w := ef_yS52 h 129 0 (by omega) (by omega)
      rw [ef_mix0] at w
      exact br_t (show (16 : Int32) ≤ nI 16 from by decide) ⟨129, w⟩
    · have v := vp_in_nI (n := i) (N := 16) (by omega) (by decide)
      have w := ih (i + 1) (by omega) (by omega)
      rw [← ef_mixs (f := kd), ← ef_mixs (f := iy), ← ef_mixs (f := nm)] at w
      refine br_f (nI_ge (b := 16) (by omega) (by decide)) ⟨v, v, ?_⟩
      rw [nI_clamp (by omega)]
      exact nm_e ⟨v, v, nm_e ⟨v, v, nm_e (nm_r (nI_1 i) w)⟩⟩
theorem ef_ySv {post : Int32 → SY → Prop} (h : post (sv + 1) (sv + 1, kd, iy, nm, cy, ef_mix 16 kd sk, ef_mix 16 iy si, ef_mix 16 nm sn, ef_mix 128 cy sy, dt, us, hy)) : wpY_save post (sv, kd, iy, nm, cy, sk, si, sn, sy, dt, us, hy) := by
  have w := ef_yS2 h 17 0 (by omega) (by omega)
  rw [ef_mix0, ef_mix0, ef_mix0] at w
  exact ⟨17, w⟩
theorem ef_yC100 {post : Int32 → SY → Prop} (h : post sv (sv, kd, iy, nm, cy, sk, si, sn, sy, dt, us, ef_Y (ef_fr 1 4 16 hn))) : ∀ (n i : Nat), 4 < n + i → 1 ≤ i → i ≤ 4 → wY_crash_100 post sv n (nI i) kd iy nm cy sk si sn sy dt us (ef_Y (ef_fr 1 i 16 hn)) := by
  intro n
  induction n with
  | zero => intro i h1 h2; omega
  | succ n ih =>
    intro i h1 h2 h3
    rw [wY_crash_100]
    by_cases e : i = 4
    · subst e
      exact br_t (show (4 : Int32) ≤ nI 4 from by decide) h
    · have w := ih (i + 1) (by omega) (by omega) (by omega)
      rw [← ef_frs h2, ← ef_Yu] at w
      refine br_f (nI_ge (b := 4) (by omega) (by decide)) ⟨vp_in_nI (by omega) (by decide), ?_⟩
      rw [nI_clamp (by omega)]
      exact nm_e (nm_r (nI_1 i) w)
theorem ef_yC73 {post : Int32 → SY → Prop} (h : post sv (sv, kd, iy, nm, ef_mix 128 sy cy, sk, si, sn, sy, dt, us, ef_Y (ef_fr 1 4 16 hn))) : ∀ (n i : Nat), 128 < n + i → i ≤ 128 → wY_crash_73 post sv n (nI i) kd iy nm (ef_mix i sy cy) sk si sn sy dt us (ef_Y hn) := by
  intro n
  induction n with
  | zero => intro i h1 h2; omega
  | succ n ih =>
    intro i h1 h2
    rw [wY_crash_73]
    by_cases e : i = 128
    · subst e
      have w := ef_yC100 h 5 1 (by omega) (by omega) (by omega)
      rw [ef_fr0] at w
      exact br_t (show (128 : Int32) ≤ nI 128 from by decide) ⟨5, w⟩
    · have v := vp_in_nI (n := i) (N := 128) (by omega) (by decide)
      have w := ih (i + 1) (by omega) (by omega)
      rw [← ef_mixs] at w
      refine br_f (nI_ge (b := 128) (by omega) (by decide)) ⟨v, v, ?_⟩
      rw [nI_clamp (by omega)]
      exact nm_e (nm_r (nI_1 i) w)
theorem ef_yC23 {post : Int32 → SY → Prop} (h : post sv (sv, ef_mix 16 sk kd, ef_mix 16 si iy, ef_mix 16 sn nm, ef_mix 128 sy cy, sk, si, sn, sy, dt, us, ef_Y (ef_fr 1 4 16 hn))) : ∀ (n i : Nat), 16 < n + i → i ≤ 16 → wY_crash_23 post sv n (nI i) (ef_mix i sk kd) (ef_mix i si iy) (ef_mix i sn nm) cy sk si sn sy dt us (ef_Y hn) := by
  intro n
  induction n with
  | zero => intro i h1 h2; omega
  | succ n ih =>
    intro i h1 h2
    rw [wY_crash_23]
    by_cases e : i = 16
    · subst e
      have w := ef_yC73 h 129 0 (by omega) (by omega)
      rw [ef_mix0] at w
      exact br_t (show (16 : Int32) ≤ nI 16 from by decide) ⟨129, w⟩
    · have v := vp_in_nI (n := i) (N := 16) (by omega) (by decide)
      have w := ih (i + 1) (by omega) (by omega)
      rw [← ef_mixs (f := sk), ← ef_mixs (f := si), ← ef_mixs (f := sn)] at w
      refine br_f (nI_ge (b := 16) (by omega) (by decide)) ⟨v, v, ?_⟩
      rw [nI_clamp (by omega)]
      exact nm_e ⟨v, v, nm_e ⟨v, v, nm_e (nm_r (nI_1 i) w)⟩⟩
theorem ef_yC23' {post : Int32 → SY → Prop} (h : post sv (sv, ef_mix 16 sk kd, ef_mix 16 si iy, ef_mix 16 sn nm, ef_mix 128 sy cy, sk, si, sn, sy, dt, us, ef_Y (ef_fr 1 4 16 hn))) : ∃ n, wY_crash_23 post sv n 0 kd iy nm cy sk si sn sy dt us (ef_Y hn) := by
  have w := ef_yC23 h 17 0 (by omega) (by omega)
  rw [ef_mix0, ef_mix0, ef_mix0] at w
  exact ⟨17, w⟩
end EFY
