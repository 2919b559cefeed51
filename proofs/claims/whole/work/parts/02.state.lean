/-! A: what a state (present or saved) keeps: kinds, the reference's parents, names; our parents and copies as naturals (16: none, 24: none) -/
def ef_St (kd iy nm : Nat → Int32) (pa cp : Nat → Nat) : Prop :=
  kd 0 = 1 ∧ (∀ j, j < 16 → kd j = 0 ∨ kd j = 1 ∨ kd j = 2) ∧ (∀ j, j < 16 → ∃ m, m < 100 ∧ nm j = nI m) ∧
  (∀ j, j < 16 → (j = 0 ∨ kd j = 0) → pa j = 16) ∧
  (∀ j, j < 16 → j ≠ 0 → kd j ≠ 0 → pa j < 16 ∧ iy j = nI (pa j) ∧ kd (pa j) = 1) ∧
  (∀ p, p < 128 → cp p ≤ 24) ∧ (∀ p, p < 128 → kd (p / 8) ≠ 2 → cp p = 24)
section EF
variable {kd iy nm kd' iy' nm' : Nat → Int32} {pa cp pa' cp' : Nat → Nat}
theorem ef_St_pa (S : ef_St kd iy nm pa cp) {j : Nat} (hj : j < 16) : pa j ≤ 16 := by
  obtain ⟨h0, hk, hn, hp, hl, hc, hb⟩ := S
  by_cases e : j = 0 ∨ kd j = 0
  · exact Nat.le_of_eq (hp j hj e)
  · exact Nat.le_of_lt (hl j hj (fun z => e (Or.inl z)) (fun z => e (Or.inr z))).1
theorem ef_St_make (S : ef_St kd iy nm pa cp) {r d m : Nat} {t : Int32} (hr : r < 16) (hr0 : kd r = 0) (hd : d < 16) (hkd : kd d = 1) (hm : m < 100) (ht : t = 1 ∨ t = 2) : ef_St (upd kd r t) (upd iy r (nI d)) (upd nm r (nI m)) (ef_un pa r d) cp ∧ ef_fr (8 * r) (8 * r + 8) 24 cp = cp := by
  obtain ⟨h0, hk, hn, hp, hl, hc, hb⟩ := S
  have r0 : r ≠ 0 := by
    intro e
    rw [e, h0] at hr0
    exact absurd hr0 (by decide)
  have dr : d ≠ r := by
    intro e
    rw [e, hr0] at hkd
    exact absurd hkd (by decide)
  have t0 : t ≠ 0 := by
    rcases ht with e | e <;> rw [e] <;> decide
  refine ⟨⟨?_, ?_, ?_, ?_, ?_, hc, ?_⟩, ?_⟩
  · rw [pk_un (Ne.symm r0)]; exact h0
  · intro j hj
    by_cases e : j = r
    · rw [e, pk_us]; exact Or.inr ht
    · rw [pk_un e]; exact hk j hj
  · intro j hj
    by_cases e : j = r
    · rw [e, pk_us]; exact ⟨m, hm, rfl⟩
    · rw [pk_un e]; exact hn j hj
  · intro j hj hz
    have e : j ≠ r := by
      intro e
      rcases hz with z | z
      · exact r0 (e.symm.trans z)
      · rw [e, pk_us] at z
        exact t0 z
    rw [pk_un e] at hz
    rw [ef_unn e]
    exact hp j hj hz
  · intro j hj j0 hz
    by_cases e : j = r
    · rw [e, ef_uns, pk_us, pk_un dr]; exact ⟨hd, rfl, hkd⟩
    · rw [pk_un e] at hz
      obtain ⟨a, b, c⟩ := hl j hj j0 hz
      have g : pa j ≠ r := by
        intro e2
        rw [e2, hr0] at c
        exact absurd c (by decide)
      rw [ef_unn e, pk_un e, pk_un g]
      exact ⟨a, b, c⟩
  · intro p hp2 hz
    by_cases e : p / 8 = r
    · exact hb p hp2 (by rw [e, hr0]; decide)
    · rw [pk_un e] at hz
      exact hb p hp2 hz
  · exact ef_fra (fun j h1 h2 => hb j (by omega) (by rw [show j / 8 = r from by omega, hr0]; decide))
theorem ef_St_erase (S : ef_St kd iy nm pa cp) {r : Nat} (r0 : r ≠ 0) (he : ∀ j, j < 16 → pa j ≠ r) : ef_St (upd kd r 0) iy nm (ef_un pa r 16) (ef_fr (8 * r) (8 * r + 8) 24 cp) := by
  obtain ⟨h0, hk, hn, hp, hl, hc, hb⟩ := S
  refine ⟨?_, ?_, hn, ?_, ?_, ?_, ?_⟩
  · rw [pk_un (Ne.symm r0)]; exact h0
  · intro j hj
    by_cases e : j = r
    · rw [e, pk_us]; exact Or.inl rfl
    · rw [pk_un e]; exact hk j hj
  · intro j hj hz
    by_cases e : j = r
    · rw [e, ef_uns]
    · rw [pk_un e] at hz
      rw [ef_unn e]
      exact hp j hj hz
  · intro j hj j0 hz
    have e : j ≠ r := by
      intro e
      rw [e, pk_us] at hz
      exact hz rfl
    rw [pk_un e] at hz
    obtain ⟨a, b, c⟩ := hl j hj j0 hz
    rw [ef_unn e, pk_un (he j hj)]
    exact ⟨a, b, c⟩
  · intro p hp2
    by_cases g : 8 * r ≤ p ∧ p < 8 * r + 8
    · rw [ef_frt g.1 g.2]; exact Nat.le_refl _
    · rw [ef_frf g]; exact hc p hp2
  · intro p hp2 hz
    by_cases g : 8 * r ≤ p ∧ p < 8 * r + 8
    · rw [ef_frt g.1 g.2]
    · rw [ef_frf g]
      rw [pk_un (by omega)] at hz
      exact hb p hp2 hz
theorem ef_St_ren (S : ef_St kd iy nm pa cp) {k d m : Nat} (k0 : k ≠ 0) (kk : kd k ≠ 0) (hd : d < 16) (hkd : kd d = 1) (hm : m < 100) : ef_St kd (upd iy k (nI d)) (upd nm k (nI m)) (ef_un pa k d) cp := by
  obtain ⟨h0, hk, hn, hp, hl, hc, hb⟩ := S
  refine ⟨h0, hk, ?_, ?_, ?_, hc, hb⟩
  · intro j hj
    by_cases e : j = k
    · rw [e, pk_us]; exact ⟨m, hm, rfl⟩
    · rw [pk_un e]; exact hn j hj
  · intro j hj hz
    have e : j ≠ k := by
      intro e
      rw [e] at hz
      rcases hz with z | z
      · exact k0 z
      · exact kk z
    rw [ef_unn e]
    exact hp j hj hz
  · intro j hj j0 hz
    by_cases e : j = k
    · rw [e, ef_uns, pk_us]; exact ⟨hd, rfl, hkd⟩
    · rw [ef_unn e, pk_un e]; exact hl j hj j0 hz
theorem ef_St_cp (S : ef_St kd iy nm pa cp) (h1 : ∀ p, p < 128 → cp' p ≤ 24) (h2 : ∀ p, p < 128 → kd (p / 8) ≠ 2 → cp' p = 24) : ef_St kd iy nm pa cp' := by
  obtain ⟨h0, hk, hn, hp, hl, hc, hb⟩ := S
  exact ⟨h0, hk, hn, hp, hl, h1, h2⟩
theorem ef_St_put (S : ef_St kd iy nm pa cp) {p c : Nat} (hk : kd (p / 8) = 2) (hc : c ≤ 24) : ef_St kd iy nm pa (ef_un cp p c) := by
  refine ef_St_cp S ?_ ?_
  · intro q hq
    by_cases e : q = p
    · rw [e, ef_uns]; exact hc
    · rw [ef_unn e]; exact S.2.2.2.2.2.1 q hq
  · intro q hq hz
    have e : q ≠ p := by
      intro e
      rw [e] at hz
      exact hz hk
    rw [ef_unn e]
    exact S.2.2.2.2.2.2 q hq hz
theorem ef_St_cut (S : ef_St kd iy nm pa cp) {lo hi : Nat} : ef_St kd iy nm pa (ef_fr lo hi 24 cp) := by
  refine ef_St_cp S ?_ ?_
  · intro q hq
    by_cases g : lo ≤ q ∧ q < hi
    · rw [ef_frt g.1 g.2]; exact Nat.le_refl _
    · rw [ef_frf g]; exact S.2.2.2.2.2.1 q hq
  · intro q hq hz
    by_cases g : lo ≤ q ∧ q < hi
    · rw [ef_frt g.1 g.2]
    · rw [ef_frf g]; exact S.2.2.2.2.2.2 q hq hz
theorem ef_St_congr (S : ef_St kd iy nm pa cp) (e1 : ∀ j, j < 16 → kd' j = kd j) (e2 : ∀ j, j < 16 → iy' j = iy j) (e3 : ∀ j, j < 16 → nm' j = nm j) (e4 : ∀ j, j < 16 → pa' j = pa j) (e5 : ∀ j, j < 128 → cp' j = cp j) : ef_St kd' iy' nm' pa' cp' := by
  obtain ⟨h0, hk, hn, hp, hl, hc, hb⟩ := S
  refine ⟨?_, ?_, ?_, ?_, ?_, ?_, ?_⟩
  · rw [e1 0 (by omega)]; exact h0
  · intro j hj
    rw [e1 j hj]; exact hk j hj
  · intro j hj
    rw [e3 j hj]; exact hn j hj
  · intro j hj hz
    rw [e1 j hj] at hz
    rw [e4 j hj]
    exact hp j hj hz
  · intro j hj j0 hz
    rw [e1 j hj] at hz
    obtain ⟨a, b, c⟩ := hl j hj j0 hz
    rw [e4 j hj, e2 j hj, e1 _ a]
    exact ⟨a, b, c⟩
  · intro p hp2
    rw [e5 p hp2]; exact hc p hp2
  · intro p hp2 hz
    rw [e1 (p / 8) (by omega)] at hz
    rw [e5 p hp2]
    exact hb p hp2 hz
theorem ef_St_mix (S : ef_St kd iy nm pa cp) : ef_St (ef_mix 16 kd kd') (ef_mix 16 iy iy') (ef_mix 16 nm nm') (ef_mix 16 pa pa') (ef_mix 128 cp cp') :=
  ef_St_congr S (fun _ h => ef_mixl h) (fun _ h => ef_mixl h) (fun _ h => ef_mixl h) (fun _ h => ef_mixl h) (fun _ h => ef_mixl h)
/-- an entry of a directory, as the component sees it and as the reference does -/
theorem ef_St_ent (S : ef_St kd iy nm pa cp) {j d : Nat} (hj : j < 16) (hd : d < 16) (h1 : 1 ≤ j) : pa j = d ↔ (kd j ≠ 0 ∧ iy j = nI d) := by
  obtain ⟨h0, hk, hn, hp, hl, hc, hb⟩ := S
  by_cases z : kd j = 0
  · rw [hp j hj (Or.inr z)]
    exact ⟨fun e => by omega, fun e => absurd z e.1⟩
  · obtain ⟨a, b, c⟩ := hl j hj (by omega) z
    rw [b]
    exact ⟨fun e => ⟨z, by rw [e]⟩, fun e => (nI_eq (by omega) (by omega)).mp e.2⟩
theorem ef_St_top (S : ef_St kd iy nm pa cp) {d : Nat} (hd : d < 16) : ¬ pa 0 = d := by
  rw [S.2.2.2.1 0 (by omega) (Or.inl rfl)]
  omega
theorem ef_St_pos (S : ef_St kd iy nm pa cp) {j : Nat} (hj : j < 16) : kd j ≤ 0 ↔ kd j = 0 := by
  rcases S.2.1 j hj with e | e | e <;> rw [e] <;> decide
/-! B: the way up -/
def ef_an (pa : Nat → Nat) (p : Nat) : Nat → Nat
  | 0 => p
  | i + 1 => if ef_an pa p i = 16 then 16 else pa (ef_an pa p i)
theorem ef_an16 {p i : Nat} (h : ef_an pa p i = 16) : ef_an pa p (i + 1) = 16 := if_pos h
theorem ef_ann {p i : Nat} (h : ef_an pa p i ≠ 16) : ef_an pa p (i + 1) = pa (ef_an pa p i) := if_neg h
theorem ef_an_up {p i : Nat} (h : ef_an pa p i = 16) : ∀ d, ef_an pa p (i + d) = 16 := by
  intro d
  induction d with
  | zero => exact h
  | succ d ih => exact ef_an16 ih
theorem ef_an_in (S : ef_St kd iy nm pa cp) {p : Nat} (hp : p < 16) (hk : kd p = 1) : ∀ i, ef_an pa p i = 16 ∨ (ef_an pa p i < 16 ∧ kd (ef_an pa p i) = 1) := by
  intro i
  induction i with
  | zero => exact Or.inr ⟨hp, hk⟩
  | succ i ih =>
    rcases ih with e | ⟨a, b⟩
    · exact Or.inl (ef_an16 e)
    · rw [ef_ann (by omega)]
      by_cases z : ef_an pa p i = 0
      · rw [z]; exact Or.inl (S.2.2.2.1 0 (by omega) (Or.inl rfl))
      · have := S.2.2.2.2.1 _ a z (by rw [b]; decide)
        exact Or.inr ⟨this.1, this.2.2⟩
/-- what the reference holds where the component holds the way up's i-th node -/
def ef_q (n : Nat) : Nat := if n = 16 then 0 else n
theorem ef_q16 : ef_q 16 = 0 := rfl
theorem ef_qn {n : Nat} (h : n ≠ 16) : ef_q n = n := if_neg h
theorem ef_qk {n k : Nat} (k0 : k ≠ 0) (hk : k < 16) : ef_q n = k ↔ n = k := by
  by_cases e : n = 16
  · rw [e, ef_q16]; omega
  · rw [ef_qn e]
theorem ef_qlt {n : Nat} (h : n ≤ 16) : ef_q n < 16 := by
  by_cases e : n = 16
  · rw [e, ef_q16]; omega
  · rw [ef_qn e]; omega
theorem ef_q_up (S : ef_St kd iy nm pa cp) {p : Nat} (hp : p < 16) (hk : kd p = 1) (i : Nat) : (ef_q (ef_an pa p i) = 0 → ef_q (ef_an pa p (i + 1)) = 0) ∧ (ef_q (ef_an pa p i) ≠ 0 → iy (ef_q (ef_an pa p i)) = nI (ef_q (ef_an pa p (i + 1)))) := by
  rcases ef_an_in S hp hk i with e | ⟨a, b⟩
  · rw [ef_an16 e, e, ef_q16]; exact ⟨fun z => z, fun z => absurd rfl z⟩
  · rw [ef_ann (by omega), ef_qn (by omega : ef_an pa p i ≠ 16)]
    constructor
    · intro z
      rw [z, S.2.2.2.1 0 (by omega) (Or.inl rfl), ef_q16]
    · intro z
      have := S.2.2.2.2.1 _ a z (by rw [b]; decide)
      rw [this.2.1, ef_qn (by omega)]
/-! C: the least name above another -/
noncomputable def ef_nx (Q : Nat → Prop) (m : Nat → Nat) : Nat → Nat
  | 0 => 100
  | i + 1 => @ite Nat (Q i ∧ m i < ef_nx Q m i) (Classical.propDecidable _) (m i) (ef_nx Q m i)
theorem ef_nxt {Q : Nat → Prop} {m : Nat → Nat} {i : Nat} (h : Q i) (g : m i < ef_nx Q m i) : ef_nx Q m (i + 1) = m i := if_pos ⟨h, g⟩
theorem ef_nxf {Q : Nat → Prop} {m : Nat → Nat} {i : Nat} (h : ¬ (Q i ∧ m i < ef_nx Q m i)) : ef_nx Q m (i + 1) = ef_nx Q m i := if_neg h
theorem ef_nxle {Q : Nat → Prop} {m : Nat → Nat} (i : Nat) : ef_nx Q m i ≤ 100 := by
  induction i with
  | zero => exact Nat.le_refl _
  | succ i ih =>
    by_cases h : Q i ∧ m i < ef_nx Q m i
    · rw [ef_nxt h.1 h.2]; omega
    · rw [ef_nxf h]; exact ih
/-! D: a copy filled from another -/
def ef_fl (dt : Nat → Int32) (fresh old : Nat) : Nat → Nat → Int32
  | 0 => dt
  | i + 1 => upd (ef_fl dt fresh old i) (4 * fresh + i) (if old = 24 then 0 else ef_fl dt fresh old i (4 * old + i))
theorem ef_fls {dt : Nat → Int32} {fresh old i : Nat} : ef_fl dt fresh old (i + 1) = upd (ef_fl dt fresh old i) (4 * fresh + i) (if old = 24 then 0 else ef_fl dt fresh old i (4 * old + i)) := rfl
/-! E: a copy that is held -/
def ef_hd (cp : Nat → Nat) (c : Nat) : Prop := ∃ p, p < 128 ∧ cp p = c
end EF
