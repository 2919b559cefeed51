section
/-! A: rows of the pure starting texts -/
theorem pk_us {f : Nat → Int32} {k : Nat} {x : Int32} : upd f k x k = x := if_pos rfl
theorem pk_un {f : Nat → Int32} {k j : Nat} {x : Int32} (h : j ≠ k) : upd f k x j = f j := if_neg h
theorem pk_sub {a b : Nat} (h : b ≤ a) : nI a - nI b = nI (a - b) := by
  obtain ⟨c, rfl⟩ : ∃ c, a = c + b := ⟨a - b, by omega⟩
  rw [← nI_add, Int32.add_sub_cancel, Nat.add_sub_cancel]
theorem pk_m1 (n : Nat) : nI (n + 1) + (-1) = nI n := by
  rw [← nI_1, Int32.add_assoc, show (1 : Int32) + (-1) = 0 from rfl, Int32.add_zero]
theorem pk_mul (a b : Nat) : nI a * nI b = nI (a * b) := (Int32.ofNat_mul a b).symm
theorem pk_div {a d : Nat} (ha : a < 2 ^ 31) (h0 : 0 < d) (hd : d < 2 ^ 31) : nI a / nI d = nI (a / d) := by
  apply Int32.toInt_inj.mp
  rw [lg_idiv_nonneg (by rw [nI_toInt ha]; omega) (by rw [nI_toInt hd]; omega), nI_toInt ha, nI_toInt hd, nI_toInt (Nat.lt_of_le_of_lt (Nat.div_le_self a d) ha)]
  first | rfl | exact (Int.natCast_ediv _ _).symm
theorem pk_rem {a d : Nat} (ha : a < 2 ^ 31) (h0 : 0 < d) (hd : d < 2 ^ 31) : nI a - nI a / nI d * nI d = nI (a % d) := by
  rw [pk_div ha h0 hd, pk_mul, pk_sub (Nat.div_mul_le_self a d)]
  exact congrArg nI (by have := Nat.div_add_mod' a d; omega)
theorem pk_ix (x : Int32) {n : Nat} (hn : n < 2 ^ 31) : x < 0 ∨ nI n ≤ x ∨ ∃ j : Nat, j < n ∧ x = nI j := by
  by_cases h : x < 0
  · exact Or.inl h
  · obtain ⟨j, hj, rfl⟩ := nI_of h
    by_cases h2 : j < n
    · exact Or.inr (Or.inr ⟨j, h2, rfl⟩)
    · exact Or.inr (Or.inl (nI_le (by omega) hj))
theorem pk_le {x y : Int32} {A B : Prop} (a b : Nat) (f : a ≤ b → A) (g : b < a → B) (hx : x = nI a := by rfl) (hy : y = nI b := by rfl) (ha : a < 2 ^ 31 := by omega) (hb : b < 2 ^ 31 := by omega) : (x ≤ y → A) ∧ (¬ x ≤ y → B) := by
  subst hx hy
  rw [nI_leI ha hb]
  exact ⟨f, fun z => g (by omega)⟩
theorem pk_lt {x y : Int32} {A B : Prop} (a b : Nat) (f : a < b → A) (g : b ≤ a → B) (hx : x = nI a := by rfl) (hy : y = nI b := by rfl) (ha : a < 2 ^ 31 := by omega) (hb : b < 2 ^ 31 := by omega) : (x < y → A) ∧ (¬ x < y → B) := by
  subst hx hy
  rw [nI_ltI ha hb]
  exact ⟨f, fun z => g (by omega)⟩
theorem pk_eq {x y : Int32} {A B : Prop} (a b : Nat) (f : a = b → A) (g : a ≠ b → B) (hx : x = nI a := by rfl) (hy : y = nI b := by rfl) (ha : a < 2 ^ 31 := by omega) (hb : b < 2 ^ 31 := by omega) : (x = y → A) ∧ (¬ x = y → B) := by
  subst hx hy
  rw [nI_eq ha hb]
  exact ⟨f, g⟩
theorem pk_in {x : Int32} (n N : Nat) (h : n < N) (hx : x = nI n := by rfl) (hN : N < 2 ^ 31 := by omega) : vp_in x N := by
  subst hx
  exact vp_in_nI h hN
theorem pk_cl {x : Int32} (n : Nat) (hx : x = nI n := by rfl) (h : n < 2 ^ 31 := by omega) : x.toNatClampNeg = n := by
  subst hx
  exact nI_clamp h
theorem pk_loop {σ : Type} (W : Nat → Nat → σ → Prop) (I : Nat → σ → Prop) (e i0 : Nat) (s : σ) (hi : i0 ≤ e) (h0 : I i0 s) (hx : ∀ n s, I e s → W (n + 1) e s)
    (hs : ∀ n i s, i < e → I i s → (∀ s', I (i + 1) s' → W n (i + 1) s') → W (n + 1) i s) : ∃ n, W n i0 s :=
  ⟨e + 1, loop_i W I e hx hs (e + 1) i0 s hi (by omega) h0⟩
theorem pk_loopD {σ : Type} (W : Nat → Nat → σ → Prop) (I : Nat → σ → Prop) (hx : ∀ n s, I 0 s → W (n + 1) 0 s)
    (hs : ∀ n i s, I (i + 1) s → (∀ s', I i s' → W n i s') → W (n + 1) (i + 1) s) : ∀ (e : Nat) (s : σ), I e s → W (e + 1) e s := by
  intro e
  induction e with
  | zero => exact fun s h => hx 0 s h
  | succ e ih => exact fun s h => hs (e + 1) e s h (fun s' h' => ih s' h')
theorem pk_least (P : Nat → Prop) (h : ∃ k, P k) : ∃ k, P k ∧ ∀ j, j < k → ¬ P j := by
  obtain ⟨k, hk⟩ := h
  induction k using Nat.strongRecOn with
  | ind k ih =>
    by_cases e : ∃ j, j < k ∧ P j
    · obtain ⟨j, hj, pj⟩ := e
      exact ih j hj pj
    · exact ⟨k, hk, fun j hj pj => e ⟨j, hj, pj⟩⟩
/-! B: numbers -/
theorem ef_nn1 {a : Nat} (h : a < 2 ^ 31) : ¬ nI a = -1 := by
  intro e
  have := nI_pos (n := a) h
  rw [e] at this
  exact this (by decide)
def ef_enc (B n : Nat) : Int32 := if n = B then -1 else nI n
theorem ef_encB {B : Nat} : ef_enc B B = -1 := if_pos rfl
theorem ef_encN {B n : Nat} (h : n ≠ B) : ef_enc B n = nI n := if_neg h
theorem ef_encI {B n : Nat} (hn : n < 2 ^ 31) : ef_enc B n = -1 ↔ n = B := by
  by_cases h : n = B
  · rw [h, ef_encB]; simp
  · rw [ef_encN h]; exact ⟨fun e => absurd e (ef_nn1 hn), fun e => absurd e h⟩
theorem ef_encE {B n m : Nat} (hn : n < 2 ^ 31) (hm : m < 2 ^ 31) (hB : m ≠ B) : ef_enc B n = nI m ↔ n = m := by
  by_cases h : n = B
  · rw [h, ef_encB]
    exact ⟨fun e => absurd e.symm (ef_nn1 hm), fun e => absurd e.symm hB⟩
  · rw [ef_encN h]; exact nI_eq hn hm
/-! C: array pictures -/
def ef_X (B : Nat) (f : Nat → Nat) : Nat → Int32 := fun j => ef_enc B (f j)
def ef_Y (f : Nat → Nat) : Nat → Int32 := fun j => nI (f j)
def ef_un (f : Nat → Nat) (k v : Nat) : Nat → Nat := fun j => if j = k then v else f j
theorem ef_uns {f : Nat → Nat} {k v : Nat} : ef_un f k v k = v := if_pos rfl
theorem ef_unn {f : Nat → Nat} {k v j : Nat} (h : j ≠ k) : ef_un f k v j = f j := if_neg h
theorem ef_Xu {B : Nat} {f : Nat → Nat} {k v : Nat} : upd (ef_X B f) k (ef_enc B v) = ef_X B (ef_un f k v) := by
  funext j
  by_cases h : j = k
  · rw [h, pk_us]; exact congrArg (ef_enc B) ef_uns.symm
  · rw [pk_un h]; exact congrArg (ef_enc B) (ef_unn h).symm
theorem ef_Yu {f : Nat → Nat} {k v : Nat} : upd (ef_Y f) k (nI v) = ef_Y (ef_un f k v) := by
  funext j
  by_cases h : j = k
  · rw [h, pk_us]; exact congrArg nI ef_uns.symm
  · rw [pk_un h]; exact congrArg nI (ef_unn h).symm
def ef_mix {α : Type} (i : Nat) (f t : Nat → α) : Nat → α := fun j => if j < i then f j else t j
theorem ef_mixl {α : Type} {i j : Nat} {f t : Nat → α} (h : j < i) : ef_mix i f t j = f j := if_pos h
theorem ef_mixr {α : Type} {i j : Nat} {f t : Nat → α} (h : ¬ j < i) : ef_mix i f t j = t j := if_neg h
theorem ef_mix0 {α : Type} {f t : Nat → α} : ef_mix 0 f t = t := funext fun _ => if_neg (Nat.not_lt_zero _)
theorem ef_mixs {i : Nat} {f t : Nat → Int32} : upd (ef_mix i f t) i (f i) = ef_mix (i + 1) f t := by
  funext j
  by_cases h : j = i
  · subst h; rw [pk_us, ef_mixl (Nat.lt_succ_self j)]
  · rw [pk_un h]
    by_cases g : j < i
    · rw [ef_mixl g, ef_mixl (by omega)]
    · rw [ef_mixr g, ef_mixr (by omega)]
theorem ef_mixX {B i : Nat} {f t : Nat → Nat} : ef_mix i (ef_X B f) (ef_X B t) = ef_X B (ef_mix i f t) := by
  funext j
  by_cases h : j < i
  · rw [ef_mixl h]; exact congrArg (ef_enc B) (ef_mixl h).symm
  · rw [ef_mixr h]; exact congrArg (ef_enc B) (ef_mixr h).symm
theorem ef_mixY {i : Nat} {f t : Nat → Nat} : ef_mix i (ef_Y f) (ef_Y t) = ef_Y (ef_mix i f t) := by
  funext j
  by_cases h : j < i
  · rw [ef_mixl h]; exact congrArg nI (ef_mixl h).symm
  · rw [ef_mixr h]; exact congrArg nI (ef_mixr h).symm
def ef_fr (lo hi v : Nat) (f : Nat → Nat) : Nat → Nat := fun j => if lo ≤ j ∧ j < hi then v else f j
theorem ef_frt {lo hi v j : Nat} {f : Nat → Nat} (h : lo ≤ j) (h' : j < hi) : ef_fr lo hi v f j = v := if_pos ⟨h, h'⟩
theorem ef_frf {lo hi v j : Nat} {f : Nat → Nat} (h : ¬ (lo ≤ j ∧ j < hi)) : ef_fr lo hi v f j = f j := if_neg h
theorem ef_fr0 {lo v : Nat} {f : Nat → Nat} : ef_fr lo lo v f = f := funext fun j => if_neg (by omega)
theorem ef_frs {lo i v : Nat} {f : Nat → Nat} (h : lo ≤ i) : ef_un (ef_fr lo i v f) i v = ef_fr lo (i + 1) v f := by
  funext j
  by_cases e : j = i
  · subst e; rw [ef_uns, ef_frt h (Nat.lt_succ_self j)]
  · rw [ef_unn e]
    by_cases g : lo ≤ j ∧ j < i
    · rw [ef_frt g.1 g.2, ef_frt g.1 (by omega)]
    · rw [ef_frf g, ef_frf (by omega)]
theorem ef_frk {lo i v : Nat} {f : Nat → Nat} (h : f i = v) : ef_fr lo i v f = ef_fr lo (i + 1) v f := by
  funext j
  by_cases g : lo ≤ j ∧ j < i
  · rw [ef_frt g.1 g.2, ef_frt g.1 (by omega)]
  · rw [ef_frf g]
    by_cases e : lo ≤ j ∧ j < i + 1
    · rw [ef_frt e.1 e.2, ← h]; exact congrArg f (by omega)
    · rw [ef_frf e]
theorem ef_fra {lo hi v : Nat} {f : Nat → Nat} (h : ∀ j, lo ≤ j → j < hi → f j = v) : ef_fr lo hi v f = f := by
  funext j
  by_cases g : lo ≤ j ∧ j < hi
  · rw [ef_frt g.1 g.2, h j g.1 g.2]
  · rw [ef_frf g]
/-! D: counts -/
noncomputable def ef_b (P : Prop) : Nat := @ite Nat P (Classical.propDecidable P) 1 0
theorem ef_b1 {P : Prop} (h : P) : ef_b P = 1 := if_pos h
theorem ef_b0 {P : Prop} (h : ¬ P) : ef_b P = 0 := if_neg h
noncomputable def ef_cn (P : Nat → Prop) : Nat → Nat
  | 0 => 0
  | i + 1 => ef_cn P i + ef_b (P i)
theorem ef_cnt {P : Nat → Prop} {i : Nat} (h : P i) : ef_cn P (i + 1) = ef_cn P i + 1 := by
  show ef_cn P i + ef_b (P i) = _
  rw [ef_b1 h]
theorem ef_cnf {P : Nat → Prop} {i : Nat} (h : ¬ P i) : ef_cn P (i + 1) = ef_cn P i := by
  show ef_cn P i + ef_b (P i) = _
  rw [ef_b0 h]; rfl
theorem ef_cnle (P : Nat → Prop) (n : Nat) : ef_cn P n ≤ n := by
  induction n with
  | zero => exact Nat.le_refl 0
  | succ n ih =>
    by_cases h : P n
    · rw [ef_cnt h]; omega
    · rw [ef_cnf h]; omega
theorem ef_cnc {P Q : Nat → Prop} {n : Nat} (h : ∀ j, j < n → (P j ↔ Q j)) : ef_cn P n = ef_cn Q n := by
  induction n with
  | zero => rfl
  | succ n ih =>
    have e := ih (fun j hj => h j (by omega))
    by_cases g : P n
    · rw [ef_cnt g, ef_cnt ((h n (by omega)).mp g), e]
    · rw [ef_cnf g, ef_cnf (fun q => g ((h n (by omega)).mpr q)), e]
theorem ef_cn0 {P : Nat → Prop} {n : Nat} (h : ∀ j, j < n → ¬ P j) : ef_cn P n = 0 := by
  induction n with
  | zero => rfl
  | succ n ih => rw [ef_cnf (h n (by omega)), ih (fun j hj => h j (by omega))]
theorem ef_cnz {P : Nat → Prop} {n : Nat} (h : ef_cn P n = 0) : ∀ j, j < n → ¬ P j := by
  induction n with
  | zero => intro j hj; omega
  | succ n ih =>
    by_cases g : P n
    · rw [ef_cnt g] at h; omega
    · rw [ef_cnf g] at h
      intro j hj
      by_cases e : j = n
      · rw [e]; exact g
      · exact ih h j (by omega)
theorem ef_cnl {P : Nat → Prop} {n j : Nat} (hj : j < n) (h : ¬ P j) : ef_cn P n < n := by
  induction n with
  | zero => omega
  | succ n ih =>
    by_cases g : P n
    · have e : j ≠ n := fun e => h (e ▸ g)
      rw [ef_cnt g]
      have := ih (by omega)
      omega
    · rw [ef_cnf g]
      have := ef_cnle P n
      omega
theorem ef_cna {P : Nat → Prop} {n : Nat} (h : ∀ j, j < n → P j) : ef_cn P n = n := by
  induction n with
  | zero => rfl
  | succ n ih => rw [ef_cnt (h n (by omega)), ih (fun j hj => h j (by omega))]
/-! E: the least of a range -/
theorem ef_least (P : Nat → Prop) (lo n : Nat) (hl : lo ≤ n) : ∃ r, lo ≤ r ∧ r ≤ n ∧ (r < n → P r) ∧ ∀ j, lo ≤ j → j < r → ¬ P j := by
  by_cases h : ∃ k, lo ≤ k ∧ k < n ∧ P k
  · obtain ⟨r, ⟨h1, h2, h3⟩, hm⟩ := pk_least (fun k => lo ≤ k ∧ k < n ∧ P k) h
    exact ⟨r, h1, by omega, fun _ => h3, fun j hj hr hp => hm j hr ⟨hj, by omega, hp⟩⟩
  · exact ⟨n, hl, Nat.le_refl n, fun z => absurd z (Nat.lt_irrefl n), fun j hj hr hp => h ⟨j, hj, hr, hp⟩⟩
end
section
/-! A: what a state (present or saved) keeps: kinds, the reference's parents, names; our parents and copies as naturals (16: none, 24: none) -/
def ef_St (kd iy nm : Nat → Int32) (pa cp : Nat → Nat) : Prop :=
  kd 0 = 1 ∧ (∀ j, j < 16 → kd j = 0 ∨ kd j = 1 ∨ kd j = 2) ∧ (∀ j, j < 16 → ∃ m, m < 100 ∧ nm j = nI m) ∧
  (∀ j, j < 16 → (j = 0 ∨ kd j = 0) → pa j = 16) ∧
  (∀ j, j < 16 → j ≠ 0 → kd j ≠ 0 → pa j < 16 ∧ iy j = nI (pa j) ∧ kd (pa j) = 1) ∧
  (∀ p, p < 128 → cp p ≤ 24) ∧ (∀ p, p < 128 → kd (p / 8) ≠ 2 → cp p = 24)
section EF
variable {kd iy nm kd' iy' nm' : Nat → Int32} {pa cp pa' cp' : Nat → Nat}
theorem ef_St_pa (S : ef_St kd iy nm pa cp) {j : Nat} (hj : j < 16) : pa j ≤ 16 := by
  obtain ⟨h0, hk, hn, hp, hl, hc, hb⟩ := S
  by_cases e : j = 0 ∨ kd j = 0
  · exact Nat.le_of_eq (hp j hj e)
  · exact Nat.le_of_lt (hl j hj (fun z => e (Or.inl z)) (fun z => e (Or.inr z))).1
theorem ef_St_make (S : ef_St kd iy nm pa cp) {r d m : Nat} {t : Int32} (hr : r < 16) (hr0 : kd r = 0) (hd : d < 16) (hkd : kd d = 1) (hm : m < 100) (ht : t = 1 ∨ t = 2) : ef_St (upd kd r t) (upd iy r (nI d)) (upd nm r (nI m)) (ef_un pa r d) cp ∧ ef_fr (8 * r) (8 * r + 8) 24 cp = cp := by
  obtain ⟨h0, hk, hn, hp, hl, hc, hb⟩ := S
  have r0 : r ≠ 0 := by
    intro e
    rw [e, h0] at hr0
    exact absurd hr0 (by decide)
  have dr : d ≠ r := by
    intro e
    rw [e, hr0] at hkd
    exact absurd hkd (by decide)
  have t0 : t ≠ 0 := by
    rcases ht with e | e <;> rw [e] <;> decide
  refine ⟨⟨?_, ?_, ?_, ?_, ?_, hc, ?_⟩, ?_⟩
  · rw [pk_un (Ne.symm r0)]; exact h0
  · intro j hj
    by_cases e : j = r
    · rw [e, pk_us]; exact Or.inr ht
    · rw [pk_un e]; exact hk j hj
  · intro j hj
    by_cases e : j = r
    · rw [e, pk_us]; exact ⟨m, hm, rfl⟩
    · rw [pk_un e]; exact hn j hj
  · intro j hj hz
    have e : j ≠ r := by
      intro e
      rcases hz with z | z
      · exact r0 (e.symm.trans z)
      · rw [e, pk_us] at z
        exact t0 z
    rw [pk_un e] at hz
    rw [ef_unn e]
    exact hp j hj hz
  · intro j hj j0 hz
    by_cases e : j = r
    · rw [e, ef_uns, pk_us, pk_un dr]; exact ⟨hd, rfl, hkd⟩
    · rw [pk_un e] at hz
      obtain ⟨a, b, c⟩ := hl j hj j0 hz
      have g : pa j ≠ r := by
        intro e2
        rw [e2, hr0] at c
        exact absurd c (by decide)
      rw [ef_unn e, pk_un e, pk_un g]
      exact ⟨a, b, c⟩
  · intro p hp2 hz
    by_cases e : p / 8 = r
    · exact hb p hp2 (by rw [e, hr0]; decide)
    · rw [pk_un e] at hz
      exact hb p hp2 hz
  · exact ef_fra (fun j h1 h2 => hb j (by omega) (by rw [show j / 8 = r from by omega, hr0]; decide))
theorem ef_St_erase (S : ef_St kd iy nm pa cp) {r : Nat} (r0 : r ≠ 0) (he : ∀ j, j < 16 → pa j ≠ r) : ef_St (upd kd r 0) iy nm (ef_un pa r 16) (ef_fr (8 * r) (8 * r + 8) 24 cp) := by
  obtain ⟨h0, hk, hn, hp, hl, hc, hb⟩ := S
  refine ⟨?_, ?_, hn, ?_, ?_, ?_, ?_⟩
  · rw [pk_un (Ne.symm r0)]; exact h0
  · intro j hj
    by_cases e : j = r
    · rw [e, pk_us]; exact Or.inl rfl
    · rw [pk_un e]; exact hk j hj
  · intro j hj hz
    by_cases e : j = r
    · rw [e, ef_uns]
    · rw [pk_un e] at hz
      rw [ef_unn e]
      exact hp j hj hz
  · intro j hj j0 hz
    have e : j ≠ r := by
      intro e
      rw [e, pk_us] at hz
      exact hz rfl
    rw [pk_un e] at hz
    obtain ⟨a, b, c⟩ := hl j hj j0 hz
    rw [ef_unn e, pk_un (he j hj)]
    exact ⟨a, b, c⟩
  · intro p hp2
    by_cases g : 8 * r ≤ p ∧ p < 8 * r + 8
    · rw [ef_frt g.1 g.2]; exact Nat.le_refl _
    · rw [ef_frf g]; exact hc p hp2
  · intro p hp2 hz
    by_cases g : 8 * r ≤ p ∧ p < 8 * r + 8
    · rw [ef_frt g.1 g.2]
    · rw [ef_frf g]
      rw [pk_un (by omega)] at hz
      exact hb p hp2 hz
theorem ef_St_ren (S : ef_St kd iy nm pa cp) {k d m : Nat} (k0 : k ≠ 0) (kk : kd k ≠ 0) (hd : d < 16) (hkd : kd d = 1) (hm : m < 100) : ef_St kd (upd iy k (nI d)) (upd nm k (nI m)) (ef_un pa k d) cp := by
  obtain ⟨h0, hk, hn, hp, hl, hc, hb⟩ := S
  refine ⟨h0, hk, ?_, ?_, ?_, hc, hb⟩
  · intro j hj
    by_cases e : j = k
    · rw [e, pk_us]; exact ⟨m, hm, rfl⟩
    · rw [pk_un e]; exact hn j hj
  · intro j hj hz
    have e : j ≠ k := by
      intro e
      rw [e] at hz
      rcases hz with z | z
      · exact k0 z
      · exact kk z
    rw [ef_unn e]
    exact hp j hj hz
  · intro j hj j0 hz
    by_cases e : j = k
    · rw [e, ef_uns, pk_us]; exact ⟨hd, rfl, hkd⟩
    · rw [ef_unn e, pk_un e]; exact hl j hj j0 hz
theorem ef_St_cp (S : ef_St kd iy nm pa cp) (h1 : ∀ p, p < 128 → cp' p ≤ 24) (h2 : ∀ p, p < 128 → kd (p / 8) ≠ 2 → cp' p = 24) : ef_St kd iy nm pa cp' := by
  obtain ⟨h0, hk, hn, hp, hl, hc, hb⟩ := S
  exact ⟨h0, hk, hn, hp, hl, h1, h2⟩
theorem ef_St_put (S : ef_St kd iy nm pa cp) {p c : Nat} (hk : kd (p / 8) = 2) (hc : c ≤ 24) : ef_St kd iy nm pa (ef_un cp p c) := by
  refine ef_St_cp S ?_ ?_
  · intro q hq
    by_cases e : q = p
    · rw [e, ef_uns]; exact hc
    · rw [ef_unn e]; exact S.2.2.2.2.2.1 q hq
  · intro q hq hz
    have e : q ≠ p := by
      intro e
      rw [e] at hz
      exact hz hk
    rw [ef_unn e]
    exact S.2.2.2.2.2.2 q hq hz
theorem ef_St_cut (S : ef_St kd iy nm pa cp) {lo hi : Nat} : ef_St kd iy nm pa (ef_fr lo hi 24 cp) := by
  refine ef_St_cp S ?_ ?_
  · intro q hq
    by_cases g : lo ≤ q ∧ q < hi
    · rw [ef_frt g.1 g.2]; exact Nat.le_refl _
    · rw [ef_frf g]; exact S.2.2.2.2.2.1 q hq
  · intro q hq hz
    by_cases g : lo ≤ q ∧ q < hi
    · rw [ef_frt g.1 g.2]
    · rw [ef_frf g]; exact S.2.2.2.2.2.2 q hq hz
theorem ef_St_congr (S : ef_St kd iy nm pa cp) (e1 : ∀ j, j < 16 → kd' j = kd j) (e2 : ∀ j, j < 16 → iy' j = iy j) (e3 : ∀ j, j < 16 → nm' j = nm j) (e4 : ∀ j, j < 16 → pa' j = pa j) (e5 : ∀ j, j < 128 → cp' j = cp j) : ef_St kd' iy' nm' pa' cp' := by
  obtain ⟨h0, hk, hn, hp, hl, hc, hb⟩ := S
  refine ⟨?_, ?_, ?_, ?_, ?_, ?_, ?_⟩
  · rw [e1 0 (by omega)]; exact h0
  · intro j hj
    rw [e1 j hj]; exact hk j hj
  · intro j hj
    rw [e3 j hj]; exact hn j hj
  · intro j hj hz
    rw [e1 j hj] at hz
    rw [e4 j hj]
    exact hp j hj hz
  · intro j hj j0 hz
    rw [e1 j hj] at hz
    obtain ⟨a, b, c⟩ := hl j hj j0 hz
    rw [e4 j hj, e2 j hj, e1 _ a]
    exact ⟨a, b, c⟩
  · intro p hp2
    rw [e5 p hp2]; exact hc p hp2
  · intro p hp2 hz
    rw [e1 (p / 8) (by omega)] at hz
    rw [e5 p hp2]
    exact hb p hp2 hz
theorem ef_St_mix (S : ef_St kd iy nm pa cp) : ef_St (ef_mix 16 kd kd') (ef_mix 16 iy iy') (ef_mix 16 nm nm') (ef_mix 16 pa pa') (ef_mix 128 cp cp') :=
  ef_St_congr S (fun _ h => ef_mixl h) (fun _ h => ef_mixl h) (fun _ h => ef_mixl h) (fun _ h => ef_mixl h) (fun _ h => ef_mixl h)
/-- an entry of a directory, as the component sees it and as the reference does -/
theorem ef_St_ent (S : ef_St kd iy nm pa cp) {j d : Nat} (hj : j < 16) (hd : d < 16) (h1 : 1 ≤ j) : pa j = d ↔ (kd j ≠ 0 ∧ iy j = nI d) := by
  obtain ⟨h0, hk, hn, hp, hl, hc, hb⟩ := S
  by_cases z : kd j = 0
  · rw [hp j hj (Or.inr z)]
    exact ⟨fun e => by omega, fun e => absurd z e.1⟩
  · obtain ⟨a, b, c⟩ := hl j hj (by omega) z
    rw [b]
    exact ⟨fun e => ⟨z, by rw [e]⟩, fun e => (nI_eq (by omega) (by omega)).mp e.2⟩
theorem ef_St_top (S : ef_St kd iy nm pa cp) {d : Nat} (hd : d < 16) : ¬ pa 0 = d := by
  rw [S.2.2.2.1 0 (by omega) (Or.inl rfl)]
  omega
theorem ef_St_pos (S : ef_St kd iy nm pa cp) {j : Nat} (hj : j < 16) : kd j ≤ 0 ↔ kd j = 0 := by
  rcases S.2.1 j hj with e | e | e <;> rw [e] <;> decide
/-! B: the way up -/
def ef_an (pa : Nat → Nat) (p : Nat) : Nat → Nat
  | 0 => p
  | i + 1 => if ef_an pa p i = 16 then 16 else pa (ef_an pa p i)
theorem ef_an16 {p i : Nat} (h : ef_an pa p i = 16) : ef_an pa p (i + 1) = 16 := if_pos h
theorem ef_ann {p i : Nat} (h : ef_an pa p i ≠ 16) : ef_an pa p (i + 1) = pa (ef_an pa p i) := if_neg h
theorem ef_an_up {p i : Nat} (h : ef_an pa p i = 16) : ∀ d, ef_an pa p (i + d) = 16 := by
  intro d
  induction d with
  | zero => exact h
  | succ d ih => exact ef_an16 ih
theorem ef_an_in (S : ef_St kd iy nm pa cp) {p : Nat} (hp : p < 16) (hk : kd p = 1) : ∀ i, ef_an pa p i = 16 ∨ (ef_an pa p i < 16 ∧ kd (ef_an pa p i) = 1) := by
  intro i
  induction i with
  | zero => exact Or.inr ⟨hp, hk⟩
  | succ i ih =>
    rcases ih with e | ⟨a, b⟩
    · exact Or.inl (ef_an16 e)
    · rw [ef_ann (by omega)]
      by_cases z : ef_an pa p i = 0
      · rw [z]; exact Or.inl (S.2.2.2.1 0 (by omega) (Or.inl rfl))
      · have := S.2.2.2.2.1 _ a z (by rw [b]; decide)
        exact Or.inr ⟨this.1, this.2.2⟩
/-- what the reference holds where the component holds the way up's i-th node -/
def ef_q (n : Nat) : Nat := if n = 16 then 0 else n
theorem ef_q16 : ef_q 16 = 0 := rfl
theorem ef_qn {n : Nat} (h : n ≠ 16) : ef_q n = n := if_neg h
theorem ef_qk {n k : Nat} (k0 : k ≠ 0) (hk : k < 16) : ef_q n = k ↔ n = k := by
  by_cases e : n = 16
  · rw [e, ef_q16]; omega
  · rw [ef_qn e]
theorem ef_qlt {n : Nat} (h : n ≤ 16) : ef_q n < 16 := by
  by_cases e : n = 16
  · rw [e, ef_q16]; omega
  · rw [ef_qn e]; omega
theorem ef_q_up (S : ef_St kd iy nm pa cp) {p : Nat} (hp : p < 16) (hk : kd p = 1) (i : Nat) : (ef_q (ef_an pa p i) = 0 → ef_q (ef_an pa p (i + 1)) = 0) ∧ (ef_q (ef_an pa p i) ≠ 0 → iy (ef_q (ef_an pa p i)) = nI (ef_q (ef_an pa p (i + 1)))) := by
  rcases ef_an_in S hp hk i with e | ⟨a, b⟩
  · rw [ef_an16 e, e, ef_q16]; exact ⟨fun z => z, fun z => absurd rfl z⟩
  · rw [ef_ann (by omega), ef_qn (by omega : ef_an pa p i ≠ 16)]
    constructor
    · intro z
      rw [z, S.2.2.2.1 0 (by omega) (Or.inl rfl), ef_q16]
    · intro z
      have := S.2.2.2.2.1 _ a z (by rw [b]; decide)
      rw [this.2.1, ef_qn (by omega)]
/-! C: the least name above another -/
noncomputable def ef_nx (Q : Nat → Prop) (m : Nat → Nat) : Nat → Nat
  | 0 => 100
  | i + 1 => @ite Nat (Q i ∧ m i < ef_nx Q m i) (Classical.propDecidable _) (m i) (ef_nx Q m i)
theorem ef_nxt {Q : Nat → Prop} {m : Nat → Nat} {i : Nat} (h : Q i) (g : m i < ef_nx Q m i) : ef_nx Q m (i + 1) = m i := if_pos ⟨h, g⟩
theorem ef_nxf {Q : Nat → Prop} {m : Nat → Nat} {i : Nat} (h : ¬ (Q i ∧ m i < ef_nx Q m i)) : ef_nx Q m (i + 1) = ef_nx Q m i := if_neg h
theorem ef_nxle {Q : Nat → Prop} {m : Nat → Nat} (i : Nat) : ef_nx Q m i ≤ 100 := by
  induction i with
  | zero => exact Nat.le_refl _
  | succ i ih =>
    by_cases h : Q i ∧ m i < ef_nx Q m i
    · rw [ef_nxt h.1 h.2]; omega
    · rw [ef_nxf h]; exact ih
/-! D: a copy filled from another -/
def ef_fl (dt : Nat → Int32) (fresh old : Nat) : Nat → Nat → Int32
  | 0 => dt
  | i + 1 => upd (ef_fl dt fresh old i) (4 * fresh + i) (if old = 24 then 0 else ef_fl dt fresh old i (4 * old + i))
theorem ef_fls {dt : Nat → Int32} {fresh old i : Nat} : ef_fl dt fresh old (i + 1) = upd (ef_fl dt fresh old i) (4 * fresh + i) (if old = 24 then 0 else ef_fl dt fresh old i (4 * old + i)) := rfl
/-! E: a copy that is held -/
def ef_hd (cp : Nat → Nat) (c : Nat) : Prop := ∃ p, p < 128 ∧ cp p = c
end EF
end
section
/-! the component's own methods, each for a general post -/
section EFX
variable {sv : Int32} {kd pr nm cx sk sp sn sc dt no : Nat → Int32} {pa cp scp hn : Nat → Nat}
/-! A: ranges of arguments -/
theorem ef_out {x : Int32} {n : Nat} (hx : ¬ ∃ j, j < n ∧ x = nI j) (h0 : ¬ x < 0) : ∃ m, n ≤ m ∧ m < 2 ^ 31 ∧ x = nI m := by
  obtain ⟨m, hm, e⟩ := nI_of h0
  exact ⟨m, Nat.le_of_not_lt (fun g => hx ⟨m, g, e⟩), hm, e⟩
theorem ef_out1 {x : Int32} {n : Nat} (hx : ¬ ∃ j, 1 ≤ j ∧ j < n ∧ x = nI j) (h0 : ¬ x < 1) : ∃ m, n ≤ m ∧ m < 2 ^ 31 ∧ x = nI m := by
  have h : ¬ x < 0 := fun z => h0 (Int32.lt_trans z (by decide))
  obtain ⟨m, hm, e⟩ := nI_of h
  have h1 : 1 ≤ m := by
    apply Nat.le_of_not_lt
    intro g
    have g0 : m = 0 := by omega
    rw [e, g0] at h0
    exact h0 (by decide)
  exact ⟨m, Nat.le_of_not_lt (fun g => hx ⟨m, h1, g, e⟩), hm, e⟩
theorem ef_xH1 {post : Int32 → Prop} {j : Nat} (hj : j < 4) (h : post 1) : wpX_isHandle post (nI j) :=
  br_f (nI_pos (by omega)) (br_f (nI_ge (b := 4) hj (by decide)) h)
theorem ef_xH0 {post : Int32 → Prop} {x : Int32} (hx : ¬ ∃ j, j < 4 ∧ x = nI j) (h : post 0) : wpX_isHandle post x := by
  by_cases h0 : x < 0
  · exact br_t h0 h
  · obtain ⟨m, h1, h2, e⟩ := ef_out hx h0
    exact br_f h0 (br_t (show (4 : Int32) ≤ x by rw [e]; exact nI_le (a := 4) h1 h2) h)
theorem ef_xF1 {post : Int32 → Prop} {j : Nat} (h1 : 1 ≤ j) (hj : j < 4) (h : post 1) : wpX_isFreeHandle post (nI j) :=
  br_f (nI_nlt (b := 1) h1 (by omega)) (br_f (nI_ge (b := 4) hj (by decide)) h)
theorem ef_xF0 {post : Int32 → Prop} {x : Int32} (hx : ¬ ∃ j, 1 ≤ j ∧ j < 4 ∧ x = nI j) (h : post 0) : wpX_isFreeHandle post x := by
  by_cases h0 : x < 1
  · exact br_t h0 h
  · obtain ⟨m, h1, h2, e⟩ := ef_out1 hx h0
    exact br_f h0 (br_t (show (4 : Int32) ≤ x by rw [e]; exact nI_le (a := 4) h1 h2) h)
theorem ef_xN1 {post : Int32 → Prop} {j : Nat} (hj : j < 100) (h : post 1) : wpX_isName post (nI j) :=
  br_f (nI_pos (by omega)) (br_f (nI_nlt (a := 99) (b := j) (by omega) (by decide)) h)
theorem ef_xN0 {post : Int32 → Prop} {x : Int32} (hx : ¬ ∃ j, j < 100 ∧ x = nI j) (h : post 0) : wpX_isName post x := by
  by_cases h0 : x < 0
  · exact br_t h0 h
  · obtain ⟨m, h1, h2, e⟩ := ef_out hx h0
    exact br_f h0 (br_t (show (99 : Int32) < x by rw [e]; exact nI_lt (a := 99) (by omega) h2) h)
theorem ef_xC1 {post : Int32 → Prop} {j : Nat} (hj : j < 32) (h : post 1) : wpX_isCell post (nI j) :=
  br_f (nI_pos (by omega)) (br_f (nI_ge (b := 32) hj (by decide)) h)
theorem ef_xC0 {post : Int32 → Prop} {x : Int32} (hx : ¬ ∃ j, j < 32 ∧ x = nI j) (h : post 0) : wpX_isCell post x := by
  by_cases h0 : x < 0
  · exact br_t h0 h
  · obtain ⟨m, h1, h2, e⟩ := ef_out hx h0
    exact br_f h0 (br_t (show (32 : Int32) ≤ x by rw [e]; exact nI_le (a := 32) h1 h2) h)
/-! B: places -/
theorem ef_pl (k i : Nat) : nI k * 8 + nI i = nI (8 * k + i) := by
  rw [show (8 : Int32) = nI 8 from rfl, pk_mul, nI_add, Nat.mul_comm]
theorem ef_pl8 (k i : Nat) : 8 * nI k + nI i = nI (8 * k + i) := by
  rw [show (8 : Int32) = nI 8 from rfl, pk_mul, nI_add]
theorem ef_p4 (k i : Nat) : nI k * 4 + nI i = nI (4 * k + i) := by
  rw [show (4 : Int32) = nI 4 from rfl, pk_mul, nI_add, Nat.mul_comm]
theorem ef_p48 (k i : Nat) : 4 * nI k + nI i = nI (4 * k + i) := by
  rw [show (4 : Int32) = nI 4 from rfl, pk_mul, nI_add]
theorem ef_d4 {a : Nat} (h : a < 2 ^ 31) : nI a / 4 = nI (a / 4) := pk_div (d := 4) h (by decide) (by decide)
theorem ef_d8 {a : Nat} (h : a < 2 ^ 31) : nI a / 8 = nI (a / 8) := pk_div (d := 8) h (by decide) (by decide)
theorem ef_r4 {a : Nat} (h : a < 2 ^ 31) : nI a - nI a / 4 * 4 = nI (a % 4) := pk_rem (d := 4) h (by decide) (by decide)
theorem ef_xPl {post : Int32 → Prop} {k i : Nat} (h : post (nI (8 * k + i))) : wpX_placeOf post (nI k) (nI i) := by
  unfold wpX_placeOf
  rw [ef_pl]
  exact h
theorem ef_XuB {B : Nat} {f : Nat → Nat} {k : Nat} : upd (ef_X B f) k (-1) = ef_X B (ef_un f k B) := by
  rw [← ef_Xu, ef_encB]
/-! C: faults -/
theorem ef_xDF {post : Int32 → Prop} {j : Nat} (hj : j < 4) (hh : hn j ≤ 16) (a : hn j = 16 → post (-3)) (b : hn j < 16 → kd (hn j) = 1 → post 0) (c : hn j < 16 → ¬ kd (hn j) = 1 → post (-4)) : wpX_directoryFault post (sv, kd, pr, nm, cx, sk, sp, sn, sc, dt, ef_X 16 hn) (nI j) := by
  refine ⟨vp_in_nI hj (by decide), nm_r (e' := ef_enc 16 (hn j)) (by rw [nI_clamp (by omega)]; rfl) ?_⟩
  by_cases e : hn j = 16
  · rw [e, ef_encB]; exact br_t rfl (a e)
  · rw [ef_encN e]
    refine br_f (ef_nn1 (by omega)) ⟨vp_in_nI (by omega) (by decide), ?_⟩
    rw [nI_clamp (by omega)]
    exact br_c (b (by omega)) (c (by omega))
theorem ef_xFF {post : Int32 → Prop} {j : Nat} (hj : j < 4) (hh : hn j ≤ 16) (a : hn j = 16 → post (-3)) (b : hn j < 16 → kd (hn j) = 2 → post 0) (c : hn j < 16 → ¬ kd (hn j) = 2 → post (-4)) : wpX_fileFault post (sv, kd, pr, nm, cx, sk, sp, sn, sc, dt, ef_X 16 hn) (nI j) := by
  refine ⟨vp_in_nI hj (by decide), nm_r (e' := ef_enc 16 (hn j)) (by rw [nI_clamp (by omega)]; rfl) ?_⟩
  by_cases e : hn j = 16
  · rw [e, ef_encB]; exact br_t rfl (a e)
  · rw [ef_encN e]
    refine br_f (ef_nn1 (by omega)) ⟨vp_in_nI (by omega) (by decide), ?_⟩
    rw [nI_clamp (by omega)]
    exact br_c (b (by omega)) (c (by omega))
/-! D: scans -/
theorem ef_xEnt2 {post : Int32 → Prop} {d r : Nat} {y : Int32} (hp : ∀ j, j < 16 → pa j ≤ 16) (hd : d < 16) (hr : r ≤ 16) (hP : r < 16 → pa r = d ∧ nm r = y) (hN : ∀ j, j < r → ¬ (pa j = d ∧ nm j = y)) (h : post (ef_enc 16 r)) : ∀ (n i : Nat), 16 < n + i → i ≤ r → wX_entryOf_2 post (nI d) y sv kd (ef_X 16 pa) nm cx sk sp sn sc dt no n (nI i) := by
  intro n
  induction n with
  | zero => intro i h1 h2; omega
  | succ n ih =>
    intro i h1 h2
    have c : (nI i).toNatClampNeg = i := nI_clamp (by omega)
    rw [wX_entryOf_2]
    by_cases e : i = 16
    · have er : r = 16 := by omega
      rw [er, ef_encB] at h
      subst e
      exact br_t (show (16 : Int32) ≤ nI 16 from by decide) h
    · have v := vp_in_nI (n := i) (N := 16) (by omega) (by decide)
      have hx : ef_X 16 pa i = nI d ↔ pa i = d := ef_encE (by have := hp i (by omega); omega) (by omega) (by omega)
      refine br_f (nI_ge (b := 16) (by omega) (by decide)) ⟨v, ?_⟩
      rw [c]
      by_cases q : i = r
      · have hq := hP (by omega)
        rw [← q] at hq h
        rw [ef_encN e] at h
        exact br_t (hx.mpr hq.1) ⟨v, br_t hq.2 h⟩
      · have hq := hN i (by omega)
        by_cases g : pa i = d
        · exact br_t (hx.mpr g) ⟨v, br_f (fun z => hq ⟨g, z⟩) (nm_r (nI_1 i) (ih (i + 1) (by omega) (by omega)))⟩
        · exact br_f (fun z => g (hx.mp z)) (nm_r (nI_1 i) (ih (i + 1) (by omega) (by omega)))
theorem ef_xEnt {post : Int32 → Prop} {d r : Nat} {y : Int32} (hp : ∀ j, j < 16 → pa j ≤ 16) (hd : d < 16) (hr : r ≤ 16) (hP : r < 16 → pa r = d ∧ nm r = y) (hN : ∀ j, j < r → ¬ (pa j = d ∧ nm j = y)) (h : post (ef_enc 16 r)) : wpX_entryOf post (sv, kd, ef_X 16 pa, nm, cx, sk, sp, sn, sc, dt, no) (nI d) y :=
  ⟨17, ef_xEnt2 hp hd hr hP hN h 17 0 (by omega) (by omega)⟩
theorem ef_xFN2 {post : Int32 → Prop} {r : Nat} (hr : r ≤ 16) (hP : r < 16 → kd r = 0) (hN : ∀ j, j < r → ¬ kd j = 0) (h : post (ef_enc 16 r)) : ∀ (n i : Nat), 16 < n + i → i ≤ r → wX_freeNode_2 post sv kd pr nm cx sk sp sn sc dt no n (nI i) := by
  intro n
  induction n with
  | zero => intro i h1 h2; omega
  | succ n ih =>
    intro i h1 h2
    have c : (nI i).toNatClampNeg = i := nI_clamp (by omega)
    rw [wX_freeNode_2]
    by_cases e : i = 16
    · have er : r = 16 := by omega
      rw [er, ef_encB] at h
      subst e
      exact br_t (show (16 : Int32) ≤ nI 16 from by decide) h
    · have v := vp_in_nI (n := i) (N := 16) (by omega) (by decide)
      refine br_f (nI_ge (b := 16) (by omega) (by decide)) ⟨v, ?_⟩
      rw [c]
      by_cases q : i = r
      · have hq := hP (by omega)
        rw [← q] at hq h
        rw [ef_encN e] at h
        exact br_t hq h
      · exact br_f (hN i (by omega)) (nm_r (nI_1 i) (ih (i + 1) (by omega) (by omega)))
theorem ef_xFN {post : Int32 → Prop} {r : Nat} (hr : r ≤ 16) (hP : r < 16 → kd r = 0) (hN : ∀ j, j < r → ¬ kd j = 0) (h : post (ef_enc 16 r)) : wpX_freeNode post (sv, kd, pr, nm, cx, sk, sp, sn, sc, dt, no) :=
  ⟨17, ef_xFN2 hr hP hN h 17 0 (by omega) (by omega)⟩
theorem ef_xHH2 {post : Int32 → Prop} {k : Nat} (hk : k < 16) (hh : ∀ j, j < 4 → hn j ≤ 16) (a : (∃ j, j < 4 ∧ hn j = k) → post 1) (b : (¬ ∃ j, j < 4 ∧ hn j = k) → post 0) : ∀ (n i : Nat), 4 < n + i → i ≤ 4 → (∀ j, j < i → hn j ≠ k) → wX_hasHandle_2 post (nI k) sv kd pr nm cx sk sp sn sc dt (ef_X 16 hn) n (nI i) := by
  intro n
  induction n with
  | zero => intro i h1 h2; omega
  | succ n ih =>
    intro i h1 h2 h3
    have c : (nI i).toNatClampNeg = i := nI_clamp (by omega)
    rw [wX_hasHandle_2]
    by_cases e : i = 4
    · subst e
      exact br_t (show (4 : Int32) ≤ nI 4 from by decide) (b (fun ⟨j, h4, h5⟩ => h3 j h4 h5))
    · have hx : ef_X 16 hn i = nI k ↔ hn i = k := ef_encE (by have := hh i (by omega); omega) (by omega) (by omega)
      refine br_f (nI_ge (b := 4) (by omega) (by decide)) ⟨vp_in_nI (by omega) (by decide), ?_⟩
      rw [c]
      by_cases g : hn i = k
      · exact br_t (hx.mpr g) (a ⟨i, by omega, g⟩)
      · refine br_f (fun z => g (hx.mp z)) (nm_r (nI_1 i) (ih (i + 1) (by omega) (by omega) (fun j hj => ?_)))
        by_cases ej : j = i
        · rw [ej]; exact g
        · exact h3 j (by omega)
theorem ef_xHH {post : Int32 → Prop} {k : Nat} (hk : k < 16) (hh : ∀ j, j < 4 → hn j ≤ 16) (a : (∃ j, j < 4 ∧ hn j = k) → post 1) (b : (¬ ∃ j, j < 4 ∧ hn j = k) → post 0) : wpX_hasHandle post (sv, kd, pr, nm, cx, sk, sp, sn, sc, dt, ef_X 16 hn) (nI k) :=
  ⟨5, ef_xHH2 hk hh a b 5 0 (by omega) (by omega) (fun j hj => absurd hj (Nat.not_lt_zero j))⟩
/-! E: counts -/
theorem ef_xCE2 {post : Int32 → Prop} {d : Nat} (hp : ∀ j, j < 16 → pa j ≤ 16) (hd : d < 16) (h : post (nI (ef_cn (fun j => pa j = d) 16))) : ∀ (n i : Nat), 16 < n + i → i ≤ 16 → wX_countEntries_4 post (nI d) sv kd (ef_X 16 pa) nm cx sk sp sn sc dt no n (nI (ef_cn (fun j => pa j = d) i)) (nI i) := by
  intro n
  induction n with
  | zero => intro i h1 h2; omega
  | succ n ih =>
    intro i h1 h2
    have c : (nI i).toNatClampNeg = i := nI_clamp (by omega)
    rw [wX_countEntries_4]
    by_cases e : i = 16
    · subst e
      exact br_t (show (16 : Int32) ≤ nI 16 from by decide) h
    · have hx : ef_X 16 pa i = nI d ↔ pa i = d := ef_encE (by have := hp i (by omega); omega) (by omega) (by omega)
      refine br_f (nI_ge (b := 16) (by omega) (by decide)) ⟨vp_in_nI (by omega) (by decide), ?_⟩
      rw [c]
      by_cases g : pa i = d
      · have w := ih (i + 1) (by omega) (by omega)
        rw [ef_cnt (P := fun j => pa j = d) g] at w
        exact br_t (hx.mpr g) (nm_r (nI_1 _) (nm_r (nI_1 i) w))
      · have w := ih (i + 1) (by omega) (by omega)
        rw [ef_cnf (P := fun j => pa j = d) g] at w
        exact br_f (fun z => g (hx.mp z)) (nm_r (nI_1 i) w)
theorem ef_xCE {post : Int32 → Prop} {d : Nat} (hp : ∀ j, j < 16 → pa j ≤ 16) (hd : d < 16) (h : post (nI (ef_cn (fun j => pa j = d) 16))) : wpX_countEntries post (sv, kd, ef_X 16 pa, nm, cx, sk, sp, sn, sc, dt, no) (nI d) :=
  ⟨17, ef_xCE2 hp hd h 17 0 (by omega) (by omega)⟩
theorem ef_xCB2 {post : Int32 → Prop} {k : Nat} (hk : k < 16) (hc : ∀ p, p < 128 → cp p ≤ 24) (h : post (nI (ef_cn (fun b => cp (8 * k + b) ≠ 24) 8))) : ∀ (n i : Nat), 8 < n + i → i ≤ 8 → wX_countBlocks_4 post (nI k) sv kd pr nm (ef_X 24 cp) sk sp sn sc dt no n (nI (ef_cn (fun b => cp (8 * k + b) ≠ 24) i)) (nI i) := by
  intro n
  induction n with
  | zero => intro i h1 h2; omega
  | succ n ih =>
    intro i h1 h2
    have c : (nI (8 * k + i)).toNatClampNeg = 8 * k + i := nI_clamp (by omega)
    rw [wX_countBlocks_4]
    by_cases e : i = 8
    · subst e
      exact br_t (show (8 : Int32) ≤ nI 8 from by decide) h
    · have hx : ef_X 24 cp (8 * k + i) = -1 ↔ cp (8 * k + i) = 24 := ef_encI (by have := hc (8 * k + i) (by omega); omega)
      refine br_f (nI_ge (b := 8) (by omega) (by decide)) (ef_xPl ⟨vp_in_nI (by omega) (by decide), ?_⟩)
      rw [c]
      have w := ih (i + 1) (by omega) (by omega)
      by_cases g : cp (8 * k + i) = 24
      · rw [ef_cnf (P := fun b => cp (8 * k + b) ≠ 24) (fun z => z g)] at w
        exact br_t (hx.mpr g) (nm_r (nI_1 i) w)
      · rw [ef_cnt (P := fun b => cp (8 * k + b) ≠ 24) g] at w
        exact br_f (fun z => g (hx.mp z)) (nm_r (nI_1 _) (nm_r (nI_1 i) w))
theorem ef_xCB {post : Int32 → Prop} {k : Nat} (hk : k < 16) (hc : ∀ p, p < 128 → cp p ≤ 24) (h : post (nI (ef_cn (fun b => cp (8 * k + b) ≠ 24) 8))) : wpX_countBlocks post (sv, kd, pr, nm, ef_X 24 cp, sk, sp, sn, sc, dt, no) (nI k) :=
  ⟨9, ef_xCB2 hk hc h 9 0 (by omega) (by omega)⟩
theorem ef_xNo2 {post : Int32 → Prop} (h : post (nI (ef_cn (fun j => kd j ≠ 0) 16))) : ∀ (n i : Nat), 16 < n + i → i ≤ 16 → wX_nodes_4 post sv kd pr nm cx sk sp sn sc dt no n (nI (ef_cn (fun j => kd j ≠ 0) i)) (nI i) := by
  intro n
  induction n with
  | zero => intro i h1 h2; omega
  | succ n ih =>
    intro i h1 h2
    have c : (nI i).toNatClampNeg = i := nI_clamp (by omega)
    rw [wX_nodes_4]
    by_cases e : i = 16
    · subst e
      exact br_t (show (16 : Int32) ≤ nI 16 from by decide) h
    · refine br_f (nI_ge (b := 16) (by omega) (by decide)) ⟨vp_in_nI (by omega) (by decide), ?_⟩
      rw [c]
      have w := ih (i + 1) (by omega) (by omega)
      by_cases g : kd i = 0
      · rw [ef_cnf (P := fun j => kd j ≠ 0) (fun z => z g)] at w
        exact br_t g (nm_r (nI_1 i) w)
      · rw [ef_cnt (P := fun j => kd j ≠ 0) g] at w
        exact br_f g (nm_r (nI_1 _) (nm_r (nI_1 i) w))
theorem ef_xNo {post : Int32 → Prop} (h : post (nI (ef_cn (fun j => kd j ≠ 0) 16))) : wpX_nodes post (sv, kd, pr, nm, cx, sk, sp, sn, sc, dt, no) :=
  ⟨17, ef_xNo2 h 17 0 (by omega) (by omega)⟩
end EFX
end
section
/-! the component's own methods, further -/
section EFX
variable {sv : Int32} {kd pr nm cx sk sp sn sc dt no : Nat → Int32} {pa cp scp hn : Nat → Nat}
/-! A: blocks dropped -/
theorem ef_xDB2 {post : Int32 → SX → Prop} {k b : Nat} (hk : k < 16) (hc : ∀ p, p < 128 → cp p ≤ 24) (h : post (nI (ef_cn (fun j => b ≤ j ∧ cp (8 * k + j) ≠ 24) 8)) (sv, kd, pr, nm, ef_X 24 (ef_fr (8 * k + b) (8 * k + 8) 24 cp), sk, sp, sn, sc, dt, no)) : ∀ (n i : Nat), 8 < n + i → b ≤ i → i ≤ 8 → wX_dropBlocks_5 post (nI k) sv n (nI (ef_cn (fun j => b ≤ j ∧ cp (8 * k + j) ≠ 24) i)) (nI i) kd pr nm (ef_X 24 (ef_fr (8 * k + b) (8 * k + i) 24 cp)) sk sp sn sc dt no := by
  intro n
  induction n with
  | zero => intro i h1 h2; omega
  | succ n ih =>
    intro i h1 h2 h3
    have c : (nI (8 * k + i)).toNatClampNeg = 8 * k + i := nI_clamp (by omega)
    rw [wX_dropBlocks_5]
    by_cases e : i = 8
    · subst e
      exact br_t (show (8 : Int32) ≤ nI 8 from by decide) h
    · have ev : ef_X 24 (ef_fr (8 * k + b) (8 * k + i) 24 cp) (8 * k + i) = ef_enc 24 (cp (8 * k + i)) := congrArg (ef_enc 24) (ef_frf (by omega))
      have hx : ef_enc 24 (cp (8 * k + i)) = -1 ↔ cp (8 * k + i) = 24 := ef_encI (by have := hc (8 * k + i) (by omega); omega)
      have v := vp_in_nI (n := 8 * k + i) (N := 128) (by omega) (by decide)
      refine br_f (nI_ge (b := 8) (by omega) (by decide)) (ef_xPl ⟨v, ?_⟩)
      rw [c, ev]
      have w := ih (i + 1) (by omega) (by omega) (by omega)
      by_cases g : cp (8 * k + i) = 24
      · rw [ef_cnf (P := fun j => b ≤ j ∧ cp (8 * k + j) ≠ 24) (fun z => z.2 g), ← Nat.add_assoc (8 * k) i 1, ← ef_frk g] at w
        exact br_t (hx.mpr g) (nm_r (nI_1 i) w)
      · rw [ef_cnt (P := fun j => b ≤ j ∧ cp (8 * k + j) ≠ 24) ⟨h2, g⟩, ← Nat.add_assoc (8 * k) i 1, ← ef_frs (by omega), ← ef_XuB] at w
        exact br_f (fun z => g (hx.mp z)) ⟨v, nm_e (nm_r (nI_1 _) (nm_r (nI_1 i) w))⟩
theorem ef_xDB {post : Int32 → SX → Prop} {k b : Nat} (hk : k < 16) (hb : b ≤ 8) (hc : ∀ p, p < 128 → cp p ≤ 24) (h : post (nI (ef_cn (fun j => b ≤ j ∧ cp (8 * k + j) ≠ 24) 8)) (sv, kd, pr, nm, ef_X 24 (ef_fr (8 * k + b) (8 * k + 8) 24 cp), sk, sp, sn, sc, dt, no)) : wpX_dropBlocks post (sv, kd, pr, nm, ef_X 24 cp, sk, sp, sn, sc, dt, no) (nI k) (nI b) := by
  have w := ef_xDB2 hk hc h 9 b (by omega) (Nat.le_refl b) hb
  rw [ef_cn0 (P := fun j => b ≤ j ∧ cp (8 * k + j) ≠ 24) (n := b) (fun j hj z => absurd z.1 (by omega)), ef_fr0] at w
  exact ⟨9, w⟩
/-! B: the way up -/
theorem ef_xUp2 {post : Int32 → Prop} {k p : Nat} (hk : k < 16) (ha : ∀ i, ef_an pa p i ≤ 16) (a : (∃ i, i < 16 ∧ ef_an pa p i = k) → post 1) (b : (¬ ∃ i, i < 16 ∧ ef_an pa p i = k) → post 0) : ∀ (n i : Nat), 16 < n + i → i ≤ 16 → (∀ j, j < i → ef_an pa p j ≠ k) → wX_isAtOrAbove_5 post (nI k) sv kd (ef_X 16 pa) nm cx sk sp sn sc dt no n (ef_enc 16 (ef_an pa p i)) (nI i) := by
  intro n
  induction n with
  | zero => intro i h1 h2; omega
  | succ n ih =>
    intro i h1 h2 h3
    rw [wX_isAtOrAbove_5]
    by_cases e : i = 16
    · subst e
      exact br_t (show (16 : Int32) ≤ nI 16 from by decide) (b (fun ⟨j, h4, h5⟩ => h3 j h4 h5))
    · refine br_f (nI_ge (b := 16) (by omega) (by decide)) ?_
      by_cases g : ef_an pa p i = 16
      · refine br_t (by rw [g, ef_encB]) (b (fun ⟨j, h4, h5⟩ => ?_))
        by_cases q : j < i
        · exact h3 j q h5
        · have := ef_an_up g (j - i)
          rw [show i + (j - i) = j from by omega] at this
          omega
      · have hl : ef_an pa p i < 16 := by have := ha i; omega
        have w := ih (i + 1) (by omega) (by omega)
        rw [ef_ann g] at w
        rw [ef_encN g]
        refine br_f (ef_nn1 (by omega)) ?_
        by_cases q : ef_an pa p i = k
        · exact br_t (by rw [q]) (a ⟨i, by omega, q⟩)
        · refine br_f (fun z => q ((nI_eq (by omega) (by omega)).mp z)) ⟨vp_in_nI hl (by decide), nm_r (e' := ef_enc 16 (pa (ef_an pa p i))) (by rw [nI_clamp (by omega)]; rfl) (nm_r (nI_1 i) (w (fun j hj => ?_)))⟩
          by_cases ej : j = i
          · rw [ej]; exact q
          · exact h3 j (by omega)
theorem ef_xUp {post : Int32 → Prop} {k p : Nat} (hk : k < 16) (hp : p < 16) (ha : ∀ i, ef_an pa p i ≤ 16) (a : (∃ i, i < 16 ∧ ef_an pa p i = k) → post 1) (b : (¬ ∃ i, i < 16 ∧ ef_an pa p i = k) → post 0) : wpX_isAtOrAbove post (sv, kd, ef_X 16 pa, nm, cx, sk, sp, sn, sc, dt, no) (nI k) (nI p) := by
  have w := ef_xUp2 (sv := sv) (kd := kd) (nm := nm) (cx := cx) (sk := sk) (sp := sp) (sn := sn) (sc := sc) (dt := dt) (no := no) hk ha a b 17 0 (by omega) (by omega) (fun j hj => absurd hj (Nat.not_lt_zero j))
  rw [show ef_enc 16 (ef_an pa p 0) = nI p from ef_encN (B := 16) (n := p) (by omega)] at w
  exact ⟨17, w⟩
/-! C: copies held -/
theorem ef_xHCs2 {post : Int32 → Prop} {c : Nat} (hc : c < 24) (hh : ∀ p, p < 128 → cp p ≤ 24) (a : ef_hd cp c → post 1) (b : ¬ ef_hd cp c → post 0) : ∀ (n i : Nat), 128 < n + i → i ≤ 128 → (∀ j, j < i → cp j ≠ c) → wX_holdsCopy__savedCopyAt_2 post (nI c) sv kd pr nm cx sk sp sn (ef_X 24 cp) dt no n (nI i) := by
  intro n
  induction n with
  | zero => intro i h1 h2; omega
  | succ n ih =>
    intro i h1 h2 h3
    have cl : (nI i).toNatClampNeg = i := nI_clamp (by omega)
    rw [wX_holdsCopy__savedCopyAt_2]
    by_cases e : i = 128
    · subst e
      exact br_t (show (128 : Int32) ≤ nI 128 from by decide) (b (fun ⟨j, h4, h5⟩ => h3 j h4 h5))
    · have hx : ef_X 24 cp i = nI c ↔ cp i = c := ef_encE (by have := hh i (by omega); omega) (by omega) (by omega)
      refine br_f (nI_ge (b := 128) (by omega) (by decide)) ⟨vp_in_nI (by omega) (by decide), ?_⟩
      rw [cl]
      by_cases g : cp i = c
      · exact br_t (hx.mpr g) (a ⟨i, by omega, g⟩)
      · refine br_f (fun z => g (hx.mp z)) (nm_r (nI_1 i) (ih (i + 1) (by omega) (by omega) (fun j hj => ?_)))
        by_cases ej : j = i
        · rw [ej]; exact g
        · exact h3 j (by omega)
theorem ef_xHCs {post : Int32 → Prop} {c : Nat} (hc : c < 24) (hh : ∀ p, p < 128 → cp p ≤ 24) (a : ef_hd cp c → post 1) (b : ¬ ef_hd cp c → post 0) : wpX_isSavedCopy post (sv, kd, pr, nm, cx, sk, sp, sn, ef_X 24 cp, dt, no) (nI c) :=
  ⟨129, ef_xHCs2 (post := fun r => narrow .boolean (.int r) = .int r ∧ post r) hc hh (fun z => ⟨rfl, a z⟩) (fun z => ⟨rfl, b z⟩) 129 0 (by omega) (by omega) (fun j hj => absurd hj (Nat.not_lt_zero j))⟩
theorem ef_xHCp2 {post : Int32 → Prop} {c : Nat} (hc : c < 24) (hh : ∀ p, p < 128 → cp p ≤ 24) (a : ef_hd cp c → post 1) (b : ¬ ef_hd cp c → post 0) : ∀ (n i : Nat), 128 < n + i → i ≤ 128 → (∀ j, j < i → cp j ≠ c) → wX_holdsCopy__copyAt_2 post (nI c) sv kd pr nm (ef_X 24 cp) sk sp sn sc dt no n (nI i) := by
  intro n
  induction n with
  | zero => intro i h1 h2; omega
  | succ n ih =>
    intro i h1 h2 h3
    have cl : (nI i).toNatClampNeg = i := nI_clamp (by omega)
    rw [wX_holdsCopy__copyAt_2]
    by_cases e : i = 128
    · subst e
      exact br_t (show (128 : Int32) ≤ nI 128 from by decide) (b (fun ⟨j, h4, h5⟩ => h3 j h4 h5))
    · have hx : ef_X 24 cp i = nI c ↔ cp i = c := ef_encE (by have := hh i (by omega); omega) (by omega) (by omega)
      refine br_f (nI_ge (b := 128) (by omega) (by decide)) ⟨vp_in_nI (by omega) (by decide), ?_⟩
      rw [cl]
      by_cases g : cp i = c
      · exact br_t (hx.mpr g) (a ⟨i, by omega, g⟩)
      · refine br_f (fun z => g (hx.mp z)) (nm_r (nI_1 i) (ih (i + 1) (by omega) (by omega) (fun j hj => ?_)))
        by_cases ej : j = i
        · rw [ej]; exact g
        · exact h3 j (by omega)
theorem ef_xHCp {post : Int32 → Prop} {c : Nat} (hc : c < 24) (hh : ∀ p, p < 128 → cp p ≤ 24) (a : ef_hd cp c → post 1) (b : ¬ ef_hd cp c → post 0) : wpX_isPresentCopy post (sv, kd, pr, nm, ef_X 24 cp, sk, sp, sn, sc, dt, no) (nI c) :=
  ⟨129, ef_xHCp2 (post := fun r => narrow .boolean (.int r) = .int r ∧ post r) hc hh (fun z => ⟨rfl, a z⟩) (fun z => ⟨rfl, b z⟩) 129 0 (by omega) (by omega) (fun j hj => absurd hj (Nat.not_lt_zero j))⟩
theorem ef_xFC2 {post : Int32 → Prop} {r : Nat} (hh : ∀ p, p < 128 → cp p ≤ 24) (hs : ∀ p, p < 128 → scp p ≤ 24) (hr : r ≤ 24) (hP : r < 24 → ¬ (ef_hd cp r ∨ ef_hd scp r)) (hN : ∀ j, j < r → ef_hd cp j ∨ ef_hd scp j) (h : post (ef_enc 24 r)) : ∀ (n i : Nat), 24 < n + i → i ≤ r → wX_freeCopy_2 post sv kd pr nm (ef_X 24 cp) sk sp sn (ef_X 24 scp) dt no n (nI i) := by
  intro n
  induction n with
  | zero => intro i h1 h2; omega
  | succ n ih =>
    intro i h1 h2
    rw [wX_freeCopy_2]
    by_cases e : i = 24
    · have er : r = 24 := by omega
      rw [er, ef_encB] at h
      subst e
      exact br_t (show (24 : Int32) ≤ nI 24 from by decide) h
    · refine br_f (nI_ge (b := 24) (by omega) (by decide)) ?_
      by_cases q : i = r
      · have hq := hP (by omega)
        rw [← q] at hq h
        rw [ef_encN e] at h
        exact ef_xHCp (by omega) hh (fun z => absurd (Or.inl z) hq) (fun _ => br_t rfl (ef_xHCs (by omega) hs (fun z => absurd (Or.inr z) hq) (fun _ => br_t rfl h)))
      · have w := nm_r (nI_1 i) (ih (i + 1) (by omega) (by omega))
        refine ef_xHCp (by omega) hh (fun z => br_f (by decide) w) (fun z => br_t rfl (ef_xHCs (by omega) hs (fun z => br_f (by decide) w) (fun y => ?_)))
        exact absurd (hN i (by omega)) (fun o => o.elim z y)
theorem ef_xFC {post : Int32 → Prop} {r : Nat} (hh : ∀ p, p < 128 → cp p ≤ 24) (hs : ∀ p, p < 128 → scp p ≤ 24) (hr : r ≤ 24) (hP : r < 24 → ¬ (ef_hd cp r ∨ ef_hd scp r)) (hN : ∀ j, j < r → ef_hd cp j ∨ ef_hd scp j) (h : post (ef_enc 24 r)) : wpX_freeCopy post (sv, kd, pr, nm, ef_X 24 cp, sk, sp, sn, ef_X 24 scp, dt, no) :=
  ⟨25, ef_xFC2 hh hs hr hP hN h 25 0 (by omega) (by omega)⟩
theorem ef_xCo2 {post : Int32 → Prop} (hh : ∀ p, p < 128 → cp p ≤ 24) (hs : ∀ p, p < 128 → scp p ≤ 24) (h : post (nI (ef_cn (fun c => ef_hd cp c ∨ ef_hd scp c) 24))) : ∀ (n i : Nat), 24 < n + i → i ≤ 24 → wX_copies_4 post sv kd pr nm (ef_X 24 cp) sk sp sn (ef_X 24 scp) dt no n (nI (ef_cn (fun c => ef_hd cp c ∨ ef_hd scp c) i)) (nI i) := by
  intro n
  induction n with
  | zero => intro i h1 h2; omega
  | succ n ih =>
    intro i h1 h2
    rw [wX_copies_4]
    by_cases e : i = 24
    · subst e
      exact br_t (show (24 : Int32) ≤ nI 24 from by decide) h
    · refine br_f (nI_ge (b := 24) (by omega) (by decide)) ?_
      have w := ih (i + 1) (by omega) (by omega)
      by_cases g : ef_hd cp i ∨ ef_hd scp i
      · rw [ef_cnt (P := fun c => ef_hd cp c ∨ ef_hd scp c) g] at w
        refine ef_xHCp (by omega) hh (fun z => br_f (by decide) (nm_r (nI_1 _) (nm_r (nI_1 i) w))) (fun z => br_t rfl (ef_xHCs (by omega) hs (fun z => br_f (by decide) (nm_r (nI_1 _) (nm_r (nI_1 i) w))) (fun y => ?_)))
        exact absurd g (fun o => o.elim z y)
      · rw [ef_cnf (P := fun c => ef_hd cp c ∨ ef_hd scp c) g] at w
        exact ef_xHCp (by omega) hh (fun z => absurd (Or.inl z) g) (fun _ => br_t rfl (ef_xHCs (by omega) hs (fun z => absurd (Or.inr z) g) (fun _ => br_t rfl (nm_r (nI_1 i) w))))
theorem ef_xCo {post : Int32 → Prop} (hh : ∀ p, p < 128 → cp p ≤ 24) (hs : ∀ p, p < 128 → scp p ≤ 24) (h : post (nI (ef_cn (fun c => ef_hd cp c ∨ ef_hd scp c) 24))) : wpX_copies post (sv, kd, pr, nm, ef_X 24 cp, sk, sp, sn, ef_X 24 scp, dt, no) :=
  ⟨25, ef_xCo2 hh hs h 25 0 (by omega) (by omega)⟩
theorem ef_xFi2 {post : SX → Prop} {f o : Nat} (hf : f < 24) (ho : o ≤ 24) (h : post (sv, kd, pr, nm, cx, sk, sp, sn, sc, ef_fl dt f o 4, no)) : ∀ (n i : Nat), 4 < n + i → i ≤ 4 → wX_fillCopy_2 post (nI f) (ef_enc 24 o) sv n (nI i) kd pr nm cx sk sp sn sc (ef_fl dt f o i) no := by
  intro n
  induction n with
  | zero => intro i h1 h2; omega
  | succ n ih =>
    intro i h1 h2
    rw [wX_fillCopy_2]
    by_cases e : i = 4
    · subst e
      exact br_t (show (4 : Int32) ≤ nI 4 from by decide) h
    · refine br_f (nI_ge (b := 4) (by omega) (by decide)) ?_
      have w := ih (i + 1) (by omega) (by omega)
      have cf : (nI (4 * f + i)).toNatClampNeg = 4 * f + i := nI_clamp (by omega)
      have vf := vp_in_nI (n := 4 * f + i) (N := 96) (by omega) (by decide)
      rw [ef_fls] at w
      by_cases g : o = 24
      · rw [if_pos g] at w
        refine br_t ((ef_encI (by omega)).mpr g) ?_
        unfold wX_fillCopy_26
        rw [ef_p4, cf]
        exact ⟨vf, nm_e (nm_r (nI_1 i) w)⟩
      · rw [if_neg g] at w
        have co : (nI (4 * o + i)).toNatClampNeg = 4 * o + i := nI_clamp (by omega)
        have vo := vp_in_nI (n := 4 * o + i) (N := 96) (by omega) (by decide)
        rw [ef_encN g] at w ⊢
        refine br_f (ef_nn1 (by omega)) ?_
        unfold wX_fillCopy_26
        rw [ef_p4, ef_p4, cf, co]
        exact ⟨vo, vf, nm_e (nm_r (nI_1 i) w)⟩
theorem ef_xFi {post : SX → Prop} {f o : Nat} (hf : f < 24) (ho : o ≤ 24) (h : post (sv, kd, pr, nm, cx, sk, sp, sn, sc, ef_fl dt f o 4, no)) : wpX_fillCopy post (sv, kd, pr, nm, cx, sk, sp, sn, sc, dt, no) (nI f) (ef_enc 24 o) :=
  ⟨5, ef_xFi2 hf ho h 5 0 (by omega) (by omega)⟩
/-! D: the next name -/
def ef_e3 (l : Nat) : Int32 := if l = 100 then -3 else nI l
theorem ef_e31 : ef_e3 100 = -3 := rfl
theorem ef_e3n {l : Nat} (h : l ≠ 100) : ef_e3 l = nI l := if_neg h
theorem ef_n3 {a : Nat} (h : a < 2 ^ 31) : ¬ nI a = -3 := by
  intro e
  have := nI_pos (n := a) h
  rw [e] at this
  exact this (by decide)
theorem ef_xNx2 {post : Int32 → Prop} {d : Nat} {y : Int32} {m : Nat → Nat} (hp : ∀ j, j < 16 → pa j ≤ 16) (hd : d < 16) (hm : ∀ j, j < 16 → m j < 100 ∧ nm j = nI (m j)) (h : post (ef_e3 (ef_nx (fun j => pa j = d ∧ ¬ nm j ≤ y) m 16))) : ∀ (n i : Nat), 16 < n + i → i ≤ 16 → wX_next_36 post y (nI d) sv kd (ef_X 16 pa) nm cx sk sp sn sc dt no n (ef_e3 (ef_nx (fun j => pa j = d ∧ ¬ nm j ≤ y) m i)) (nI i) := by
  intro n
  induction n with
  | zero => intro i h1 h2; omega
  | succ n ih =>
    intro i h1 h2
    have c : (nI i).toNatClampNeg = i := nI_clamp (by omega)
    rw [wX_next_36]
    by_cases e : i = 16
    · subst e
      exact br_t (show (16 : Int32) ≤ nI 16 from by decide) h
    · have hx : ef_X 16 pa i = nI d ↔ pa i = d := ef_encE (by have := hp i (by omega); omega) (by omega) (by omega)
      have v := vp_in_nI (n := i) (N := 16) (by omega) (by decide)
      have w := ih (i + 1) (by omega) (by omega)
      obtain ⟨hm1, hm2⟩ := hm i (by omega)
      have hl := ef_nxle (Q := fun j => pa j = d ∧ ¬ nm j ≤ y) (m := m) i
      refine br_f (nI_ge (b := 16) (by omega) (by decide)) ⟨v, ?_⟩
      unfold wX_next_70 wX_next_71
      rw [c]
      by_cases g : pa i = d
      · by_cases q : nm i ≤ y
        · rw [ef_nxf (fun z => z.1.2 q)] at w
          exact br_t (hx.mpr g) ⟨v, br_t q (br_t rfl (nm_r (nI_1 i) w))⟩
        · refine br_t (hx.mpr g) ⟨v, br_f q (br_f (by decide) ?_)⟩
          by_cases z : ef_nx (fun j => pa j = d ∧ ¬ nm j ≤ y) m i = 100
          · rw [ef_nxt (Q := fun j => pa j = d ∧ ¬ nm j ≤ y) ⟨g, q⟩ (by rw [z]; exact hm1), ef_e3n (by omega), ← hm2] at w
            rw [z, ef_e31]
            exact br_t rfl ⟨v, nm_e (nm_r (nI_1 i) w)⟩
          · rw [ef_e3n z]
            refine br_f (ef_n3 (by omega)) ⟨v, ?_⟩
            by_cases s : m i < ef_nx (fun j => pa j = d ∧ ¬ nm j ≤ y) m i
            · rw [ef_nxt (Q := fun j => pa j = d ∧ ¬ nm j ≤ y) ⟨g, q⟩ s, ef_e3n (by omega), ← hm2] at w
              refine br_f ?_ ⟨v, nm_e (nm_r (nI_1 i) w)⟩
              rw [hm2]
              exact nI_ge s (by omega)
            · rw [ef_nxf (fun z => s z.2), ef_e3n z] at w
              refine br_t ?_ (nm_r (nI_1 i) w)
              rw [hm2]
              exact nI_le (by omega) (by omega)
      · rw [ef_nxf (fun z => g z.1.1)] at w
        exact br_f (fun z => g (hx.mp z)) (br_t rfl (nm_r (nI_1 i) w))
theorem ef_xNx {post : Int32 → Prop} {d : Nat} {y : Int32} {m : Nat → Nat} (hp : ∀ j, j < 16 → pa j ≤ 16) (hd : d < 16) (hm : ∀ j, j < 16 → m j < 100 ∧ nm j = nI (m j)) (h : post (ef_e3 (ef_nx (fun j => pa j = d ∧ ¬ nm j ≤ y) m 16))) : ∃ n, wX_next_36 post y (nI d) sv kd (ef_X 16 pa) nm cx sk sp sn sc dt no n (-3) 0 :=
  ⟨17, ef_xNx2 hp hd hm h 17 0 (by omega) (by omega)⟩
/-! E: transfers -/
theorem ef_xT12 {post : SX → Prop} (h : post (sv, kd, pr, nm, cx, ef_mix 16 kd sk, sp, sn, sc, dt, no)) : ∀ (n i : Nat), 16 < n + i → i ≤ 16 → wX_transfer__kindOf_savedKindOf_2 post 16 sv n (nI i) kd pr nm cx (ef_mix i kd sk) sp sn sc dt no := by
  intro n
  induction n with
  | zero => intro i h1 h2; omega
  | succ n ih =>
    intro i h1 h2
    have c : (nI i).toNatClampNeg = i := nI_clamp (by omega)
    rw [wX_transfer__kindOf_savedKindOf_2]
    by_cases e : i = 16
    · subst e
      exact br_t (show (16 : Int32) ≤ nI 16 from by decide) h
    · have v := vp_in_nI (n := i) (N := 16) (by omega) (by decide)
      have w := ih (i + 1) (by omega) (by omega)
      rw [← ef_mixs] at w
      refine br_f (nI_ge (b := 16) (by omega) (by decide)) ⟨v, v, ?_⟩
      rw [c]
      exact nm_e (nm_r (nI_1 i) w)
theorem ef_xT1 {post : SX → Prop} (h : post (sv, kd, pr, nm, cx, ef_mix 16 kd sk, sp, sn, sc, dt, no)) : wpX_transfer__kindOf_savedKindOf post (sv, kd, pr, nm, cx, sk, sp, sn, sc, dt, no) 16 := by
  have w := ef_xT12 h 17 0 (by omega) (by omega)
  rw [ef_mix0] at w
  exact ⟨17, w⟩
theorem ef_xT22 {post : SX → Prop} (h : post (sv, kd, pr, nm, cx, sk, ef_mix 16 pr sp, sn, sc, dt, no)) : ∀ (n i : Nat), 16 < n + i → i ≤ 16 → wX_transfer__parentOf_savedParentOf_2 post 16 sv n (nI i) kd pr nm cx sk (ef_mix i pr sp) sn sc dt no := by
  intro n
  induction n with
  | zero => intro i h1 h2; omega
  | succ n ih =>
    intro i h1 h2
    have c : (nI i).toNatClampNeg = i := nI_clamp (by omega)
    rw [wX_transfer__parentOf_savedParentOf_2]
    by_cases e : i = 16
    · subst e
      exact br_t (show (16 : Int32) ≤ nI 16 from by decide) h
    · have v := vp_in_nI (n := i) (N := 16) (by omega) (by decide)
      have w := ih (i + 1) (by omega) (by omega)
      rw [← ef_mixs] at w
      refine br_f (nI_ge (b := 16) (by omega) (by decide)) ⟨v, v, ?_⟩
      rw [c]
      exact nm_e (nm_r (nI_1 i) w)
theorem ef_xT2 {post : SX → Prop} (h : post (sv, kd, pr, nm, cx, sk, ef_mix 16 pr sp, sn, sc, dt, no)) : wpX_transfer__parentOf_savedParentOf post (sv, kd, pr, nm, cx, sk, sp, sn, sc, dt, no) 16 := by
  have w := ef_xT22 h 17 0 (by omega) (by omega)
  rw [ef_mix0] at w
  exact ⟨17, w⟩
theorem ef_xT32 {post : SX → Prop} (h : post (sv, kd, pr, nm, cx, sk, sp, ef_mix 16 nm sn, sc, dt, no)) : ∀ (n i : Nat), 16 < n + i → i ≤ 16 → wX_transfer__nameOf_savedNameOf_2 post 16 sv n (nI i) kd pr nm cx sk sp (ef_mix i nm sn) sc dt no := by
  intro n
  induction n with
  | zero => intro i h1 h2; omega
  | succ n ih =>
    intro i h1 h2
    have c : (nI i).toNatClampNeg = i := nI_clamp (by omega)
    rw [wX_transfer__nameOf_savedNameOf_2]
    by_cases e : i = 16
    · subst e
      exact br_t (show (16 : Int32) ≤ nI 16 from by decide) h
    · have v := vp_in_nI (n := i) (N := 16) (by omega) (by decide)
      have w := ih (i + 1) (by omega) (by omega)
      rw [← ef_mixs] at w
      refine br_f (nI_ge (b := 16) (by omega) (by decide)) ⟨v, v, ?_⟩
      rw [c]
      exact nm_e (nm_r (nI_1 i) w)
theorem ef_xT3 {post : SX → Prop} (h : post (sv, kd, pr, nm, cx, sk, sp, ef_mix 16 nm sn, sc, dt, no)) : wpX_transfer__nameOf_savedNameOf post (sv, kd, pr, nm, cx, sk, sp, sn, sc, dt, no) 16 := by
  have w := ef_xT32 h 17 0 (by omega) (by omega)
  rw [ef_mix0] at w
  exact ⟨17, w⟩
theorem ef_xT42 {post : SX → Prop} (h : post (sv, kd, pr, nm, cx, sk, sp, sn, ef_mix 128 cx sc, dt, no)) : ∀ (n i : Nat), 128 < n + i → i ≤ 128 → wX_transfer__copyAt_savedCopyAt_2 post 128 sv n (nI i) kd pr nm cx sk sp sn (ef_mix i cx sc) dt no := by
  intro n
  induction n with
  | zero => intro i h1 h2; omega
  | succ n ih =>
    intro i h1 h2
    have c : (nI i).toNatClampNeg = i := nI_clamp (by omega)
    rw [wX_transfer__copyAt_savedCopyAt_2]
    by_cases e : i = 128
    · subst e
      exact br_t (show (128 : Int32) ≤ nI 128 from by decide) h
    · have v := vp_in_nI (n := i) (N := 128) (by omega) (by decide)
      have w := ih (i + 1) (by omega) (by omega)
      rw [← ef_mixs] at w
      refine br_f (nI_ge (b := 128) (by omega) (by decide)) ⟨v, v, ?_⟩
      rw [c]
      exact nm_e (nm_r (nI_1 i) w)
theorem ef_xT4 {post : SX → Prop} (h : post (sv, kd, pr, nm, cx, sk, sp, sn, ef_mix 128 cx sc, dt, no)) : wpX_transfer__copyAt_savedCopyAt post (sv, kd, pr, nm, cx, sk, sp, sn, sc, dt, no) 128 := by
  have w := ef_xT42 h 129 0 (by omega) (by omega)
  rw [ef_mix0] at w
  exact ⟨129, w⟩
theorem ef_xT52 {post : SX → Prop} (h : post (sv, ef_mix 16 sk kd, pr, nm, cx, sk, sp, sn, sc, dt, no)) : ∀ (n i : Nat), 16 < n + i → i ≤ 16 → wX_transfer__savedKindOf_kindOf_2 post 16 sv n (nI i) (ef_mix i sk kd) pr nm cx sk sp sn sc dt no := by
  intro n
  induction n with
  | zero => intro i h1 h2; omega
  | succ n ih =>
    intro i h1 h2
    have c : (nI i).toNatClampNeg = i := nI_clamp (by omega)
    rw [wX_transfer__savedKindOf_kindOf_2]
    by_cases e : i = 16
    · subst e
      exact br_t (show (16 : Int32) ≤ nI 16 from by decide) h
    · have v := vp_in_nI (n := i) (N := 16) (by omega) (by decide)
      have w := ih (i + 1) (by omega) (by omega)
      rw [← ef_mixs] at w
      refine br_f (nI_ge (b := 16) (by omega) (by decide)) ⟨v, v, ?_⟩
      rw [c]
      exact nm_e (nm_r (nI_1 i) w)
theorem ef_xT5 {post : SX → Prop} (h : post (sv, ef_mix 16 sk kd, pr, nm, cx, sk, sp, sn, sc, dt, no)) : wpX_transfer__savedKindOf_kindOf post (sv, kd, pr, nm, cx, sk, sp, sn, sc, dt, no) 16 := by
  have w := ef_xT52 h 17 0 (by omega) (by omega)
  rw [ef_mix0] at w
  exact ⟨17, w⟩
theorem ef_xT62 {post : SX → Prop} (h : post (sv, kd, ef_mix 16 sp pr, nm, cx, sk, sp, sn, sc, dt, no)) : ∀ (n i : Nat), 16 < n + i → i ≤ 16 → wX_transfer__savedParentOf_parentOf_2 post 16 sv n (nI i) kd (ef_mix i sp pr) nm cx sk sp sn sc dt no := by
  intro n
  induction n with
  | zero => intro i h1 h2; omega
  | succ n ih =>
    intro i h1 h2
    have c : (nI i).toNatClampNeg = i := nI_clamp (by omega)
    rw [wX_transfer__savedParentOf_parentOf_2]
    by_cases e : i = 16
    · subst e
      exact br_t (show (16 : Int32) ≤ nI 16 from by decide) h
    · have v := vp_in_nI (n := i) (N := 16) (by omega) (by decide)
      have w := ih (i + 1) (by omega) (by omega)
      rw [← ef_mixs] at w
      refine br_f (nI_ge (b := 16) (by omega) (by decide)) ⟨v, v, ?_⟩
      rw [c]
      exact nm_e (nm_r (nI_1 i) w)
theorem ef_xT6 {post : SX → Prop} (h : post (sv, kd, ef_mix 16 sp pr, nm, cx, sk, sp, sn, sc, dt, no)) : wpX_transfer__savedParentOf_parentOf post (sv, kd, pr, nm, cx, sk, sp, sn, sc, dt, no) 16 := by
  have w := ef_xT62 h 17 0 (by omega) (by omega)
  rw [ef_mix0] at w
  exact ⟨17, w⟩
theorem ef_xT72 {post : SX → Prop} (h : post (sv, kd, pr, ef_mix 16 sn nm, cx, sk, sp, sn, sc, dt, no)) : ∀ (n i : Nat), 16 < n + i → i ≤ 16 → wX_transfer__savedNameOf_nameOf_2 post 16 sv n (nI i) kd pr (ef_mix i sn nm) cx sk sp sn sc dt no := by
  intro n
  induction n with
  | zero => intro i h1 h2; omega
  | succ n ih =>
    intro i h1 h2
    have c : (nI i).toNatClampNeg = i := nI_clamp (by omega)
    rw [wX_transfer__savedNameOf_nameOf_2]
    by_cases e : i = 16
    · subst e
      exact br_t (show (16 : Int32) ≤ nI 16 from by decide) h
    · have v := vp_in_nI (n := i) (N := 16) (by omega) (by decide)
      have w := ih (i + 1) (by omega) (by omega)
      rw [← ef_mixs] at w
      refine br_f (nI_ge (b := 16) (by omega) (by decide)) ⟨v, v, ?_⟩
      rw [c]
      exact nm_e (nm_r (nI_1 i) w)
theorem ef_xT7 {post : SX → Prop} (h : post (sv, kd, pr, ef_mix 16 sn nm, cx, sk, sp, sn, sc, dt, no)) : wpX_transfer__savedNameOf_nameOf post (sv, kd, pr, nm, cx, sk, sp, sn, sc, dt, no) 16 := by
  have w := ef_xT72 h 17 0 (by omega) (by omega)
  rw [ef_mix0] at w
  exact ⟨17, w⟩
theorem ef_xT82 {post : SX → Prop} (h : post (sv, kd, pr, nm, ef_mix 128 sc cx, sk, sp, sn, sc, dt, no)) : ∀ (n i : Nat), 128 < n + i → i ≤ 128 → wX_transfer__savedCopyAt_copyAt_2 post 128 sv n (nI i) kd pr nm (ef_mix i sc cx) sk sp sn sc dt no := by
  intro n
  induction n with
  | zero => intro i h1 h2; omega
  | succ n ih =>
    intro i h1 h2
    have c : (nI i).toNatClampNeg = i := nI_clamp (by omega)
    rw [wX_transfer__savedCopyAt_copyAt_2]
    by_cases e : i = 128
    · subst e
      exact br_t (show (128 : Int32) ≤ nI 128 from by decide) h
    · have v := vp_in_nI (n := i) (N := 128) (by omega) (by decide)
      have w := ih (i + 1) (by omega) (by omega)
      rw [← ef_mixs] at w
      refine br_f (nI_ge (b := 128) (by omega) (by decide)) ⟨v, v, ?_⟩
      rw [c]
      exact nm_e (nm_r (nI_1 i) w)
theorem ef_xT8 {post : SX → Prop} (h : post (sv, kd, pr, nm, ef_mix 128 sc cx, sk, sp, sn, sc, dt, no)) : wpX_transfer__savedCopyAt_copyAt post (sv, kd, pr, nm, cx, sk, sp, sn, sc, dt, no) 128 := by
  have w := ef_xT82 h 129 0 (by omega) (by omega)
  rw [ef_mix0] at w
  exact ⟨129, w⟩
theorem ef_xSP {post : SX → Prop} (h : post (sv, kd, pr, nm, cx, ef_mix 16 kd sk, ef_mix 16 pr sp, ef_mix 16 nm sn, ef_mix 128 cx sc, dt, no)) : wpX_storePresent post (sv, kd, pr, nm, cx, sk, sp, sn, sc, dt, no) :=
  ef_xT1 (ef_xT2 (ef_xT3 (ef_xT4 h)))
theorem ef_xFS {post : SX → Prop} (h : post (sv, ef_mix 16 sk kd, ef_mix 16 sp pr, ef_mix 16 sn nm, ef_mix 128 sc cx, sk, sp, sn, sc, dt, no)) : wpX_fetchSaved post (sv, kd, pr, nm, cx, sk, sp, sn, sc, dt, no) :=
  ef_xT5 (ef_xT6 (ef_xT7 (ef_xT8 h)))
theorem ef_xDH2 {post : SX → Prop} (h : post (sv, kd, pr, nm, cx, sk, sp, sn, sc, dt, ef_X 16 (ef_fr 1 4 16 hn))) : ∀ (n i : Nat), 4 < n + i → 1 ≤ i → i ≤ 4 → wX_dropHandles_2 post sv n (nI i) kd pr nm cx sk sp sn sc dt (ef_X 16 (ef_fr 1 i 16 hn)) := by
  intro n
  induction n with
  | zero => intro i h1 h2; omega
  | succ n ih =>
    intro i h1 h2 h3
    have c : (nI i).toNatClampNeg = i := nI_clamp (by omega)
    rw [wX_dropHandles_2]
    by_cases e : i = 4
    · subst e
      exact br_t (show (4 : Int32) ≤ nI 4 from by decide) h
    · have w := ih (i + 1) (by omega) (by omega) (by omega)
      rw [← ef_frs h2, ← ef_XuB] at w
      refine br_f (nI_ge (b := 4) (by omega) (by decide)) ⟨vp_in_nI (by omega) (by decide), ?_⟩
      rw [c]
      exact nm_e (nm_r (nI_1 i) w)
theorem ef_xDH {post : SX → Prop} (h : post (sv, kd, pr, nm, cx, sk, sp, sn, sc, dt, ef_X 16 (ef_fr 1 4 16 hn))) : wpX_dropHandles post (sv, kd, pr, nm, cx, sk, sp, sn, sc, dt, ef_X 16 hn) := by
  have w := ef_xDH2 h 5 1 (by omega) (by omega) (by omega)
  rw [ef_fr0] at w
  exact ⟨5, w⟩
end EFX
end
section
/-! the reference's own methods, each for a general post -/
section EFY
variable {sv : Int32} {kd iy nm cy sk si sn sy dt us hy : Nat → Int32} {pa cp scp hn : Nat → Nat}
theorem ef_Yv {f : Nat → Nat} {j : Nat} : ef_Y f j = nI (f j) := rfl
/-! A: ranges of arguments -/
theorem ef_yH1 {post : Int32 → Prop} {j : Nat} (hj : j < 4) (h : post 1) : wpY_isHandle post (sv, kd, iy, nm, cy, sk, si, sn, sy, dt, us, hy) (nI j) :=
  br_f (nI_pos (by omega)) (br_f (nI_nlt (a := 3) (b := j) (by omega) (by decide)) h)
theorem ef_yH0 {post : Int32 → Prop} {x : Int32} (hx : ¬ ∃ j, j < 4 ∧ x = nI j) (h : post 0) : wpY_isHandle post (sv, kd, iy, nm, cy, sk, si, sn, sy, dt, us, hy) x := by
  by_cases h0 : x < 0
  · exact br_t h0 h
  · obtain ⟨m, h1, h2, e⟩ := ef_out hx h0
    exact br_f h0 (br_t (show (3 : Int32) < x by rw [e]; exact nI_lt (a := 3) (by omega) h2) h)
theorem ef_yN1 {post : Int32 → Prop} {j : Nat} (hj : j < 100) (h : post 1) : wpY_isName post (sv, kd, iy, nm, cy, sk, si, sn, sy, dt, us, hy) (nI j) :=
  br_f (nI_pos (by omega)) (br_f (nI_nlt (a := 99) (b := j) (by omega) (by decide)) h)
theorem ef_yN0 {post : Int32 → Prop} {x : Int32} (hx : ¬ ∃ j, j < 100 ∧ x = nI j) (h : post 0) : wpY_isName post (sv, kd, iy, nm, cy, sk, si, sn, sy, dt, us, hy) x := by
  by_cases h0 : x < 0
  · exact br_t h0 h
  · obtain ⟨m, h1, h2, e⟩ := ef_out hx h0
    exact br_f h0 (br_t (show (99 : Int32) < x by rw [e]; exact nI_lt (a := 99) (by omega) h2) h)
theorem ef_yF1 {A B : Prop} {j : Nat} (h1 : 1 ≤ j) (hj : j < 4) (b : B) : (nI j < 1 → A) ∧ (¬ nI j < 1 → ((3 < nI j → A) ∧ (¬ 3 < nI j → B))) :=
  br_f (nI_nlt (b := 1) h1 (by omega)) (br_f (nI_nlt (a := 3) (b := j) (by omega) (by decide)) b)
theorem ef_yF0 {A B : Prop} {x : Int32} (hx : ¬ ∃ j, 1 ≤ j ∧ j < 4 ∧ x = nI j) (a : A) : (x < 1 → A) ∧ (¬ x < 1 → ((3 < x → A) ∧ (¬ 3 < x → B))) := by
  by_cases h0 : x < 1
  · exact br_t h0 a
  · obtain ⟨m, h1, h2, e⟩ := ef_out1 hx h0
    exact br_f h0 (br_t (show (3 : Int32) < x by rw [e]; exact nI_lt (a := 3) (by omega) h2) a)
/-- 0 .. n, tested as x < 0, then x ≤ n -/
theorem ef_yR1 {A B : Prop} {j : Nat} {M : Int32} (n : Nat) (hM : M = nI n) (hn : n < 2 ^ 31) (hj : j ≤ n) (b : B) : (nI j < 0 → A) ∧ (¬ nI j < 0 → ((nI j ≤ M → B) ∧ (¬ nI j ≤ M → A))) :=
  br_f (nI_pos (by omega)) (br_t (by rw [hM]; exact nI_le hj hn) b)
theorem ef_yR0 {A B : Prop} {x M : Int32} (n : Nat) (hM : M = nI n) (hx : ¬ ∃ j, j < n + 1 ∧ x = nI j) (a : A) : (x < 0 → A) ∧ (¬ x < 0 → ((x ≤ M → B) ∧ (¬ x ≤ M → A))) := by
  by_cases h0 : x < 0
  · exact br_t h0 a
  · obtain ⟨m, h1, h2, e⟩ := ef_out hx h0
    exact br_f h0 (br_f (by rw [e, hM]; exact nI_ge (by omega) h2) a)
/-! B: faults -/
theorem ef_yW {post : Int32 → Prop} {j : Nat} {t : Int32} (hj : j < 4) (hh : hn j ≤ 16) (a : hn j = 16 → post (-3)) (b : hn j < 16 → kd (hn j) = t → post 0) (c : hn j < 16 → ¬ kd (hn j) = t → post (-4)) : wpY_want post (sv, kd, iy, nm, cy, sk, si, sn, sy, dt, us, ef_Y hn) (nI j) t := by
  have v := vp_in_nI (n := j) (N := 4) hj (by decide)
  refine ⟨v, ?_⟩
  rw [nI_clamp (by omega), ef_Yv]
  by_cases e : hn j = 16
  · exact br_t (by rw [e]; rfl) (a e)
  · refine br_f (fun z => e ((nI_eq (b := 16) (by omega) (by decide)).mp z)) ⟨v, vp_in_nI (by omega) (by decide), ?_⟩
    rw [nI_clamp (by omega)]
    exact br_c (b (by omega)) (c (by omega))
/-! C: scans -/
theorem ef_yFd2 {post : Int32 → Prop} {d r : Nat} {y : Int32} (hz : ∀ j, j < 16 → (kd j ≤ 0 ↔ kd j = 0)) (hE : ∀ j, 1 ≤ j → j < 16 → (pa j = d ↔ (kd j ≠ 0 ∧ iy j = nI d))) (hr : r ≤ 16) (hP : r < 16 → pa r = d ∧ nm r = y) (hN : ∀ j, j < r → ¬ (pa j = d ∧ nm j = y)) (h : post (nI r)) : ∀ (n i : Nat), 16 < n + i → 1 ≤ i → i ≤ r → wY_find_2 post (nI d) y sv kd iy nm cy sk si sn sy dt us hy n (nI i) := by
  intro n
  induction n with
  | zero => intro i h1 h2; omega
  | succ n ih =>
    intro i h1 h2 h3
    have c : (nI i).toNatClampNeg = i := nI_clamp (by omega)
    rw [wY_find_2]
    by_cases e : i = 16
    · have er : r = 16 := by omega
      rw [er] at h
      subst e
      exact br_t (show (16 : Int32) ≤ nI 16 from by decide) h
    · have v := vp_in_nI (n := i) (N := 16) (by omega) (by decide)
      have hx := hE i h2 (by omega)
      have hz' := hz i (by omega)
      refine br_f (nI_ge (b := 16) (by omega) (by decide)) ⟨v, ?_⟩
      rw [c]
      by_cases q : i = r
      · have hq := hP (by omega)
        rw [← q] at hq h
        have g := hx.mp hq.1
        exact br_f (fun z => g.1 (hz'.mp z)) ⟨v, br_t g.2 ⟨v, br_t hq.2 h⟩⟩
      · have hq := hN i (by omega)
        have w := nm_r (nI_1 i) (ih (i + 1) (by omega) (by omega) (by omega))
        by_cases g : kd i = 0
        · exact br_t (hz'.mpr g) w
        · refine br_f (fun z => g (hz'.mp z)) ⟨v, ?_⟩
          by_cases s : iy i = nI d
          · exact br_t s ⟨v, br_f (fun z => hq ⟨hx.mpr ⟨g, s⟩, z⟩) w⟩
          · exact br_f s w
theorem ef_yFd {post : Int32 → Prop} {d r : Nat} {y : Int32} (hz : ∀ j, j < 16 → (kd j ≤ 0 ↔ kd j = 0)) (hE : ∀ j, 1 ≤ j → j < 16 → (pa j = d ↔ (kd j ≠ 0 ∧ iy j = nI d))) (h1 : 1 ≤ r) (hr : r ≤ 16) (hP : r < 16 → pa r = d ∧ nm r = y) (hN : ∀ j, j < r → ¬ (pa j = d ∧ nm j = y)) (h : post (nI r)) : wpY_find post (sv, kd, iy, nm, cy, sk, si, sn, sy, dt, us, hy) (nI d) y :=
  ⟨17, ef_yFd2 hz hE hr hP hN h 17 1 (by omega) (by omega) h1⟩
theorem ef_yNo2 {post : Int32 → Prop} (hz : ∀ j, j < 16 → (kd j ≤ 0 ↔ kd j = 0)) (h : post (nI (ef_cn (fun j => kd j ≠ 0) 16))) : ∀ (n i : Nat), 16 < n + i → i ≤ 16 → wY_nodes_4 post sv kd iy nm cy sk si sn sy dt us hy n (nI (ef_cn (fun j => kd j ≠ 0) i)) (nI i) := by
  intro n
  induction n with
  | zero => intro i h1 h2; omega
  | succ n ih =>
    intro i h1 h2
    have c : (nI i).toNatClampNeg = i := nI_clamp (by omega)
    rw [wY_nodes_4]
    by_cases e : i = 16
    · subst e
      exact br_t (show (16 : Int32) ≤ nI 16 from by decide) h
    · refine br_f (nI_ge (b := 16) (by omega) (by decide)) ⟨vp_in_nI (by omega) (by decide), ?_⟩
      rw [c]
      have hz' := hz i (by omega)
      have w := ih (i + 1) (by omega) (by omega)
      by_cases g : kd i = 0
      · rw [ef_cnf (P := fun j => kd j ≠ 0) (fun z => z g)] at w
        exact br_t (hz'.mpr g) (nm_r (nI_1 i) w)
      · rw [ef_cnt (P := fun j => kd j ≠ 0) g] at w
        exact br_f (fun z => g (hz'.mp z)) (nm_r (nI_1 _) (nm_r (nI_1 i) w))
theorem ef_yNo {post : Int32 → Prop} (hz : ∀ j, j < 16 → (kd j ≤ 0 ↔ kd j = 0)) (h : post (nI (ef_cn (fun j => kd j ≠ 0) 16))) : wpY_nodes post (sv, kd, iy, nm, cy, sk, si, sn, sy, dt, us, hy) :=
  ⟨17, ef_yNo2 hz h 17 0 (by omega) (by omega)⟩
theorem ef_yEn2 {post : Int32 → Prop} {d : Nat} (hz : ∀ j, j < 16 → (kd j ≤ 0 ↔ kd j = 0)) (hE : ∀ j, 1 ≤ j → j < 16 → (pa j = d ↔ (kd j ≠ 0 ∧ iy j = nI d))) (h : post (nI (ef_cn (fun j => pa j = d) 16))) : ∀ (n i : Nat), 16 < n + i → 1 ≤ i → i ≤ 16 → wY_entries_4 post (nI d) sv kd iy nm cy sk si sn sy dt us hy n (nI (ef_cn (fun j => pa j = d) i)) (nI i) := by
  intro n
  induction n with
  | zero => intro i h1 h2; omega
  | succ n ih =>
    intro i h1 h2 h3
    have c : (nI i).toNatClampNeg = i := nI_clamp (by omega)
    rw [wY_entries_4]
    by_cases e : i = 16
    · subst e
      exact br_t (show (16 : Int32) ≤ nI 16 from by decide) h
    · have v := vp_in_nI (n := i) (N := 16) (by omega) (by decide)
      refine br_f (nI_ge (b := 16) (by omega) (by decide)) ⟨v, ?_⟩
      rw [c]
      have hz' := hz i (by omega)
      have hx := hE i h2 (by omega)
      have w := ih (i + 1) (by omega) (by omega) (by omega)
      by_cases g : kd i = 0
      · rw [ef_cnf (P := fun j => pa j = d) (fun z => (hx.mp z).1 g)] at w
        exact br_t (hz'.mpr g) (nm_r (nI_1 i) w)
      · refine br_f (fun z => g (hz'.mp z)) ⟨v, ?_⟩
        by_cases s : iy i = nI d
        · rw [ef_cnt (P := fun j => pa j = d) (hx.mpr ⟨g, s⟩)] at w
          exact br_t s (nm_r (nI_1 _) (nm_r (nI_1 i) w))
        · rw [ef_cnf (P := fun j => pa j = d) (fun z => s (hx.mp z).2)] at w
          exact br_f s (nm_r (nI_1 i) w)
theorem ef_yEn {post : Int32 → Prop} {d : Nat} (hz : ∀ j, j < 16 → (kd j ≤ 0 ↔ kd j = 0)) (hE : ∀ j, 1 ≤ j → j < 16 → (pa j = d ↔ (kd j ≠ 0 ∧ iy j = nI d))) (h0 : ¬ pa 0 = d) (h : post (nI (ef_cn (fun j => pa j = d) 16))) : wpY_entries post (sv, kd, iy, nm, cy, sk, si, sn, sy, dt, us, hy) (nI d) := by
  have w := ef_yEn2 (sv := sv) (nm := nm) (cy := cy) (sk := sk) (si := si) (sn := sn) (sy := sy) (dt := dt) (us := us) (hy := hy) hz hE h 17 1 (by omega) (by omega) (by omega)
  rw [ef_cnf (P := fun j => pa j = d) (i := 0) h0] at w
  exact ⟨17, w⟩
/-! D: make -/
theorem ef_yM149 {post : Int32 → SY → Prop} {a r : Nat} (ha : a < 4) (hr : r < 16) (h : post 0 (sv, kd, iy, nm, ef_Y (ef_fr (8 * r) (8 * r + 8) 24 cp), sk, si, sn, sy, dt, us, ef_Y (ef_un hn a r))) : ∀ (n i : Nat), 8 < n + i → i ≤ 8 → wY_make_149 post (nI a) (nI r) sv n (nI i) kd iy nm ((ef_Y (ef_fr (8 * r) (8 * r + i) 24 cp))) sk si sn sy dt us (ef_Y hn) := by
  intro n
  induction n with
  | zero => intro i h1 h2; omega
  | succ n ih =>
    intro i h1 h2
    rw [wY_make_149]
    by_cases e : i = 8
    · subst e
      refine br_t (show (8 : Int32) ≤ nI 8 from by decide) ⟨vp_in_nI ha (by decide), nm_r (e' := ef_Y (ef_un hn a r)) ?_ h⟩
      rw [nI_clamp (by omega), ef_Yu]
    · have w := ih (i + 1) (by omega) (by omega)
      rw [← Nat.add_assoc (8 * r) i 1, ← ef_frs (by omega), ← ef_Yu] at w
      refine br_f (nI_ge (b := 8) (by omega) (by decide)) ?_
      rw [ef_pl8, nI_clamp (by omega)]
      exact ⟨vp_in_nI (by omega) (by decide), nm_e (nm_r (nI_1 i) w)⟩
theorem ef_yM83 {post : Int32 → SY → Prop} {x1 x2 x3 x4 : Int32} {r : Nat} (h1 : 1 ≤ r) (hr : r ≤ 16) (hP : r < 16 → kd r = 0) (hN : ∀ j, 1 ≤ j → j < r → ¬ kd j = 0) (h : (x4 = 0 → wY_make_124 post x1 x2 x3 (nI r) 2 (nI r) sv kd iy nm cy sk si sn sy dt us hy) ∧ (¬ x4 = 0 → wY_make_124 post x1 x2 x3 (nI r) 1 (nI r) sv kd iy nm cy sk si sn sy dt us hy)) : ∀ (n i : Nat), i < n → i ≤ 15 → ∀ f : Int32, (i < r → f = nI r) → wY_make_83 post x1 x2 x3 x4 sv kd iy nm cy sk si sn sy dt us hy n f (nI i) := by
  intro n
  induction n with
  | zero => intro i h2; omega
  | succ n ih =>
    intro i h2 h3 f hf
    rw [wY_make_83]
    by_cases e : i = 0
    · subst e
      rw [hf (by omega)]
      exact br_t (show nI 0 ≤ (0 : Int32) from by decide) h
    · obtain ⟨k, rfl⟩ : ∃ k, i = k + 1 := ⟨i - 1, by omega⟩
      refine br_f (nI_nle (by omega) (by omega)) ⟨vp_in_nI (by omega) (by decide), ?_⟩
      rw [nI_clamp (by omega)]
      by_cases g : kd (k + 1) = 0
      · refine br_t g (nm_r (pk_m1 k) (ih k (by omega) (by omega) _ (fun z => ?_)))
        by_cases q : k + 1 = r
        · rw [q]
        · exact absurd g (hN (k + 1) (by omega) (by omega))
      · refine br_f g (nm_r (pk_m1 k) (ih k (by omega) (by omega) _ (fun z => hf ?_)))
        apply Nat.lt_of_le_of_ne (by omega)
        intro q
        rw [q] at g
        exact g (hP (by omega))
/-! E: erase -/
theorem ef_yE118 {post : Int32 → SY → Prop} {r : Nat} (hr : r < 16) (h : post 0 (sv, kd, iy, nm, ef_Y (ef_fr (8 * r) (8 * r + 8) 24 cp), sk, si, sn, sy, dt, us, hy)) : ∀ (n i : Nat), 8 < n + i → i ≤ 8 → wY_erase_118 post (nI r) sv n (nI i) kd iy nm ((ef_Y (ef_fr (8 * r) (8 * r + i) 24 cp))) sk si sn sy dt us hy := by
  intro n
  induction n with
  | zero => intro i h1 h2; omega
  | succ n ih =>
    intro i h1 h2
    rw [wY_erase_118]
    by_cases e : i = 8
    · subst e
      exact br_t (show (8 : Int32) ≤ nI 8 from by decide) h
    · have w := ih (i + 1) (by omega) (by omega)
      rw [← Nat.add_assoc (8 * r) i 1, ← ef_frs (by omega), ← ef_Yu] at w
      refine br_f (nI_ge (b := 8) (by omega) (by decide)) ?_
      rw [ef_pl8, nI_clamp (by omega)]
      exact ⟨vp_in_nI (by omega) (by decide), nm_e (nm_r (nI_1 i) w)⟩
theorem ef_yE118' {post : Int32 → SY → Prop} {r : Nat} (hr : r < 16) (h : post 0 (sv, kd, iy, nm, ef_Y (ef_fr (8 * r) (8 * r + 8) 24 cp), sk, si, sn, sy, dt, us, hy)) : ∃ n, wY_erase_118 post (nI r) sv n 0 kd iy nm (ef_Y cp) sk si sn sy dt us hy := by
  have w := ef_yE118 hr h 9 0 (by omega) (by omega)
  rw [show 8 * r + 0 = 8 * r from rfl, ef_fr0] at w
  exact ⟨9, w⟩
/-- from the handles on: busy, full, or gone -/
theorem ef_yE57 {post : Int32 → SY → Prop} {k : Nat} (hk : k < 16) (hh : ∀ j, j < 4 → hn j ≤ 16) (hz : ∀ j, j < 16 → (kd j ≤ 0 ↔ kd j = 0)) (hE : ∀ j, 1 ≤ j → j < 16 → (pa j = k ↔ (kd j ≠ 0 ∧ iy j = nI k))) (h0 : ¬ pa 0 = k) (hf : ¬ kd k = 1 → ∀ j, j < 16 → ¬ pa j = k)
    (a : (∃ j, j < 4 ∧ hn j = k) → post (-6) (sv, kd, iy, nm, ef_Y cp, sk, si, sn, sy, dt, us, ef_Y hn)) (b : (¬ ∃ j, j < 4 ∧ hn j = k) → ¬ ef_cn (fun j => pa j = k) 16 = 0 → post (-2) (sv, kd, iy, nm, ef_Y cp, sk, si, sn, sy, dt, us, ef_Y hn)) (c : (¬ ∃ j, j < 4 ∧ hn j = k) → ef_cn (fun j => pa j = k) 16 = 0 → post 0 (sv, upd kd k 0, iy, nm, ef_Y (ef_fr (8 * k) (8 * k + 8) 24 cp), sk, si, sn, sy, dt, us, ef_Y hn)) :
    ∀ (n i : Nat), 4 < n + i → i ≤ 4 → (∀ j, j < i → hn j ≠ k) → wY_erase_57 post (nI k) sv kd iy nm (ef_Y cp) sk si sn sy dt us (ef_Y hn) n (nI i) := by
  intro n
  induction n with
  | zero => intro i h1 h2; omega
  | succ n ih =>
    intro i h1 h2 h3
    rw [wY_erase_57]
    have v := vp_in_nI (n := k) (N := 16) hk (by decide)
    have ck : (nI k).toNatClampNeg = k := nI_clamp (by omega)
    by_cases e : i = 4
    · subst e
      have hno : ¬ ∃ j, j < 4 ∧ hn j = k := fun ⟨j, h4, h5⟩ => h3 j h4 h5
      refine br_t (show (4 : Int32) ≤ nI 4 from by decide) ⟨v, ?_⟩
      rw [ck]
      by_cases g : kd k = 1
      · refine br_t g (ef_yEn hz hE h0 ?_)
        have hl := ef_cnle (fun j => pa j = k) 16
        by_cases q : ef_cn (fun j => pa j = k) 16 = 0
        · rw [q]
          exact br_t (show nI 0 ≤ (0 : Int32) from by decide) ⟨v, nm_e (ef_yE118' hk (c hno q))⟩
        · exact br_f (nI_nle (by omega) (by omega)) (b hno q)
      · exact br_f g ⟨v, nm_e (ef_yE118' hk (c hno (ef_cn0 (hf g))))⟩
    · refine br_f (nI_ge (b := 4) (by omega) (by decide)) ⟨vp_in_nI (by omega) (by decide), ?_⟩
      rw [nI_clamp (by omega : i < 2 ^ 31), ef_Yv]
      have hb := hh i (by omega)
      by_cases g : hn i = k
      · exact br_t (by rw [g]) (a ⟨i, by omega, g⟩)
      · refine br_f (fun z => g ((nI_eq (by omega) (by omega)).mp z)) (nm_r (nI_1 i) (ih (i + 1) (by omega) (by omega) (fun j hj => ?_)))
        by_cases ej : j = i
        · rw [ej]; exact g
        · exact h3 j (by omega)
/-! F: rename -/
theorem ef_yR147 {post : Int32 → SY → Prop} {e k p : Nat} {y : Int32} (he : e < 4) (k0 : k ≠ 0) (hk : k < 16) (hp : p < 16) (hkp : kd p = 1) (hpe : hn e = p) (S : ef_St kd iy nm pa cp)
    (a : (∃ i, i < 16 ∧ ef_an pa p i = k) → post (-7) (sv, kd, iy, nm, cy, sk, si, sn, sy, dt, us, ef_Y hn)) (b : (¬ ∃ i, i < 16 ∧ ef_an pa p i = k) → post 0 (sv, kd, upd iy k (nI p), upd nm k y, cy, sk, si, sn, sy, dt, us, ef_Y hn)) :
    ∀ (n i : Nat), 16 < n + i → i ≤ 16 → (∀ j, j < i → ef_an pa p j ≠ k) → wY_rename_147 post (nI e) y (nI k) sv kd iy nm cy sk si sn sy dt us (ef_Y hn) n (nI (ef_q (ef_an pa p i))) (nI i) := by
  intro n
  induction n with
  | zero => intro i h1 h2; omega
  | succ n ih =>
    intro i h1 h2 h3
    rw [wY_rename_147]
    have v := vp_in_nI (n := k) (N := 16) hk (by decide)
    have ck : (nI k).toNatClampNeg = k := nI_clamp (by omega)
    by_cases ei : i = 16
    · subst ei
      refine br_t (show (16 : Int32) ≤ nI 16 from by decide) ⟨vp_in_nI he (by decide), v, ?_⟩
      rw [nI_clamp (by omega : e < 2 ^ 31), ef_Yv, hpe, ck]
      exact nm_e ⟨v, nm_e (b (fun ⟨j, h4, h5⟩ => h3 j h4 h5))⟩
    · refine br_f (nI_ge (b := 16) (by omega) (by decide)) ?_
      have hA : ef_an pa p i ≤ 16 := by
        rcases ef_an_in S hp hkp i with z | z
        · omega
        · omega
      have hq := ef_qlt hA
      have hu := ef_q_up S hp hkp i
      by_cases g : ef_an pa p i = k
      · exact br_t (by rw [(ef_qk k0 hk).mpr g]) (a ⟨i, by omega, g⟩)
      · refine br_f (fun z => g ((ef_qk k0 hk).mp ((nI_eq (by omega) (by omega)).mp z))) ?_
        have w := ih (i + 1) (by omega) (by omega) (fun j hj => by
          by_cases ej : j = i
          · rw [ej]; exact g
          · exact h3 j (by omega))
        by_cases z : ef_q (ef_an pa p i) = 0
        · rw [hu.1 z] at w
          rw [z]
          exact br_t (show nI 0 ≤ (0 : Int32) from by decide) (nm_r (nI_1 i) w)
        · refine br_f (nI_nle (by omega) (by omega)) ⟨vp_in_nI hq (by decide), ?_⟩
          rw [nI_clamp (by omega), hu.2 z]
          exact nm_e (nm_r (nI_1 i) w)
end EFY
end
section
/-! the reference's own methods, further -/
section EFY
variable {sv : Int32} {kd iy nm cy sk si sn sy dt us hy : Nat → Int32} {pa cp scp hn : Nat → Nat}
/-! A: which copies are used -/
def ef_M (kd : Nat → Int32) (cp : Nat → Nat) (i c : Nat) : Prop := ∃ p, p < i ∧ kd (p / 8) = 2 ∧ cp p = c
theorem ef_Ms {i c : Nat} : ef_M kd cp (i + 1) c ↔ (ef_M kd cp i c ∨ (kd (i / 8) = 2 ∧ cp i = c)) := by
  constructor
  · rintro ⟨p, h1, h2, h3⟩
    by_cases e : p = i
    · rw [e] at h2 h3
      exact Or.inr ⟨h2, h3⟩
    · exact Or.inl ⟨p, by omega, h2, h3⟩
  · rintro (⟨p, h1, h2, h3⟩ | ⟨h2, h3⟩)
    · exact ⟨p, by omega, h2, h3⟩
    · exact ⟨i, by omega, h2, h3⟩
theorem ef_M0 {c : Nat} : ¬ ef_M kd cp 0 c := fun ⟨_, h, _⟩ => Nat.not_lt_zero _ h
theorem ef_Mh (S : ef_St kd iy nm pa cp) {c : Nat} (hc : c < 24) : ef_M kd cp 128 c ↔ ef_hd cp c := by
  constructor
  · rintro ⟨p, h1, h2, h3⟩
    exact ⟨p, h1, h3⟩
  · rintro ⟨p, h1, h3⟩
    by_cases z : kd (p / 8) = 2
    · exact ⟨p, h1, z, h3⟩
    · have := S.2.2.2.2.2.2 p h1 z
      omega
def ef_G (A : Nat → Prop) (b : Int32) (kd : Nat → Int32) (cp : Nat → Nat) (i : Nat) (us : Nat → Int32) : Prop := ∀ c, c < 25 → (us c = 0 ↔ ¬ (A c ∨ (b ≠ 0 ∧ ef_M kd cp i c)))
theorem ef_Gt {A : Nat → Prop} {b : Int32} {i : Nat} (hb : b ≠ 0) (hk : kd (i / 8) = 2) (h : ef_G A b kd cp i us) : ef_G A b kd cp (i + 1) (upd us (cp i) 1) := by
  intro c hc
  rw [ef_Ms]
  by_cases e : c = cp i
  · rw [e, pk_us]
    exact ⟨fun z => absurd z (by decide), fun z => absurd (Or.inr ⟨hb, Or.inr ⟨hk, rfl⟩⟩) z⟩
  · rw [pk_un e, h c hc]
    have : (ef_M kd cp i c ∨ (kd (i / 8) = 2 ∧ cp i = c)) ↔ ef_M kd cp i c := ⟨fun o => o.elim (fun z => z) (fun z => absurd z.2.symm e), Or.inl⟩
    rw [this]
theorem ef_Gf {A : Nat → Prop} {b : Int32} {i : Nat} (hk : b = 0 ∨ ¬ kd (i / 8) = 2) (h : ef_G A b kd cp i us) : ef_G A b kd cp (i + 1) us := by
  intro c hc
  rw [ef_Ms, h c hc]
  have : (b ≠ 0 ∧ (ef_M kd cp i c ∨ (kd (i / 8) = 2 ∧ cp i = c))) ↔ (b ≠ 0 ∧ ef_M kd cp i c) := by
    constructor
    · rintro ⟨h1, h2 | h2⟩
      · exact ⟨h1, h2⟩
      · exact absurd hk (fun o => o.elim h1 (fun z => z h2.1))
    · rintro ⟨h1, h2⟩
      exact ⟨h1, Or.inl h2⟩
  rw [this]
theorem ef_vb0 : vp_nar .boolean 0 = 0 := by decide
theorem ef_vb1 : vp_nar .boolean 1 = 1 := by decide
theorem ef_yMk42 {post : SY → Prop} {A : Nat → Prop} {b : Int32} (hc : ∀ p, p < 128 → cp p ≤ 24) (h : ∀ us : Nat → Int32, ef_G A b kd cp 128 us → post (sv, kd, iy, nm, ef_Y cp, sk, si, sn, sy, dt, us, hy)) : ∀ (n i : Nat) (us : Nat → Int32), 128 < n + i → i ≤ 128 → ef_G A b kd cp i us → wY_mark_42 post b sv n (nI i) kd iy nm (ef_Y cp) sk si sn sy dt us hy := by
  intro n
  induction n with
  | zero => intro i us h1 h2; omega
  | succ n ih =>
    intro i us h1 h2 hG
    rw [wY_mark_42]
    by_cases e : i = 128
    · subst e
      exact br_t (show (128 : Int32) ≤ nI 128 from by decide) (h us hG)
    · refine br_f (nI_ge (b := 128) (by omega) (by decide)) ?_
      by_cases g : b = 0
      · exact br_t g (nm_r (nI_1 i) (ih (i + 1) us (by omega) (by omega) (ef_Gf (Or.inl g) hG)))
      · refine br_f g ⟨by decide, ?_⟩
        rw [ef_d8 (by omega), nI_clamp (by omega : i / 8 < 2 ^ 31), nI_clamp (by omega : i < 2 ^ 31), ef_Yv]
        have hci := hc i (by omega)
        rw [nI_clamp (by omega), ef_vb1]
        refine ⟨vp_in_nI (by omega) (by decide), ?_⟩
        by_cases q : kd (i / 8) = 2
        · exact br_t q ⟨vp_in_nI (by omega) (by decide), vp_in_nI (by omega) (by decide), nm_e (nm_r (nI_1 i) (ih (i + 1) _ (by omega) (by omega) (ef_Gt g q hG)))⟩
        · exact br_f q (nm_r (nI_1 i) (ih (i + 1) us (by omega) (by omega) (ef_Gf (Or.inr q) hG)))
theorem ef_yMk2 {post : SY → Prop} {b : Int32} (hc : ∀ p, p < 128 → cp p ≤ 24) (hs : ∀ p, p < 128 → scp p ≤ 24) (h : ∀ us : Nat → Int32, ef_G (fun c => ef_M sk scp 128 c) b kd cp 128 us → post (sv, kd, iy, nm, ef_Y cp, sk, si, sn, ef_Y scp, dt, us, hy)) : ∀ (n i : Nat) (us : Nat → Int32), 128 < n + i → i ≤ 128 → ef_G (fun _ => False) 1 sk scp i us → wY_mark_2 post b sv n (nI i) kd iy nm (ef_Y cp) sk si sn (ef_Y scp) dt us hy := by
  intro n
  induction n with
  | zero => intro i us h1 h2; omega
  | succ n ih =>
    intro i us h1 h2 hG
    rw [wY_mark_2]
    by_cases e : i = 128
    · subst e
      refine br_t (show (128 : Int32) ≤ nI 128 from by decide) ⟨129, ef_yMk42 hc h 129 0 us (by omega) (by omega) ?_⟩
      intro c hc
      rw [hG c hc]
      constructor
      · intro z o
        exact o.elim (fun y => z (Or.inr ⟨by decide, y⟩)) (fun y => ef_M0 y.2)
      · intro z o
        exact o.elim (fun y => y) (fun y => z (Or.inl y.2))
    · refine br_f (nI_ge (b := 128) (by omega) (by decide)) ⟨by decide, ?_⟩
      rw [ef_d8 (by omega), nI_clamp (by omega : i / 8 < 2 ^ 31), nI_clamp (by omega : i < 2 ^ 31), ef_Yv]
      have hci := hs i (by omega)
      rw [nI_clamp (by omega), ef_vb1]
      refine ⟨vp_in_nI (by omega) (by decide), ?_⟩
      by_cases q : sk (i / 8) = 2
      · exact br_t q ⟨vp_in_nI (by omega) (by decide), vp_in_nI (by omega) (by decide), nm_e (nm_r (nI_1 i) (ih (i + 1) _ (by omega) (by omega) (ef_Gt (by decide) q hG)))⟩
      · exact br_f q (nm_r (nI_1 i) (ih (i + 1) us (by omega) (by omega) (ef_Gf (Or.inr q) hG)))
theorem ef_yFU2 {post : SY → Prop} {b : Int32} (hc : ∀ p, p < 128 → cp p ≤ 24) (hs : ∀ p, p < 128 → scp p ≤ 24) (h : ∀ us : Nat → Int32, ef_G (fun c => ef_M sk scp 128 c) b kd cp 128 us → post (sv, kd, iy, nm, ef_Y cp, sk, si, sn, ef_Y scp, dt, us, hy)) : ∀ (n i : Nat), 25 < n + i → i ≤ 25 → wY_findUsed_2 post b sv n (nI i) kd iy nm (ef_Y cp) sk si sn (ef_Y scp) dt (ef_mix i (fun _ => 0) us) hy := by
  intro n
  induction n with
  | zero => intro i h1 h2; omega
  | succ n ih =>
    intro i h1 h2
    rw [wY_findUsed_2]
    by_cases e : i = 25
    · subst e
      refine br_t (show (24 : Int32) < nI 25 from by decide) ⟨129, ef_yMk2 hc hs h 129 0 _ (by omega) (by omega) ?_⟩
      intro c hc
      rw [ef_mixl hc]
      exact ⟨fun _ o => o.elim (fun y => y) (fun y => ef_M0 y.2), fun _ => rfl⟩
    · have w := ih (i + 1) (by omega) (by omega)
      rw [← ef_mixs] at w
      refine br_f (nI_nlt (a := 24) (b := i) (by omega) (by decide)) ⟨vp_in_nI (by omega) (by decide), ?_⟩
      rw [nI_clamp (by omega), ef_vb0]
      exact nm_e (nm_r (nI_1 i) w)
theorem ef_yFU {post : SY → Prop} {b : Int32} (hc : ∀ p, p < 128 → cp p ≤ 24) (hs : ∀ p, p < 128 → scp p ≤ 24) (h : ∀ us : Nat → Int32, ef_G (fun c => ef_M sk scp 128 c) b kd cp 128 us → post (sv, kd, iy, nm, ef_Y cp, sk, si, sn, ef_Y scp, dt, us, hy)) : wpY_findUsed post (sv, kd, iy, nm, ef_Y cp, sk, si, sn, ef_Y scp, dt, us, hy) b := by
  have w := ef_yFU2 (us := us) hc hs h 26 0 (by omega) (by omega)
  rw [ef_mix0] at w
  exact ⟨26, w⟩
/-! B: copies counted -/
theorem ef_yCo9 {post : Int32 → SY → Prop} {H : Nat → Prop} (hu : ∀ c, c < 24 → (us c = 0 ↔ ¬ H c)) (h : post (nI (ef_cn H 24)) (sv, kd, iy, nm, cy, sk, si, sn, sy, dt, us, hy)) : ∀ (n i : Nat), 24 < n + i → i ≤ 24 → wY_copies_9 post sv kd iy nm cy sk si sn sy dt us hy n (nI (ef_cn H i)) (nI i) := by
  intro n
  induction n with
  | zero => intro i h1 h2; omega
  | succ n ih =>
    intro i h1 h2
    rw [wY_copies_9]
    by_cases e : i = 24
    · subst e
      exact br_t (show (24 : Int32) ≤ nI 24 from by decide) h
    · refine br_f (nI_ge (b := 24) (by omega) (by decide)) ⟨vp_in_nI (by omega) (by decide), ?_⟩
      rw [nI_clamp (by omega)]
      have hu' := hu i (by omega)
      have w := ih (i + 1) (by omega) (by omega)
      by_cases g : H i
      · rw [ef_cnt g] at w
        exact br_f (fun z => hu'.mp z g) (nm_r (nI_1 _) (nm_r (nI_1 i) w))
      · rw [ef_cnf g] at w
        exact br_t (hu'.mpr g) (nm_r (nI_1 i) w)
theorem ef_yCo {post : Int32 → SY → Prop} (S : ef_St kd iy nm pa cp) {spa : Nat → Nat} (T : ef_St sk si sn spa scp) (h : ∀ us : Nat → Int32, (∀ c, c < 24 → (us c = 0 ↔ ¬ (ef_hd cp c ∨ ef_hd scp c))) → post (nI (ef_cn (fun c => ef_hd cp c ∨ ef_hd scp c) 24)) (sv, kd, iy, nm, ef_Y cp, sk, si, sn, ef_Y scp, dt, us, hy)) : wpY_copies post (sv, kd, iy, nm, ef_Y cp, sk, si, sn, ef_Y scp, dt, us, hy) := by
  refine ef_yFU S.2.2.2.2.2.1 T.2.2.2.2.2.1 (fun us hG => ?_)
  have hu : ∀ c, c < 24 → (us c = 0 ↔ ¬ (ef_hd cp c ∨ ef_hd scp c)) := by
    intro c hc
    have hG' : us c = 0 ↔ ¬ (ef_M sk scp 128 c ∨ ((1 : Int32) ≠ 0 ∧ ef_M kd cp 128 c)) := hG c (by omega)
    rw [hG', ef_Mh S hc, ef_Mh T hc]
    constructor
    · intro z o
      exact o.elim (fun y => z (Or.inr ⟨by decide, y⟩)) (fun y => z (Or.inl y))
    · intro z o
      exact o.elim (fun y => z (Or.inr y)) (fun y => z (Or.inl y.2))
  exact ⟨25, ef_yCo9 hu (h us hu) 25 0 (by omega) (by omega)⟩
/-! C: write -/
theorem ef_yW186 {post : Int32 → SY → Prop} {p c : Nat} {y : Int32} (hp : p < 128) (hc : c < 32) (ho : cp p < 24) (h : post 0 (sv, kd, iy, nm, ef_Y cp, sk, si, sn, sy, upd dt (4 * cp p + c % 4) y, us, hy)) : wY_write_186 post (nI c) y (nI p) sv kd iy nm (ef_Y cp) sk si sn sy dt us hy := by
  refine ⟨vp_in_nI hp (by decide), by decide, ?_⟩
  rw [nI_clamp (by omega : p < 2 ^ 31), ef_Yv, ef_r4 (by omega), ef_p48, nI_clamp (by omega)]
  exact ⟨vp_in_nI (by omega) (by decide), nm_e h⟩
theorem ef_yW130 {post : Int32 → SY → Prop} {p c o r : Nat} {y : Int32} (hp : p < 128) (hc : c < 32) (hr : r < 24) (ho : o ≤ 24) (h : post 0 (sv, kd, iy, nm, ef_Y (ef_un cp p r), sk, si, sn, sy, upd (ef_fl dt r o 4) (4 * r + c % 4) y, us, hy)) : ∀ (n i : Nat), 4 < n + i → i ≤ 4 → wY_write_130 post (nI c) y (nI p) (nI o) (nI r) sv n (nI i) kd iy nm (ef_Y cp) sk si sn sy (ef_fl dt r o i) us hy := by
  intro n
  induction n with
  | zero => intro i h1 h2; omega
  | succ n ih =>
    intro i h1 h2
    rw [wY_write_130]
    by_cases e : i = 4
    · subst e
      refine br_t (show (4 : Int32) ≤ nI 4 from by decide) ⟨vp_in_nI hp (by decide), nm_r (e' := ef_Y (ef_un cp p r)) (by rw [nI_clamp (by omega), ef_Yu]) ?_⟩
      refine ef_yW186 hp hc (by rw [ef_uns]; exact hr) ?_
      rw [ef_uns]
      exact h
    · have w := ih (i + 1) (by omega) (by omega)
      rw [ef_fls] at w
      have vf := vp_in_nI (n := 4 * r + i) (N := 96) (by omega) (by decide)
      refine br_f (nI_ge (b := 4) (by omega) (by decide)) ?_
      rw [ef_p48, ef_p48, nI_clamp (by omega : 4 * r + i < 2 ^ 31), nI_clamp (by omega : 4 * o + i < 2 ^ 31)]
      by_cases g : o = 24
      · rw [if_pos g] at w
        exact br_t (by rw [g]; rfl) ⟨vf, nm_e (nm_r (nI_1 i) w)⟩
      · rw [if_neg g] at w
        exact br_f (fun z => g ((nI_eq (b := 24) (by omega) (by decide)).mp z)) ⟨vp_in_nI (by omega) (by decide), vf, nm_e (nm_r (nI_1 i) w)⟩
theorem ef_yW102 {post : Int32 → SY → Prop} {x2 x3 x5 x6 : Int32} {r : Nat} (hr : r < 24) (hP : us r = 0) (hN : ∀ j, j < r → ¬ us j = 0) (h : ∃ n, wY_write_130 post x2 x3 x5 x6 (nI r) sv n 0 kd iy nm cy sk si sn sy dt us hy) : ∀ (n e : Nat), e < n → e ≤ 24 → ∀ f : Int32, (e ≤ r → f = nI r) → wY_write_102 post x2 x3 x5 x6 sv kd iy nm cy sk si sn sy dt us hy n f (nI e + (-1)) := by
  intro n
  induction n with
  | zero => intro i h2; omega
  | succ n ih =>
    intro i h2 h3 f hf
    rw [wY_write_102]
    by_cases e : i = 0
    · subst e
      rw [hf (by omega)]
      exact br_t (show nI 0 + (-1) < (0 : Int32) from by decide) h
    · obtain ⟨k, rfl⟩ : ∃ k, i = k + 1 := ⟨i - 1, by omega⟩
      rw [pk_m1]
      refine br_f (nI_pos (by omega)) ⟨vp_in_nI (by omega) (by decide), ?_⟩
      rw [nI_clamp (by omega)]
      by_cases g : us k = 0
      · refine br_t g (nm_e (ih k (by omega) (by omega) _ (fun z => ?_)))
        by_cases q : k = r
        · rw [q]
        · exact absurd g (hN k (by omega))
      · refine br_f g (nm_e (ih k (by omega) (by omega) _ (fun z => hf ?_)))
        apply Nat.lt_of_le_of_ne z
        intro q
        rw [q] at g
        exact g hP
/-! D: cut, size, next -/
theorem ef_yC39 {post : Int32 → SY → Prop} {a k b : Nat} (ha : a < 4) (hk : k < 16) (hak : hn a = k) (hc : ∀ p, p < 128 → cp p ≤ 24) (h : post (nI (ef_cn (fun j => b ≤ j ∧ cp (8 * k + j) ≠ 24) 8)) (sv, kd, iy, nm, ef_Y (ef_fr (8 * k + b) (8 * k + 8) 24 cp), sk, si, sn, sy, dt, us, ef_Y hn)) : ∀ (n i : Nat), 8 < n + i → b ≤ i → i ≤ 8 → wY_cut_39 post (nI a) sv n (nI (ef_cn (fun j => b ≤ j ∧ cp (8 * k + j) ≠ 24) i)) (nI i) kd iy nm ((ef_Y (ef_fr (8 * k + b) (8 * k + i) 24 cp))) sk si sn sy dt us (ef_Y hn) := by
  intro n
  induction n with
  | zero => intro i h1 h2; omega
  | succ n ih =>
    intro i h1 h2 h3
    rw [wY_cut_39]
    unfold wY_cut_71
    by_cases e : i = 8
    · subst e
      exact br_t (show (8 : Int32) ≤ nI 8 from by decide) h
    · have w := ih (i + 1) (by omega) (by omega) (by omega)
      rw [← Nat.add_assoc (8 * k) i 1, ← ef_frs (by omega), ← ef_Yu] at w
      have ev : ef_Y (ef_fr (8 * k + b) (8 * k + i) 24 cp) (8 * k + i) = nI (cp (8 * k + i)) := congrArg nI (ef_frf (by omega))
      have hci := hc (8 * k + i) (by omega)
      have va := vp_in_nI (n := a) (N := 4) ha (by decide)
      have v := vp_in_nI (n := 8 * k + i) (N := 128) (by omega) (by decide)
      refine br_f (nI_ge (b := 8) (by omega) (by decide)) ⟨va, ?_⟩
      rw [nI_clamp (by omega : a < 2 ^ 31), ef_Yv, hak, ef_pl8, nI_clamp (by omega : 8 * k + i < 2 ^ 31), ev]
      refine ⟨v, ?_⟩
      by_cases g : cp (8 * k + i) = 24
      · rw [ef_cnf (P := fun j => b ≤ j ∧ cp (8 * k + j) ≠ 24) (fun z => z.2 g)] at w
        exact br_t (by rw [g]; decide) ⟨va, v, nm_e (nm_r (nI_1 i) w)⟩
      · rw [ef_cnt (P := fun j => b ≤ j ∧ cp (8 * k + j) ≠ 24) ⟨h2, g⟩] at w
        exact br_f (nI_ge (b := 24) (by omega) (by decide)) (nm_r (nI_1 _) ⟨va, v, nm_e (nm_r (nI_1 i) w)⟩)
theorem ef_yC39' {post : Int32 → SY → Prop} {a k b : Nat} (ha : a < 4) (hk : k < 16) (hak : hn a = k) (hb : b ≤ 8) (hc : ∀ p, p < 128 → cp p ≤ 24) (h : post (nI (ef_cn (fun j => b ≤ j ∧ cp (8 * k + j) ≠ 24) 8)) (sv, kd, iy, nm, ef_Y (ef_fr (8 * k + b) (8 * k + 8) 24 cp), sk, si, sn, sy, dt, us, ef_Y hn)) : ∃ n, wY_cut_39 post (nI a) sv n 0 (nI b) kd iy nm (ef_Y cp) sk si sn sy dt us (ef_Y hn) := by
  have w := ef_yC39 ha hk hak hc h 9 b (by omega) (Nat.le_refl b) hb
  rw [ef_cn0 (P := fun j => b ≤ j ∧ cp (8 * k + j) ≠ 24) (n := b) (fun j hj z => absurd z.1 (by omega)), ef_fr0] at w
  exact ⟨9, w⟩
theorem ef_yS53 {post : Int32 → Prop} {a k : Nat} (ha : a < 4) (hk : k < 16) (hak : hn a = k) (hc : ∀ p, p < 128 → cp p ≤ 24) (h : post (nI (ef_cn (fun b => cp (8 * k + b) ≠ 24) 8))) : ∀ (n i : Nat), 8 < n + i → i ≤ 8 → wY_size_53 post (nI a) sv kd iy nm (ef_Y cp) sk si sn sy dt us (ef_Y hn) n (nI (ef_cn (fun b => cp (8 * k + b) ≠ 24) i)) (nI i) := by
  intro n
  induction n with
  | zero => intro i h1 h2; omega
  | succ n ih =>
    intro i h1 h2
    rw [wY_size_53]
    by_cases e : i = 8
    · subst e
      exact br_t (show (8 : Int32) ≤ nI 8 from by decide) h
    · have w := ih (i + 1) (by omega) (by omega)
      have hci := hc (8 * k + i) (by omega)
      refine br_f (nI_ge (b := 8) (by omega) (by decide)) ⟨vp_in_nI ha (by decide), ?_⟩
      rw [nI_clamp (by omega : a < 2 ^ 31), ef_Yv, hak, ef_pl8, nI_clamp (by omega : 8 * k + i < 2 ^ 31), ef_Yv]
      refine ⟨vp_in_nI (by omega) (by decide), ?_⟩
      by_cases g : cp (8 * k + i) = 24
      · rw [ef_cnf (P := fun b => cp (8 * k + b) ≠ 24) (fun z => z g)] at w
        exact br_t (by rw [g]; decide) (nm_r (nI_1 i) w)
      · rw [ef_cnt (P := fun b => cp (8 * k + b) ≠ 24) g] at w
        exact br_f (nI_ge (b := 24) (by omega) (by decide)) (nm_r (nI_1 _) (nm_r (nI_1 i) w))
theorem ef_yNx2 {post : Int32 → Prop} {a d : Nat} {y : Int32} {m : Nat → Nat} (ha : a < 4) (had : hn a = d) (hz : ∀ j, j < 16 → (kd j ≤ 0 ↔ kd j = 0)) (hE : ∀ j, 1 ≤ j → j < 16 → (pa j = d ↔ (kd j ≠ 0 ∧ iy j = nI d))) (hm : ∀ j, j < 16 → m j < 100 ∧ nm j = nI (m j)) (h : post (ef_e3 (ef_nx (fun j => pa j = d ∧ ¬ nm j ≤ y) m 16))) : ∀ (n i : Nat), 16 < n + i → 1 ≤ i → i ≤ 16 → wY_next_30 post (nI a) y sv kd iy nm cy sk si sn sy dt us (ef_Y hn) n (nI (ef_nx (fun j => pa j = d ∧ ¬ nm j ≤ y) m i)) (nI i) := by
  intro n
  induction n with
  | zero => intro i h1 h2; omega
  | succ n ih =>
    intro i h1 h2 h3
    have c : (nI i).toNatClampNeg = i := nI_clamp (by omega)
    have hl := ef_nxle (Q := fun j => pa j = d ∧ ¬ nm j ≤ y) (m := m) i
    rw [wY_next_30]
    by_cases e : i = 16
    · subst e
      refine br_t (show (16 : Int32) ≤ nI 16 from by decide) ?_
      by_cases z : ef_nx (fun j => pa j = d ∧ ¬ nm j ≤ y) m 16 = 100
      · rw [z, ef_e31] at h
        rw [z]
        exact br_t rfl h
      · rw [ef_e3n z] at h
        exact br_f (fun q => z ((nI_eq (b := 100) (by omega) (by decide)).mp q)) h
    · have v := vp_in_nI (n := i) (N := 16) (by omega) (by decide)
      have w := ih (i + 1) (by omega) (by omega) (by omega)
      have hx := hE i h2 (by omega)
      have hz' := hz i (by omega)
      obtain ⟨hm1, hm2⟩ := hm i (by omega)
      refine br_f (nI_ge (b := 16) (by omega) (by decide)) ⟨v, ?_⟩
      rw [c, nI_clamp (by omega : a < 2 ^ 31), ef_Yv, had]
      by_cases g : kd i = 0
      · rw [ef_nxf (fun z => (hx.mp z.1.1).1 g)] at w
        exact br_t (hz'.mpr g) (nm_r (nI_1 i) w)
      · refine br_f (fun z => g (hz'.mp z)) ⟨v, vp_in_nI ha (by decide), ?_⟩
        by_cases s : iy i = nI d
        · have g' := hx.mpr ⟨g, s⟩
          refine br_t s ⟨v, ?_⟩
          by_cases q : nm i ≤ y
          · rw [ef_nxf (fun z => z.1.2 q)] at w
            exact br_t q (nm_r (nI_1 i) w)
          · refine br_f q ⟨v, ?_⟩
            by_cases t : m i < ef_nx (fun j => pa j = d ∧ ¬ nm j ≤ y) m i
            · rw [ef_nxt (Q := fun j => pa j = d ∧ ¬ nm j ≤ y) ⟨g', q⟩ t, ← hm2] at w
              refine br_f ?_ ⟨v, nm_e (nm_r (nI_1 i) w)⟩
              rw [hm2]
              exact nI_ge t (by omega)
            · rw [ef_nxf (fun z => t z.2)] at w
              refine br_t ?_ (nm_r (nI_1 i) w)
              rw [hm2]
              exact nI_le (by omega) (by omega)
        · rw [ef_nxf (fun z => s (hx.mp z.1.1).2)] at w
          exact br_f s (nm_r (nI_1 i) w)
theorem ef_yNx {post : Int32 → Prop} {a d : Nat} {y : Int32} {m : Nat → Nat} (ha : a < 4) (had : hn a = d) (hz : ∀ j, j < 16 → (kd j ≤ 0 ↔ kd j = 0)) (hE : ∀ j, 1 ≤ j → j < 16 → (pa j = d ↔ (kd j ≠ 0 ∧ iy j = nI d))) (h0 : ¬ pa 0 = d) (hm : ∀ j, j < 16 → m j < 100 ∧ nm j = nI (m j)) (h : post (ef_e3 (ef_nx (fun j => pa j = d ∧ ¬ nm j ≤ y) m 16))) : ∃ n, wY_next_30 post (nI a) y sv kd iy nm cy sk si sn sy dt us (ef_Y hn) n 100 1 := by
  have w := ef_yNx2 (sv := sv) (cy := cy) (sk := sk) (si := si) (sn := sn) (sy := sy) (dt := dt) (us := us) ha had hz hE hm h 17 1 (by omega) (by omega) (by omega)
  rw [ef_nxf (Q := fun j => pa j = d ∧ ¬ nm j ≤ y) (i := 0) (fun z => h0 z.1.1)] at w
  exact ⟨17, w⟩
/-! E: save, crash -/
theorem ef_yS52 {post : Int32 → SY → Prop} (h : post (sv + 1) (sv + 1, kd, iy, nm, cy, sk, si, sn, ef_mix 128 cy sy, dt, us, hy)) : ∀ (n i : Nat), 128 < n + i → i ≤ 128 → wY_save_52 post sv n (nI i) kd iy nm cy sk si sn (ef_mix i cy sy) dt us hy := by
  intro n
  induction n with
  | zero => intro i h1 h2; omega
  | succ n ih =>
    intro i h1 h2
    rw [wY_save_52]
    by_cases e : i = 128
    · subst e
      exact br_t (show (128 : Int32) ≤ nI 128 from by decide) (nm_e h)
    · have v := vp_in_nI (n := i) (N := 128) (by omega) (by decide)
      have w := ih (i + 1) (by omega) (by omega)
      rw [← ef_mixs] at w
      refine br_f (nI_ge (b := 128) (by omega) (by decide)) ⟨v, v, ?_⟩
      rw [nI_clamp (by omega)]
      exact nm_e (nm_r (nI_1 i) w)
theorem ef_yS2 {post : Int32 → SY → Prop} (h : post (sv + 1) (sv + 1, kd, iy, nm, cy, ef_mix 16 kd sk, ef_mix 16 iy si, ef_mix 16 nm sn, ef_mix 128 cy sy, dt, us, hy)) : ∀ (n i : Nat), 16 < n + i → i ≤ 16 → wY_save_2 post sv n (nI i) kd iy nm cy (ef_mix i kd sk) (ef_mix i iy si) (ef_mix i nm sn) sy dt us hy := by
  intro n
  induction n with
  | zero => intro i h1 h2; omega
  | succ n ih =>
    intro i h1 h2
    rw [wY_save_2]
    by_cases e : i = 16
    · subst e
      have w := ef_yS52 h 129 0 (by omega) (by omega)
      rw [ef_mix0] at w
      exact br_t (show (16 : Int32) ≤ nI 16 from by decide) ⟨129, w⟩
    · have v := vp_in_nI (n := i) (N := 16) (by omega) (by decide)
      have w := ih (i + 1) (by omega) (by omega)
      rw [← ef_mixs (f := kd), ← ef_mixs (f := iy), ← ef_mixs (f := nm)] at w
      refine br_f (nI_ge (b := 16) (by omega) (by decide)) ⟨v, v, ?_⟩
      rw [nI_clamp (by omega)]
      exact nm_e ⟨v, v, nm_e ⟨v, v, nm_e (nm_r (nI_1 i) w)⟩⟩
theorem ef_ySv {post : Int32 → SY → Prop} (h : post (sv + 1) (sv + 1, kd, iy, nm, cy, ef_mix 16 kd sk, ef_mix 16 iy si, ef_mix 16 nm sn, ef_mix 128 cy sy, dt, us, hy)) : wpY_save post (sv, kd, iy, nm, cy, sk, si, sn, sy, dt, us, hy) := by
  have w := ef_yS2 h 17 0 (by omega) (by omega)
  rw [ef_mix0, ef_mix0, ef_mix0] at w
  exact ⟨17, w⟩
theorem ef_yC100 {post : Int32 → SY → Prop} (h : post sv (sv, kd, iy, nm, cy, sk, si, sn, sy, dt, us, ef_Y (ef_fr 1 4 16 hn))) : ∀ (n i : Nat), 4 < n + i → 1 ≤ i → i ≤ 4 → wY_crash_100 post sv n (nI i) kd iy nm cy sk si sn sy dt us (ef_Y (ef_fr 1 i 16 hn)) := by
  intro n
  induction n with
  | zero => intro i h1 h2; omega
  | succ n ih =>
    intro i h1 h2 h3
    rw [wY_crash_100]
    by_cases e : i = 4
    · subst e
      exact br_t (show (4 : Int32) ≤ nI 4 from by decide) h
    · have w := ih (i + 1) (by omega) (by omega) (by omega)
      rw [← ef_frs h2, ← ef_Yu] at w
      refine br_f (nI_ge (b := 4) (by omega) (by decide)) ⟨vp_in_nI (by omega) (by decide), ?_⟩
      rw [nI_clamp (by omega)]
      exact nm_e (nm_r (nI_1 i) w)
theorem ef_yC73 {post : Int32 → SY → Prop} (h : post sv (sv, kd, iy, nm, ef_mix 128 sy cy, sk, si, sn, sy, dt, us, ef_Y (ef_fr 1 4 16 hn))) : ∀ (n i : Nat), 128 < n + i → i ≤ 128 → wY_crash_73 post sv n (nI i) kd iy nm (ef_mix i sy cy) sk si sn sy dt us (ef_Y hn) := by
  intro n
  induction n with
  | zero => intro i h1 h2; omega
  | succ n ih =>
    intro i h1 h2
    rw [wY_crash_73]
    by_cases e : i = 128
    · subst e
      have w := ef_yC100 h 5 1 (by omega) (by omega) (by omega)
      rw [ef_fr0] at w
      exact br_t (show (128 : Int32) ≤ nI 128 from by decide) ⟨5, w⟩
    · have v := vp_in_nI (n := i) (N := 128) (by omega) (by decide)
      have w := ih (i + 1) (by omega) (by omega)
      rw [← ef_mixs] at w
      refine br_f (nI_ge (b := 128) (by omega) (by decide)) ⟨v, v, ?_⟩
      rw [nI_clamp (by omega)]
      exact nm_e (nm_r (nI_1 i) w)
theorem ef_yC23 {post : Int32 → SY → Prop} (h : post sv (sv, ef_mix 16 sk kd, ef_mix 16 si iy, ef_mix 16 sn nm, ef_mix 128 sy cy, sk, si, sn, sy, dt, us, ef_Y (ef_fr 1 4 16 hn))) : ∀ (n i : Nat), 16 < n + i → i ≤ 16 → wY_crash_23 post sv n (nI i) (ef_mix i sk kd) (ef_mix i si iy) (ef_mix i sn nm) cy sk si sn sy dt us (ef_Y hn) := by
  intro n
  induction n with
  | zero => intro i h1 h2; omega
  | succ n ih =>
    intro i h1 h2
    rw [wY_crash_23]
    by_cases e : i = 16
    · subst e
      have w := ef_yC73 h 129 0 (by omega) (by omega)
      rw [ef_mix0] at w
      exact br_t (show (16 : Int32) ≤ nI 16 from by decide) ⟨129, w⟩
    · have v := vp_in_nI (n := i) (N := 16) (by omega) (by decide)
      have w := ih (i + 1) (by omega) (by omega)
      rw [← ef_mixs (f := sk), ← ef_mixs (f := si), ← ef_mixs (f := sn)] at w
      refine br_f (nI_ge (b := 16) (by omega) (by decide)) ⟨v, v, ?_⟩
      rw [nI_clamp (by omega)]
      exact nm_e ⟨v, v, nm_e ⟨v, v, nm_e (nm_r (nI_1 i) w)⟩⟩
theorem ef_yC23' {post : Int32 → SY → Prop} (h : post sv (sv, ef_mix 16 sk kd, ef_mix 16 si iy, ef_mix 16 sn nm, ef_mix 128 sy cy, sk, si, sn, sy, dt, us, ef_Y (ef_fr 1 4 16 hn))) : ∃ n, wY_crash_23 post sv n 0 kd iy nm cy sk si sn sy dt us (ef_Y hn) := by
  have w := ef_yC23 h 17 0 (by omega) (by omega)
  rw [ef_mix0, ef_mix0, ef_mix0] at w
  exact ⟨17, w⟩
end EFY
end
section
/-! the relation, and what its cases share -/
def i_Rel (_ : Nat) (u : SX) (v : SY) : Prop := ∃ (sv : Int32) (kd iy nm sk si sn dt us : Nat → Int32) (pa cp spa scp hn : Nat → Nat), u = (sv, kd, ef_X 16 pa, nm, ef_X 24 cp, sk, ef_X 16 spa, sn, ef_X 24 scp, dt, ef_X 16 hn) ∧ v = (sv, kd, iy, nm, ef_Y cp, sk, si, sn, ef_Y scp, dt, us, ef_Y hn) ∧ ef_St kd iy nm pa cp ∧ ef_St sk si sn spa scp ∧ (∀ j, j < 4 → hn j ≤ 16)
theorem i_up {k : Nat} {u : SX} {v : SY} (h : i_Rel k u v) : i_Rel (k + 5) u v := h
section EFR
variable {sv : Int32} {kd iy nm sk si sn dt us pr cx cy sp sc sy no hy : Nat → Int32} {pa cp spa scp hn : Nat → Nat}
theorem ef_mk {k : Nat} (S : ef_St kd iy nm pa cp) (T : ef_St sk si sn spa scp) (H : ∀ j, j < 4 → hn j ≤ 16) : i_Rel k (sv, kd, ef_X 16 pa, nm, ef_X 24 cp, sk, ef_X 16 spa, sn, ef_X 24 scp, dt, ef_X 16 hn) (sv, kd, iy, nm, ef_Y cp, sk, si, sn, ef_Y scp, dt, us, ef_Y hn) :=
  ⟨sv, kd, iy, nm, sk, si, sn, dt, us, pa, cp, spa, scp, hn, rfl, rfl, S, T, H⟩
theorem ef_Hu (H : ∀ j, j < 4 → hn j ≤ 16) {a r : Nat} (hr : r ≤ 16) : ∀ j, j < 4 → ef_un hn a r j ≤ 16 := by
  intro j hj
  by_cases e : j = a
  · rw [e, ef_uns]; exact hr
  · rw [ef_unn e]; exact H j hj
theorem ef_Hf (H : ∀ j, j < 4 → hn j ≤ 16) : ∀ j, j < 4 → ef_fr 1 4 16 hn j ≤ 16 := by
  intro j hj
  by_cases e : 1 ≤ j ∧ j < 4
  · rw [ef_frt e.1 e.2]; exact Nat.le_refl _
  · rw [ef_frf e]; exact H j hj
/-! A: faults, a case each -/
theorem ef_xDFa {post : Int32 → Prop} {j : Nat} (hj : j < 4) (e : hn j = 16) (h : post (-3)) : wpX_directoryFault post (sv, kd, pr, nm, cx, sk, sp, sn, sc, dt, ef_X 16 hn) (nI j) :=
  ef_xDF hj (by omega) (fun _ => h) (fun z => absurd z (by omega)) (fun z => absurd z (by omega))
theorem ef_xDFb {post : Int32 → Prop} {j : Nat} (hj : j < 4) (e : hn j < 16) (g : ¬ kd (hn j) = 1) (h : post (-4)) : wpX_directoryFault post (sv, kd, pr, nm, cx, sk, sp, sn, sc, dt, ef_X 16 hn) (nI j) :=
  ef_xDF hj (by omega) (fun z => absurd z (by omega)) (fun _ z => absurd z g) (fun _ _ => h)
theorem ef_xDFc {post : Int32 → Prop} {j : Nat} (hj : j < 4) (e : hn j < 16) (g : kd (hn j) = 1) (h : post 0) : wpX_directoryFault post (sv, kd, pr, nm, cx, sk, sp, sn, sc, dt, ef_X 16 hn) (nI j) :=
  ef_xDF hj (by omega) (fun z => absurd z (by omega)) (fun _ _ => h) (fun _ z => absurd g z)
theorem ef_xFFa {post : Int32 → Prop} {j : Nat} (hj : j < 4) (e : hn j = 16) (h : post (-3)) : wpX_fileFault post (sv, kd, pr, nm, cx, sk, sp, sn, sc, dt, ef_X 16 hn) (nI j) :=
  ef_xFF hj (by omega) (fun _ => h) (fun z => absurd z (by omega)) (fun z => absurd z (by omega))
theorem ef_xFFb {post : Int32 → Prop} {j : Nat} (hj : j < 4) (e : hn j < 16) (g : ¬ kd (hn j) = 2) (h : post (-4)) : wpX_fileFault post (sv, kd, pr, nm, cx, sk, sp, sn, sc, dt, ef_X 16 hn) (nI j) :=
  ef_xFF hj (by omega) (fun z => absurd z (by omega)) (fun _ z => absurd z g) (fun _ _ => h)
theorem ef_xFFc {post : Int32 → Prop} {j : Nat} (hj : j < 4) (e : hn j < 16) (g : kd (hn j) = 2) (h : post 0) : wpX_fileFault post (sv, kd, pr, nm, cx, sk, sp, sn, sc, dt, ef_X 16 hn) (nI j) :=
  ef_xFF hj (by omega) (fun z => absurd z (by omega)) (fun _ _ => h) (fun _ z => absurd g z)
theorem ef_yWa {post : Int32 → Prop} {j : Nat} {t : Int32} (hj : j < 4) (e : hn j = 16) (h : post (-3)) : wpY_want post (sv, kd, iy, nm, cy, sk, si, sn, sy, dt, us, ef_Y hn) (nI j) t :=
  ef_yW hj (by omega) (fun _ => h) (fun z => absurd z (by omega)) (fun z => absurd z (by omega))
theorem ef_yWb {post : Int32 → Prop} {j : Nat} {t : Int32} (hj : j < 4) (e : hn j < 16) (g : ¬ kd (hn j) = t) (h : post (-4)) : wpY_want post (sv, kd, iy, nm, cy, sk, si, sn, sy, dt, us, ef_Y hn) (nI j) t :=
  ef_yW hj (by omega) (fun z => absurd z (by omega)) (fun _ z => absurd z g) (fun _ _ => h)
theorem ef_yWc {post : Int32 → Prop} {j : Nat} {t : Int32} (hj : j < 4) (e : hn j < 16) (g : kd (hn j) = t) (h : post 0) : wpY_want post (sv, kd, iy, nm, cy, sk, si, sn, sy, dt, us, ef_Y hn) (nI j) t :=
  ef_yW hj (by omega) (fun z => absurd z (by omega)) (fun _ _ => h) (fun _ z => absurd g z)
/-! B: an entry found, by both -/
theorem ef_find (S : ef_St kd iy nm pa cp) {d : Nat} (hd : d < 16) (y : Int32) : ∃ r, 1 ≤ r ∧ r ≤ 16 ∧ (r < 16 → pa r = d ∧ nm r = y) ∧
    (∀ (post : Int32 → Prop) (sv : Int32) (cx sk sp sn sc dt no : Nat → Int32), post (ef_enc 16 r) → wpX_entryOf post (sv, kd, ef_X 16 pa, nm, cx, sk, sp, sn, sc, dt, no) (nI d) y) ∧
    (∀ (post : Int32 → Prop) (sv : Int32) (cy sk si sn sy dt us hy : Nat → Int32), post (nI r) → wpY_find post (sv, kd, iy, nm, cy, sk, si, sn, sy, dt, us, hy) (nI d) y) := by
  obtain ⟨r, h1, h2, h3, h4⟩ := ef_least (fun j => pa j = d ∧ nm j = y) 0 16 (by omega)
  have h5 : 1 ≤ r := by
    apply Nat.le_of_not_lt
    intro z
    have e : r = 0 := by omega
    rw [e] at h3
    exact ef_St_top S hd (h3 (by omega)).1
  have h6 : ∀ j, j < r → ¬ (pa j = d ∧ nm j = y) := fun j hj => h4 j (Nat.zero_le j) hj
  exact ⟨r, h5, h2, h3, fun post sv cx sk sp sn sc dt no h => ef_xEnt (fun j hj => ef_St_pa S hj) hd h2 h3 h6 h, fun post sv cy sk si sn sy dt us hy h => ef_yFd (fun j hj => ef_St_pos S hj) (fun j j1 j2 => ef_St_ent S j2 hd j1) h5 h2 h3 h6 h⟩
/-! C: names, handles as values -/
theorem ef_yNm1 {A B : Prop} (b : B) : ((-1 : Int32) < -1 → A) ∧ (¬ (-1 : Int32) < -1 → (((-1 : Int32) ≤ 99 → B) ∧ (¬ (-1 : Int32) ≤ 99 → A))) :=
  br_f (by decide) (br_t (by decide) b)
theorem ef_yNm2 {A B : Prop} {m : Nat} (hm : m < 100) (b : B) : (nI m < -1 → A) ∧ (¬ nI m < -1 → ((nI m ≤ 99 → B) ∧ (¬ nI m ≤ 99 → A))) :=
  br_f (fun z => nI_pos (n := m) (by omega) (Int32.lt_trans z (by decide))) (br_t (nI_le (b := 99) (by omega) (by decide)) b)
theorem ef_yNm0 {A B : Prop} {x : Int32} (h1 : ¬ x = -1) (h2 : ¬ ∃ m, m < 100 ∧ x = nI m) (a : A) : (x < -1 → A) ∧ (¬ x < -1 → ((x ≤ 99 → B) ∧ (¬ x ≤ 99 → A))) := by
  by_cases g : x < -1
  · exact br_t g a
  · have h0 : ¬ x < 0 := by
      intro z
      apply h1
      apply Int32.toInt_inj.mp
      rw [Int32.lt_iff_toInt_lt] at g z
      have e1 : ((-1 : Int32)).toInt = -1 := by decide
      have e0 : ((0 : Int32)).toInt = 0 := by decide
      rw [e1] at g ⊢
      rw [e0] at z
      omega
    obtain ⟨m, g1, g2, e⟩ := ef_out h2 h0
    exact br_f g (br_f (by rw [e]; exact nI_ge (a := 99) (by omega) g2) a)
theorem ef_nXh {d : Nat} (hd : d < 4) (e : hn d ≠ 16) : ef_X 16 hn (nI d).toNatClampNeg = nI (hn d) := by
  rw [nI_clamp (by omega)]; exact ef_encN e
theorem ef_nX16 {d : Nat} (hd : d < 4) (e : hn d = 16) : ef_X 16 hn (nI d).toNatClampNeg = -1 := by
  rw [nI_clamp (by omega)]
  show ef_enc 16 (hn d) = -1
  rw [e, ef_encB]
theorem ef_nYh {d : Nat} (hd : d < 4) : ef_Y hn (nI d).toNatClampNeg = nI (hn d) := by
  rw [nI_clamp (by omega)]; rfl
theorem ef_nY16 {d : Nat} (hd : d < 4) (e : hn d = 16) : ef_Y hn (nI d).toNatClampNeg = 16 := by
  rw [ef_nYh hd, e]; rfl
theorem ef_n16 {r : Nat} (h : r < 16) : ¬ nI r = 16 := fun z => absurd ((nI_eq (b := 16) (by omega) (by decide)).mp z) (by omega)
theorem ef_nY0 {d : Nat} (hd : d < 4) (e : hn d < 16) : ¬ ef_Y hn (nI d).toNatClampNeg = 16 := by
  rw [ef_nYh hd]; exact ef_n16 e
theorem ef_cl {d N : Nat} (h : d < N) (hN : N ≤ 128) : (nI d).toNatClampNeg = d := nI_clamp (by omega)
theorem ef_xun {B a r : Nat} (ha : a < 128) (hr : r ≠ B) : upd (ef_X B hn) (nI a).toNatClampNeg (nI r) = ef_X B (ef_un hn a r) := by
  rw [nI_clamp (by omega), ← ef_encN hr, ef_Xu]
theorem ef_yun {a r : Nat} (ha : a < 128) : upd (ef_Y hn) (nI a).toNatClampNeg (nI r) = ef_Y (ef_un hn a r) := by
  rw [nI_clamp (by omega), ef_Yu]
end EFR
end
section
/-! opening a handle -/
section EFT
variable {sv : Int32} {kd iy nm sk si sn dt us : Nat → Int32} {pa cp spa scp hn : Nat → Nat}
/-! A: its cases -/
theorem ef_open (k : Nat) (S : ef_St kd iy nm pa cp) (T : ef_St sk si sn spa scp) (H : ∀ j, j < 4 → hn j ≤ 16) (v1 v2 v3 : Int32) : ∃ r u' v',
    (∀ post : Int32 → SX → Prop, post r u' → wpX_open post (sv, kd, ef_X 16 pa, nm, ef_X 24 cp, sk, ef_X 16 spa, sn, ef_X 24 scp, dt, ef_X 16 hn) v1 v2 v3) ∧
    (∀ post : Int32 → SY → Prop, post r v' → wpY_open post (sv, kd, iy, nm, ef_Y cp, sk, si, sn, ef_Y scp, dt, us, ef_Y hn) v1 v2 v3) ∧ i_Rel k u' v' := by
  by_cases A : ∃ j, 1 ≤ j ∧ j < 4 ∧ v1 = nI j
  · obtain ⟨a, a1, a4, rfl⟩ := A
    by_cases D : ∃ j, j < 4 ∧ v2 = nI j
    · obtain ⟨d, d4, rfl⟩ := D
      have vd := vp_in_nI (n := d) (N := 4) d4 (by decide)
      have va := vp_in_nI (n := a) (N := 4) a4 (by decide)
      have Hd := H d d4
      by_cases N1 : v3 = -1
      · subst N1
        by_cases e : hn d = 16
        · exact ⟨-3, _, _, fun post h => by unfold wpX_open; exact ef_xF1 a1 a4 (br_f (by decide) (ef_xH1 d4 (br_f (by decide) (br_t rfl ⟨vd, nm_r (ef_nX16 d4 e) (br_t rfl h)⟩)))),
            fun post h => by unfold wpY_open; exact ef_yF1 a1 a4 (ef_yH1 d4 (br_f (by decide) (ef_yNm1 ⟨vd, br_t (ef_nY16 d4 e) h⟩))), ef_mk S T H⟩
        · exact ⟨0, _, _, fun post h => by unfold wpX_open; exact ef_xF1 a1 a4 (br_f (by decide) (ef_xH1 d4 (br_f (by decide) (br_t rfl ⟨vd, nm_r (ef_nXh d4 e) (br_f (ef_nn1 (by omega)) (br_t rfl ⟨va, nm_r (ef_xun (by omega) e) h⟩))⟩)))),
            fun post h => by unfold wpY_open; exact ef_yF1 a1 a4 (ef_yH1 d4 (br_f (by decide) (ef_yNm1 ⟨vd, br_f (ef_nY0 d4 (by omega)) (br_t rfl ⟨vd, va, nm_r (by rw [ef_nYh d4]; exact ef_yun (by omega)) h⟩)⟩))), ef_mk S T (ef_Hu H Hd)⟩
      · by_cases N2 : ∃ m, m < 100 ∧ v3 = nI m
        · obtain ⟨m, hm, rfl⟩ := N2
          by_cases e : hn d = 16
          · exact ⟨-3, _, _, fun post h => by unfold wpX_open; exact ef_xF1 a1 a4 (br_f (by decide) (ef_xH1 d4 (br_f (by decide) (br_f N1 (ef_xN1 hm (br_f (by decide) ⟨vd, nm_r (ef_nX16 d4 e) (br_t rfl h)⟩)))))),
              fun post h => by unfold wpY_open; exact ef_yF1 a1 a4 (ef_yH1 d4 (br_f (by decide) (ef_yNm2 hm ⟨vd, br_t (ef_nY16 d4 e) h⟩))), ef_mk S T H⟩
          · have ed : hn d < 16 := by omega
            have vh := vp_in_nI (n := hn d) (N := 16) ed (by decide)
            have ch := ef_cl ed (by omega)
            by_cases g : kd (hn d) = 1
            · obtain ⟨r, r1, r2, r3, fX, fY⟩ := ef_find S ed (nI m)
              by_cases er : r = 16
              · subst er
                exact ⟨-3, _, _, fun post h => by unfold wpX_open; exact ef_xF1 a1 a4 (br_f (by decide) (ef_xH1 d4 (br_f (by decide) (br_f N1 (ef_xN1 hm (br_f (by decide) ⟨vd, nm_r (ef_nXh d4 e) (br_f (ef_nn1 (by omega)) (br_f N1 ⟨vh, br_t (by rw [ch]; exact g) (fX _ _ _ _ _ _ _ _ _ (br_t rfl h))⟩))⟩)))))),
                  fun post h => by unfold wpY_open; exact ef_yF1 a1 a4 (ef_yH1 d4 (br_f (by decide) (ef_yNm2 hm ⟨vd, br_f (ef_nY0 d4 ed) (br_f N1 ⟨vd, by rw [ef_nYh d4]; exact ⟨vh, br_t (by rw [ch]; exact g) ⟨vd, fY _ _ _ _ _ _ _ _ _ _ (br_t rfl h)⟩⟩⟩)⟩))), ef_mk S T H⟩
              · have er' : r < 16 := by omega
                exact ⟨0, _, _, fun post h => by unfold wpX_open; exact ef_xF1 a1 a4 (br_f (by decide) (ef_xH1 d4 (br_f (by decide) (br_f N1 (ef_xN1 hm (br_f (by decide) ⟨vd, nm_r (ef_nXh d4 e) (br_f (ef_nn1 (by omega)) (br_f N1 ⟨vh, br_t (by rw [ch]; exact g) (fX _ _ _ _ _ _ _ _ _ (by rw [ef_encN er]; exact br_f (ef_nn1 (by omega)) ⟨va, nm_r (ef_xun (by omega) er) h⟩))⟩))⟩)))))),
                  fun post h => by unfold wpY_open; exact ef_yF1 a1 a4 (ef_yH1 d4 (br_f (by decide) (ef_yNm2 hm ⟨vd, br_f (ef_nY0 d4 ed) (br_f N1 ⟨vd, by rw [ef_nYh d4]; exact ⟨vh, br_t (by rw [ch]; exact g) ⟨vd, fY _ _ _ _ _ _ _ _ _ _ (br_f (ef_n16 er') ⟨va, nm_r (ef_yun (by omega)) h⟩)⟩⟩⟩)⟩))), ef_mk S T (ef_Hu H r2)⟩
            · exact ⟨-4, _, _, fun post h => by unfold wpX_open; exact ef_xF1 a1 a4 (br_f (by decide) (ef_xH1 d4 (br_f (by decide) (br_f N1 (ef_xN1 hm (br_f (by decide) ⟨vd, nm_r (ef_nXh d4 e) (br_f (ef_nn1 (by omega)) (br_f N1 ⟨vh, br_f (by rw [ch]; exact g) h⟩))⟩)))))),
                fun post h => by unfold wpY_open; exact ef_yF1 a1 a4 (ef_yH1 d4 (br_f (by decide) (ef_yNm2 hm ⟨vd, br_f (ef_nY0 d4 ed) (br_f N1 ⟨vd, by rw [ef_nYh d4]; exact ⟨vh, br_f (by rw [ch]; exact g) h⟩⟩)⟩))), ef_mk S T H⟩
        · exact ⟨-1, _, _, fun post h => by unfold wpX_open; exact ef_xF1 a1 a4 (br_f (by decide) (ef_xH1 d4 (br_f (by decide) (br_f N1 (ef_xN0 N2 (br_t rfl h)))))),
            fun post h => by unfold wpY_open; exact ef_yF1 a1 a4 (ef_yH1 d4 (br_f (by decide) (ef_yNm0 N1 N2 h))), ef_mk S T H⟩
    · exact ⟨-1, _, _, fun post h => by unfold wpX_open; exact ef_xF1 a1 a4 (br_f (by decide) (ef_xH0 D (br_t rfl h))),
        fun post h => by unfold wpY_open; exact ef_yF1 a1 a4 (ef_yH0 D (br_t rfl h)), ef_mk S T H⟩
  · exact ⟨-1, _, _, fun post h => by unfold wpX_open; exact ef_xF0 A (br_t rfl h), fun post h => by unfold wpY_open; exact ef_yF0 A h, ef_mk S T H⟩
theorem i_vc_open {k : Nat} {u : SX} {v : SY} (I : i_Rel k u v) (hk : k + 5 ≤ 2560) (v1 : Int32) (v2 : Int32) (v3 : Int32) : wpX_open (fun r u' => wpY_open (fun r' v' => r' = r ∧ i_Rel (k + 5) u' v') v v1 v2 v3) u v1 v2 v3 := by
  obtain ⟨sv, kd, iy, nm, sk, si, sn, dt, us, pa, cp, spa, scp, hn, rfl, rfl, S, T, H⟩ := I
  obtain ⟨r, u', v', hX, hY, R⟩ := ef_open (sv := sv) (dt := dt) (us := us) (k + 5) S T H v1 v2 v3
  exact hX _ (hY _ ⟨rfl, R⟩)
end EFT
end
section
/-! make, erase -/
section EFT
variable {sv : Int32} {kd iy nm sk si sn dt us pr cx sp sc cy sy : Nat → Int32} {pa cp spa scp hn : Nat → Nat}
/-! A: make -/
theorem ef_xM91 {post : Int32 → SX → Prop} {a f d : Nat} {y t : Int32} (ha : a < 4) (hf : f < 16) (hd : d < 16) (h : post 0 (sv, upd kd f t, ef_X 16 (ef_un pa f d), upd nm f y, cx, sk, sp, sn, sc, dt, ef_X 16 (ef_un hn a f))) : wX_make_91 post (nI a) y (nI d) (nI f) t (nI f) sv kd (ef_X 16 pa) nm cx sk sp sn sc dt (ef_X 16 hn) := by
  have vf := vp_in_nI (n := f) (N := 16) hf (by decide)
  have cf := ef_cl hf (by omega)
  exact ⟨vf, nm_r (by rw [cf]) ⟨vf, nm_r (ef_xun (by omega) (by omega)) ⟨vf, nm_r (by rw [cf]) ⟨vp_in_nI ha (by decide), nm_r (ef_xun (by omega) (by omega)) h⟩⟩⟩⟩
theorem ef_yM124 {post : Int32 → SY → Prop} {a f d : Nat} {y t : Int32} (ha : a < 4) (hf : f < 16) (hd : d < 4) (h : post 0 (sv, upd kd f t, upd iy f (nI (hn d)), upd nm f y, ef_Y (ef_fr (8 * f) (8 * f + 8) 24 cp), sk, si, sn, sy, dt, us, ef_Y (ef_un hn a f))) : wY_make_124 post (nI a) (nI d) y (nI f) t (nI f) sv kd iy nm (ef_Y cp) sk si sn sy dt us (ef_Y hn) := by
  have vf := vp_in_nI (n := f) (N := 16) hf (by decide)
  have cf := ef_cl hf (by omega)
  have w := ef_yM149 ha hf h 9 0 (by omega) (by omega)
  rw [show 8 * f + 0 = 8 * f from rfl, ef_fr0] at w
  exact ⟨vf, nm_r (by rw [cf]) ⟨vp_in_nI hd (by decide), vf, nm_r (by rw [cf, ef_nYh hd]) ⟨vf, nm_r (by rw [cf]) ⟨9, w⟩⟩⟩⟩
theorem ef_make (k : Nat) (S : ef_St kd iy nm pa cp) (T : ef_St sk si sn spa scp) (H : ∀ j, j < 4 → hn j ≤ 16) (v1 v2 v3 b : Int32) : ∃ r u' v',
    (∀ post : Int32 → SX → Prop, post r u' → wpX_make post (sv, kd, ef_X 16 pa, nm, ef_X 24 cp, sk, ef_X 16 spa, sn, ef_X 24 scp, dt, ef_X 16 hn) v1 v2 v3 b) ∧
    (∀ post : Int32 → SY → Prop, post r v' → wpY_make post (sv, kd, iy, nm, ef_Y cp, sk, si, sn, ef_Y scp, dt, us, ef_Y hn) v1 v2 v3 b) ∧ i_Rel k u' v' := by
  by_cases A : ∃ j, 1 ≤ j ∧ j < 4 ∧ v1 = nI j
  · obtain ⟨a, a1, a4, rfl⟩ := A
    by_cases D : ∃ j, j < 4 ∧ v2 = nI j
    · obtain ⟨d, d4, rfl⟩ := D
      have vd := vp_in_nI (n := d) (N := 4) d4 (by decide)
      have Hd := H d d4
      by_cases N2 : ∃ m, m < 100 ∧ v3 = nI m
      · obtain ⟨m, hm, rfl⟩ := N2
        by_cases e : hn d = 16
        · exact ⟨-3, _, _, fun post h => by unfold wpX_make; exact ef_xF1 a1 a4 (br_f (by decide) (ef_xH1 d4 (br_f (by decide) (ef_xN1 hm (br_f (by decide) (ef_xDFa d4 e (br_f (by decide) h))))))),
            fun post h => by unfold wpY_make; exact ef_yF1 a1 a4 (ef_yH1 d4 (br_f (by decide) (ef_yN1 hm (br_f (by decide) (ef_yWa d4 e (br_f (by decide) h)))))), ef_mk S T H⟩
        · have ed : hn d < 16 := by omega
          by_cases g : kd (hn d) = 1
          · obtain ⟨r, r1, r2, r3, fX, fY⟩ := ef_find S ed (nI m)
            by_cases er : r = 16
            · subst er
              obtain ⟨f, f1, f2, f3, f4⟩ := ef_least (fun j => kd j = 0) 0 16 (by omega)
              have f5 : ∀ j, j < f → ¬ kd j = 0 := fun j hj => f4 j (Nat.zero_le j) hj
              by_cases ef : f = 16
              · subst ef
                have cn : ef_cn (fun j => kd j ≠ 0) 16 = 16 := ef_cna f5
                exact ⟨-2, _, _, fun post h => by unfold wpX_make; exact ef_xF1 a1 a4 (br_f (by decide) (ef_xH1 d4 (br_f (by decide) (ef_xN1 hm (br_f (by decide) (ef_xDFc d4 ed g (br_t rfl ⟨vd, nm_r (ef_nXh d4 e) (fX _ _ _ _ _ _ _ _ _ (br_t rfl (ef_xFN f2 f3 f5 (br_t rfl h))))⟩))))))),
                  fun post h => by unfold wpY_make; exact ef_yF1 a1 a4 (ef_yH1 d4 (br_f (by decide) (ef_yN1 hm (br_f (by decide) (ef_yWc d4 ed g (br_t rfl ⟨vd, by rw [ef_nYh d4]; exact fY _ _ _ _ _ _ _ _ _ _ (br_t (by decide) (ef_yNo (fun j hj => ef_St_pos S hj) (by rw [cn]; exact br_t rfl h)))⟩)))))), ef_mk S T H⟩
              · have ef' : f < 16 := by omega
                have f0 : kd f = 0 := f3 ef'
                have f6 : 1 ≤ f := by
                  apply Nat.le_of_not_lt
                  intro z
                  have e0 : f = 0 := by omega
                  rw [e0, S.1] at f0
                  exact absurd f0 (by decide)
                have cn : ef_cn (fun j => kd j ≠ 0) 16 < 16 := ef_cnl ef' (fun z => z f0)
                by_cases b0 : b = 0
                · have S' := ef_St_make S ef' f0 ed g hm (Or.inr (rfl : (2 : Int32) = 2))
                  have w := fun (post : Int32 → SY → Prop) h => ef_yM124 (post := post) (sv := sv) (kd := kd) (iy := iy) (nm := nm) (sk := sk) (si := si) (sn := sn) (sy := ef_Y scp) (dt := dt) (us := us) (cp := cp) (hn := hn) (y := nI m) (t := 2) a4 ef' d4 h
                  rw [S'.2] at w
                  exact ⟨0, _, _, fun post h => by unfold wpX_make; exact ef_xF1 a1 a4 (br_f (by decide) (ef_xH1 d4 (br_f (by decide) (ef_xN1 hm (br_f (by decide) (ef_xDFc d4 ed g (br_t rfl ⟨vd, nm_r (ef_nXh d4 e) (fX _ _ _ _ _ _ _ _ _ (br_t rfl (ef_xFN f2 f3 f5 (by rw [ef_encN ef]; exact br_f (ef_nn1 (by omega)) (br_t b0 (ef_xM91 a4 ef' ed h))))))⟩))))))),
                    fun post h => by unfold wpY_make; exact ef_yF1 a1 a4 (ef_yH1 d4 (br_f (by decide) (ef_yN1 hm (br_f (by decide) (ef_yWc d4 ed g (br_t rfl ⟨vd, by rw [ef_nYh d4]; exact fY _ _ _ _ _ _ _ _ _ _ (br_t (by decide) (ef_yNo (fun j hj => ef_St_pos S hj) (br_f (ef_n16 cn) ⟨16, ef_yM83 f6 f2 f3 (fun j _ hj => f5 j hj) (br_t b0 (w post h)) 16 15 (by omega) (by omega) 16 (fun z => absurd z (by omega))⟩)))⟩)))))), ef_mk S'.1 T (ef_Hu H (by omega))⟩
                · have S' := ef_St_make S ef' f0 ed g hm (Or.inl (rfl : (1 : Int32) = 1))
                  have w := fun (post : Int32 → SY → Prop) h => ef_yM124 (post := post) (sv := sv) (kd := kd) (iy := iy) (nm := nm) (sk := sk) (si := si) (sn := sn) (sy := ef_Y scp) (dt := dt) (us := us) (cp := cp) (hn := hn) (y := nI m) (t := 1) a4 ef' d4 h
                  rw [S'.2] at w
                  exact ⟨0, _, _, fun post h => by unfold wpX_make; exact ef_xF1 a1 a4 (br_f (by decide) (ef_xH1 d4 (br_f (by decide) (ef_xN1 hm (br_f (by decide) (ef_xDFc d4 ed g (br_t rfl ⟨vd, nm_r (ef_nXh d4 e) (fX _ _ _ _ _ _ _ _ _ (br_t rfl (ef_xFN f2 f3 f5 (by rw [ef_encN ef]; exact br_f (ef_nn1 (by omega)) (br_f b0 (ef_xM91 a4 ef' ed h))))))⟩))))))),
                    fun post h => by unfold wpY_make; exact ef_yF1 a1 a4 (ef_yH1 d4 (br_f (by decide) (ef_yN1 hm (br_f (by decide) (ef_yWc d4 ed g (br_t rfl ⟨vd, by rw [ef_nYh d4]; exact fY _ _ _ _ _ _ _ _ _ _ (br_t (by decide) (ef_yNo (fun j hj => ef_St_pos S hj) (br_f (ef_n16 cn) ⟨16, ef_yM83 f6 f2 f3 (fun j _ hj => f5 j hj) (br_f b0 (w post h)) 16 15 (by omega) (by omega) 16 (fun z => absurd z (by omega))⟩)))⟩)))))), ef_mk S'.1 T (ef_Hu H (by omega))⟩
            · have er' : r < 16 := by omega
              exact ⟨-5, _, _, fun post h => by unfold wpX_make; exact ef_xF1 a1 a4 (br_f (by decide) (ef_xH1 d4 (br_f (by decide) (ef_xN1 hm (br_f (by decide) (ef_xDFc d4 ed g (br_t rfl ⟨vd, nm_r (ef_nXh d4 e) (fX _ _ _ _ _ _ _ _ _ (by rw [ef_encN er]; exact br_f (ef_nn1 (by omega)) h))⟩))))))),
                fun post h => by unfold wpY_make; exact ef_yF1 a1 a4 (ef_yH1 d4 (br_f (by decide) (ef_yN1 hm (br_f (by decide) (ef_yWc d4 ed g (br_t rfl ⟨vd, by rw [ef_nYh d4]; exact fY _ _ _ _ _ _ _ _ _ _ (br_f (nI_ge (b := 16) er' (by decide)) h)⟩)))))), ef_mk S T H⟩
          · exact ⟨-4, _, _, fun post h => by unfold wpX_make; exact ef_xF1 a1 a4 (br_f (by decide) (ef_xH1 d4 (br_f (by decide) (ef_xN1 hm (br_f (by decide) (ef_xDFb d4 ed g (br_f (by decide) h))))))),
              fun post h => by unfold wpY_make; exact ef_yF1 a1 a4 (ef_yH1 d4 (br_f (by decide) (ef_yN1 hm (br_f (by decide) (ef_yWb d4 ed g (br_f (by decide) h)))))), ef_mk S T H⟩
      · exact ⟨-1, _, _, fun post h => by unfold wpX_make; exact ef_xF1 a1 a4 (br_f (by decide) (ef_xH1 d4 (br_f (by decide) (ef_xN0 N2 (br_t rfl h))))),
          fun post h => by unfold wpY_make; exact ef_yF1 a1 a4 (ef_yH1 d4 (br_f (by decide) (ef_yN0 N2 (br_t rfl h)))), ef_mk S T H⟩
    · exact ⟨-1, _, _, fun post h => by unfold wpX_make; exact ef_xF1 a1 a4 (br_f (by decide) (ef_xH0 D (br_t rfl h))),
        fun post h => by unfold wpY_make; exact ef_yF1 a1 a4 (ef_yH0 D (br_t rfl h)), ef_mk S T H⟩
  · exact ⟨-1, _, _, fun post h => by unfold wpX_make; exact ef_xF0 A (br_t rfl h), fun post h => by unfold wpY_make; exact ef_yF0 A h, ef_mk S T H⟩
theorem i_vc_make {k : Nat} {u : SX} {v : SY} (I : i_Rel k u v) (hk : k + 5 ≤ 2560) (v1 : Int32) (v2 : Int32) (v3 : Int32) (v4 : Int32) : wpX_make (fun r u' => wpY_make (fun r' v' => r' = r ∧ i_Rel (k + 5) u' v') v v1 v2 v3 (lw_bz v4)) u v1 v2 v3 (lw_bz v4) := by
  obtain ⟨sv, kd, iy, nm, sk, si, sn, dt, us, pa, cp, spa, scp, hn, rfl, rfl, S, T, H⟩ := I
  obtain ⟨r, u', v', hX, hY, R⟩ := ef_make (sv := sv) (dt := dt) (us := us) (k + 5) S T H v1 v2 v3 (lw_bz v4)
  exact hX _ (hY _ ⟨rfl, R⟩)
/-! B: erase -/
theorem ef_erase (k : Nat) (S : ef_St kd iy nm pa cp) (T : ef_St sk si sn spa scp) (H : ∀ j, j < 4 → hn j ≤ 16) (v1 v2 : Int32) : ∃ r u' v',
    (∀ post : Int32 → SX → Prop, post r u' → wpX_erase post (sv, kd, ef_X 16 pa, nm, ef_X 24 cp, sk, ef_X 16 spa, sn, ef_X 24 scp, dt, ef_X 16 hn) v1 v2) ∧
    (∀ post : Int32 → SY → Prop, post r v' → wpY_erase post (sv, kd, iy, nm, ef_Y cp, sk, si, sn, ef_Y scp, dt, us, ef_Y hn) v1 v2) ∧ i_Rel k u' v' := by
  by_cases D : ∃ j, j < 4 ∧ v1 = nI j
  · obtain ⟨d, d4, rfl⟩ := D
    have vd := vp_in_nI (n := d) (N := 4) d4 (by decide)
    have Hd := H d d4
    by_cases N2 : ∃ m, m < 100 ∧ v2 = nI m
    · obtain ⟨m, hm, rfl⟩ := N2
      by_cases e : hn d = 16
      · exact ⟨-3, _, _, fun post h => by unfold wpX_erase; exact ef_xH1 d4 (br_f (by decide) (ef_xN1 hm (br_f (by decide) (ef_xDFa d4 e (br_f (by decide) h))))),
          fun post h => by unfold wpY_erase; exact ef_yH1 d4 (br_f (by decide) (ef_yN1 hm (br_f (by decide) (ef_yWa d4 e (br_f (by decide) h))))), ef_mk S T H⟩
      · have ed : hn d < 16 := by omega
        by_cases g : kd (hn d) = 1
        · obtain ⟨r, r1, r2, r3, fX, fY⟩ := ef_find S ed (nI m)
          by_cases er : r = 16
          · subst er
            exact ⟨-3, _, _, fun post h => by unfold wpX_erase; exact ef_xH1 d4 (br_f (by decide) (ef_xN1 hm (br_f (by decide) (ef_xDFc d4 ed g (br_t rfl ⟨vd, by rw [ef_nXh d4 e]; exact fX _ _ _ _ _ _ _ _ _ (br_t rfl h)⟩))))),
              fun post h => by unfold wpY_erase; exact ef_yH1 d4 (br_f (by decide) (ef_yN1 hm (br_f (by decide) (ef_yWc d4 ed g (br_t rfl ⟨vd, by rw [ef_nYh d4]; exact fY _ _ _ _ _ _ _ _ _ _ (br_t rfl h)⟩))))), ef_mk S T H⟩
          · have er' : r < 16 := by omega
            have vr := vp_in_nI (n := r) (N := 16) er' (by decide)
            have cr := ef_cl er' (by omega)
            have hpa : ∀ j, j < 16 → pa j ≤ 16 := fun j hj => ef_St_pa S hj
            have hz : ∀ j, j < 16 → (kd j ≤ 0 ↔ kd j = 0) := fun j hj => ef_St_pos S hj
            have hE : ∀ j, 1 ≤ j → j < 16 → (pa j = r ↔ (kd j ≠ 0 ∧ iy j = nI r)) := fun j j1 j2 => ef_St_ent S j2 er' j1
            have h0 := ef_St_top S er'
            have hf : ¬ kd r = 1 → ∀ j, j < 16 → ¬ pa j = r := by
              intro z j hj q
              by_cases lv : j = 0 ∨ kd j = 0
              · rw [S.2.2.2.1 j hj lv] at q
                omega
              · have := (S.2.2.2.2.1 j hj (fun z => lv (Or.inl z)) (fun z => lv (Or.inr z))).2.2
                rw [q] at this
                exact z this
            have wX : ∀ (post : Int32 → SX → Prop), (((∃ j, j < 4 ∧ hn j = r) → post (-6) (sv, kd, ef_X 16 pa, nm, ef_X 24 cp, sk, ef_X 16 spa, sn, ef_X 24 scp, dt, ef_X 16 hn)) ∧ ((¬ ∃ j, j < 4 ∧ hn j = r) → ¬ ef_cn (fun j => pa j = r) 16 = 0 → post (-2) (sv, kd, ef_X 16 pa, nm, ef_X 24 cp, sk, ef_X 16 spa, sn, ef_X 24 scp, dt, ef_X 16 hn)) ∧ ((¬ ∃ j, j < 4 ∧ hn j = r) → ef_cn (fun j => pa j = r) 16 = 0 → post 0 (sv, upd kd r 0, ef_X 16 (ef_un pa r 16), nm, ef_X 24 (ef_fr (8 * r) (8 * r + 8) 24 cp), sk, ef_X 16 spa, sn, ef_X 24 scp, dt, ef_X 16 hn))) → wpX_erase post (sv, kd, ef_X 16 pa, nm, ef_X 24 cp, sk, ef_X 16 spa, sn, ef_X 24 scp, dt, ef_X 16 hn) (nI d) (nI m) := by
              intro post ⟨h1, h2, h3⟩
              unfold wpX_erase
              refine ef_xH1 d4 (br_f (by decide) (ef_xN1 hm (br_f (by decide) (ef_xDFc d4 ed g (br_t rfl ⟨vd, ?_⟩)))))
              rw [ef_nXh d4 e]
              refine fX _ _ _ _ _ _ _ _ _ ?_
              rw [ef_encN er]
              refine br_f (ef_nn1 (by omega)) (ef_xHH er' H (fun z => br_f (by decide) (h1 z)) (fun z => br_t rfl (ef_xCE hpa er' ?_)))
              have hl := ef_cnle (fun j => pa j = r) 16
              by_cases q : ef_cn (fun j => pa j = r) 16 = 0
              · rw [q]
                refine br_t (by decide) (ef_xDB (b := 0) er' (by omega) S.2.2.2.2.2.1 ⟨vr, nm_r (by rw [cr]) ⟨vr, nm_r (e' := ef_X 16 (ef_un pa r 16)) ?_ (h3 z q)⟩⟩)
                rw [cr, ef_XuB]
              · exact br_f (nI_nle (by omega) (by omega)) (h2 z q)
            have wY : ∀ (post : Int32 → SY → Prop), (((∃ j, j < 4 ∧ hn j = r) → post (-6) (sv, kd, iy, nm, ef_Y cp, sk, si, sn, ef_Y scp, dt, us, ef_Y hn)) ∧ ((¬ ∃ j, j < 4 ∧ hn j = r) → ¬ ef_cn (fun j => pa j = r) 16 = 0 → post (-2) (sv, kd, iy, nm, ef_Y cp, sk, si, sn, ef_Y scp, dt, us, ef_Y hn)) ∧ ((¬ ∃ j, j < 4 ∧ hn j = r) → ef_cn (fun j => pa j = r) 16 = 0 → post 0 (sv, upd kd r 0, iy, nm, ef_Y (ef_fr (8 * r) (8 * r + 8) 24 cp), sk, si, sn, ef_Y scp, dt, us, ef_Y hn))) → wpY_erase post (sv, kd, iy, nm, ef_Y cp, sk, si, sn, ef_Y scp, dt, us, ef_Y hn) (nI d) (nI m) := by
              intro post ⟨h1, h2, h3⟩
              unfold wpY_erase
              refine ef_yH1 d4 (br_f (by decide) (ef_yN1 hm (br_f (by decide) (ef_yWc d4 ed g (br_t rfl ⟨vd, ?_⟩)))))
              rw [ef_nYh d4]
              exact fY _ _ _ _ _ _ _ _ _ _ (br_f (ef_n16 er') ⟨5, ef_yE57 er' H hz hE h0 hf h1 h2 h3 5 0 (by omega) (by omega) (fun j hj => absurd hj (Nat.not_lt_zero j))⟩)
            by_cases hb : ∃ j, j < 4 ∧ hn j = r
            · exact ⟨-6, _, _, fun post h => wX post ⟨fun _ => h, fun z => absurd hb z, fun z => absurd hb z⟩, fun post h => wY post ⟨fun _ => h, fun z => absurd hb z, fun z => absurd hb z⟩, ef_mk S T H⟩
            · by_cases q : ef_cn (fun j => pa j = r) 16 = 0
              · exact ⟨0, _, _, fun post h => wX post ⟨fun z => absurd z hb, fun _ z => absurd q z, fun _ _ => h⟩, fun post h => wY post ⟨fun z => absurd z hb, fun _ z => absurd q z, fun _ _ => h⟩, ef_mk (ef_St_erase S (by omega) (ef_cnz q)) T H⟩
              · exact ⟨-2, _, _, fun post h => wX post ⟨fun z => absurd z hb, fun _ _ => h, fun _ z => absurd z q⟩, fun post h => wY post ⟨fun z => absurd z hb, fun _ _ => h, fun _ z => absurd z q⟩, ef_mk S T H⟩
        · exact ⟨-4, _, _, fun post h => by unfold wpX_erase; exact ef_xH1 d4 (br_f (by decide) (ef_xN1 hm (br_f (by decide) (ef_xDFb d4 ed g (br_f (by decide) h))))),
            fun post h => by unfold wpY_erase; exact ef_yH1 d4 (br_f (by decide) (ef_yN1 hm (br_f (by decide) (ef_yWb d4 ed g (br_f (by decide) h))))), ef_mk S T H⟩
    · exact ⟨-1, _, _, fun post h => by unfold wpX_erase; exact ef_xH1 d4 (br_f (by decide) (ef_xN0 N2 (br_t rfl h))),
        fun post h => by unfold wpY_erase; exact ef_yH1 d4 (br_f (by decide) (ef_yN0 N2 (br_t rfl h))), ef_mk S T H⟩
  · exact ⟨-1, _, _, fun post h => by unfold wpX_erase; exact ef_xH0 D (br_t rfl h), fun post h => by unfold wpY_erase; exact ef_yH0 D (br_t rfl h), ef_mk S T H⟩
theorem i_vc_erase {k : Nat} {u : SX} {v : SY} (I : i_Rel k u v) (hk : k + 5 ≤ 2560) (v1 : Int32) (v2 : Int32) : wpX_erase (fun r u' => wpY_erase (fun r' v' => r' = r ∧ i_Rel (k + 5) u' v') v v1 v2) u v1 v2 := by
  obtain ⟨sv, kd, iy, nm, sk, si, sn, dt, us, pa, cp, spa, scp, hn, rfl, rfl, S, T, H⟩ := I
  obtain ⟨r, u', v', hX, hY, R⟩ := ef_erase (sv := sv) (dt := dt) (us := us) (k + 5) S T H v1 v2
  exact hX _ (hY _ ⟨rfl, R⟩)
end EFT
end
section
/-! rename, write -/
section EFT
variable {sv : Int32} {kd iy nm sk si sn dt us pr cx sp sc cy sy : Nat → Int32} {pa cp spa scp hn : Nat → Nat}
/-! A: rename -/
theorem ef_rename (k : Nat) (S : ef_St kd iy nm pa cp) (T : ef_St sk si sn spa scp) (H : ∀ j, j < 4 → hn j ≤ 16) (v1 v2 v3 v4 : Int32) : ∃ r u' v',
    (∀ post : Int32 → SX → Prop, post r u' → wpX_rename post (sv, kd, ef_X 16 pa, nm, ef_X 24 cp, sk, ef_X 16 spa, sn, ef_X 24 scp, dt, ef_X 16 hn) v1 v2 v3 v4) ∧
    (∀ post : Int32 → SY → Prop, post r v' → wpY_rename post (sv, kd, iy, nm, ef_Y cp, sk, si, sn, ef_Y scp, dt, us, ef_Y hn) v1 v2 v3 v4) ∧ i_Rel k u' v' := by
  by_cases D : ∃ j, j < 4 ∧ v1 = nI j
  · obtain ⟨d, d4, rfl⟩ := D
    by_cases E : ∃ j, j < 4 ∧ v3 = nI j
    · obtain ⟨e, e4, rfl⟩ := E
      by_cases N2 : ∃ m, m < 100 ∧ v2 = nI m
      · obtain ⟨m, hm, rfl⟩ := N2
        by_cases N4 : ∃ m, m < 100 ∧ v4 = nI m
        · obtain ⟨o, ho, rfl⟩ := N4
          have vd := vp_in_nI (n := d) (N := 4) d4 (by decide)
          have ve := vp_in_nI (n := e) (N := 4) e4 (by decide)
          have Hd := H d d4
          have He := H e e4
          by_cases gd : hn d = 16
          · exact ⟨-3, _, _, fun post h => by unfold wpX_rename; exact ef_xH1 d4 (br_f (by decide) (ef_xH1 e4 (br_f (by decide) (ef_xN1 hm (br_f (by decide) (ef_xN1 ho (br_f (by decide) ⟨vd, nm_r (ef_nX16 d4 gd) ⟨ve, nm_e (br_t rfl h)⟩⟩))))))),
              fun post h => by unfold wpY_rename; exact ef_yH1 d4 (br_f (by decide) (ef_yH1 e4 (br_f (by decide) (ef_yN1 hm (br_f (by decide) (ef_yN1 ho (br_f (by decide) ⟨vd, br_t (ef_nY16 d4 gd) h⟩))))))), ef_mk S T H⟩
          · have ld : hn d < 16 := by omega
            by_cases ge : hn e = 16
            · exact ⟨-3, _, _, fun post h => by unfold wpX_rename; exact ef_xH1 d4 (br_f (by decide) (ef_xH1 e4 (br_f (by decide) (ef_xN1 hm (br_f (by decide) (ef_xN1 ho (br_f (by decide) ⟨vd, nm_r (ef_nXh d4 gd) ⟨ve, nm_r (ef_nX16 e4 ge) (br_f (ef_nn1 (by omega)) (br_t rfl h))⟩⟩))))))),
                fun post h => by unfold wpY_rename; exact ef_yH1 d4 (br_f (by decide) (ef_yH1 e4 (br_f (by decide) (ef_yN1 hm (br_f (by decide) (ef_yN1 ho (br_f (by decide) ⟨vd, br_f (ef_nY0 d4 ld) ⟨ve, br_t (ef_nY16 e4 ge) h⟩⟩))))))), ef_mk S T H⟩
            · have le : hn e < 16 := by omega
              have vhd := vp_in_nI (n := hn d) (N := 16) ld (by decide)
              have vhe := vp_in_nI (n := hn e) (N := 16) le (by decide)
              have chd := ef_cl ld (by omega)
              have che := ef_cl le (by omega)
              by_cases kdd : kd (hn d) = 1
              · by_cases kde : kd (hn e) = 1
                · obtain ⟨r, r1, r2, r3, fX, fY⟩ := ef_find S ld (nI m)
                  by_cases er : r = 16
                  · subst er
                    exact ⟨-3, _, _, fun post h => by unfold wpX_rename; exact ef_xH1 d4 (br_f (by decide) (ef_xH1 e4 (br_f (by decide) (ef_xN1 hm (br_f (by decide) (ef_xN1 ho (br_f (by decide) ⟨vd, nm_r (ef_nXh d4 gd) ⟨ve, nm_r (ef_nXh e4 ge) (br_f (ef_nn1 (by omega)) (br_f (ef_nn1 (by omega)) ⟨vhd, br_t (by rw [chd]; exact kdd) ⟨vhe, br_t (by rw [che]; exact kde) (fX _ _ _ _ _ _ _ _ _ (br_t rfl h))⟩⟩))⟩⟩))))))),
                      fun post h => by unfold wpY_rename; exact ef_yH1 d4 (br_f (by decide) (ef_yH1 e4 (br_f (by decide) (ef_yN1 hm (br_f (by decide) (ef_yN1 ho (br_f (by decide) ⟨vd, br_f (ef_nY0 d4 ld) ⟨ve, br_f (ef_nY0 e4 le) (by rw [ef_nYh d4, ef_nYh e4]; exact ⟨vd, vhd, br_t (by rw [chd]; exact kdd) ⟨ve, vhe, br_t (by rw [che]; exact kde) ⟨vd, fY _ _ _ _ _ _ _ _ _ _ (br_t rfl h)⟩⟩⟩)⟩⟩))))))), ef_mk S T H⟩
                  · have lr : r < 16 := by omega
                    have vr := vp_in_nI (n := r) (N := 16) lr (by decide)
                    have cr := ef_cl lr (by omega)
                    obtain ⟨s, s1, s2, s3, gX, gY⟩ := ef_find S le (nI o)
                    by_cases es : s = 16
                    · subst es
                      have kr : kd r ≠ 0 := ((ef_St_ent S lr ld r1).mp (r3 lr).1).1
                      have ha : ∀ i, ef_an pa (hn e) i ≤ 16 := by
                        intro i
                        rcases ef_an_in S le kde i with z | z
                        · omega
                        · omega
                      have wX : ∀ (post : Int32 → SX → Prop), (((∃ i, i < 16 ∧ ef_an pa (hn e) i = r) → post (-7) (sv, kd, ef_X 16 pa, nm, ef_X 24 cp, sk, ef_X 16 spa, sn, ef_X 24 scp, dt, ef_X 16 hn)) ∧ ((¬ ∃ i, i < 16 ∧ ef_an pa (hn e) i = r) → post 0 (sv, kd, ef_X 16 (ef_un pa r (hn e)), upd nm r (nI o), ef_X 24 cp, sk, ef_X 16 spa, sn, ef_X 24 scp, dt, ef_X 16 hn))) → wpX_rename post (sv, kd, ef_X 16 pa, nm, ef_X 24 cp, sk, ef_X 16 spa, sn, ef_X 24 scp, dt, ef_X 16 hn) (nI d) (nI m) (nI e) (nI o) := by
                        intro post ⟨h1, h2⟩
                        unfold wpX_rename
                        refine ef_xH1 d4 (br_f (by decide) (ef_xH1 e4 (br_f (by decide) (ef_xN1 hm (br_f (by decide) (ef_xN1 ho (br_f (by decide) ⟨vd, nm_r (ef_nXh d4 gd) ⟨ve, nm_r (ef_nXh e4 ge) (br_f (ef_nn1 (by omega)) (br_f (ef_nn1 (by omega)) ⟨vhd, br_t (by rw [chd]; exact kdd) ⟨vhe, br_t (by rw [che]; exact kde) (fX _ _ _ _ _ _ _ _ _ ?_)⟩⟩))⟩⟩)))))))
                        rw [ef_encN er]
                        refine br_f (ef_nn1 (by omega)) (gX _ _ _ _ _ _ _ _ _ (br_t rfl (ef_xUp lr le ha (fun z => br_f (by decide) (h1 z)) (fun z => br_t rfl ⟨vr, nm_r (ef_xun (by omega) ge) ⟨vr, nm_r (by rw [cr]) (h2 z)⟩⟩))))
                      have wY : ∀ (post : Int32 → SY → Prop), (((∃ i, i < 16 ∧ ef_an pa (hn e) i = r) → post (-7) (sv, kd, iy, nm, ef_Y cp, sk, si, sn, ef_Y scp, dt, us, ef_Y hn)) ∧ ((¬ ∃ i, i < 16 ∧ ef_an pa (hn e) i = r) → post 0 (sv, kd, upd iy r (nI (hn e)), upd nm r (nI o), ef_Y cp, sk, si, sn, ef_Y scp, dt, us, ef_Y hn))) → wpY_rename post (sv, kd, iy, nm, ef_Y cp, sk, si, sn, ef_Y scp, dt, us, ef_Y hn) (nI d) (nI m) (nI e) (nI o) := by
                        intro post ⟨h1, h2⟩
                        unfold wpY_rename
                        have w := ef_yR147 (y := nI o) e4 (by omega : r ≠ 0) lr le kde rfl S h1 h2 17 0 (by omega) (by omega) (fun j hj => absurd hj (Nat.not_lt_zero j))
                        rw [show ef_q (ef_an pa (hn e) 0) = hn e from ef_qn (n := hn e) ge] at w
                        exact ef_yH1 d4 (br_f (by decide) (ef_yH1 e4 (br_f (by decide) (ef_yN1 hm (br_f (by decide) (ef_yN1 ho (br_f (by decide) ⟨vd, br_f (ef_nY0 d4 ld) ⟨ve, br_f (ef_nY0 e4 le) (by rw [ef_nYh d4, ef_nYh e4]; exact ⟨vd, vhd, br_t (by rw [chd]; exact kdd) ⟨ve, vhe, br_t (by rw [che]; exact kde) ⟨vd, fY _ _ _ _ _ _ _ _ _ _ (br_f (ef_n16 lr) ⟨ve, gY _ _ _ _ _ _ _ _ _ _ (br_t (by decide) ⟨ve, nm_e ⟨17, w⟩⟩)⟩)⟩⟩⟩)⟩⟩)))))))
                      by_cases hb : ∃ i, i < 16 ∧ ef_an pa (hn e) i = r
                      · exact ⟨-7, _, _, fun post h => wX post ⟨fun _ => h, fun z => absurd hb z⟩, fun post h => wY post ⟨fun _ => h, fun z => absurd hb z⟩, ef_mk S T H⟩
                      · exact ⟨0, _, _, fun post h => wX post ⟨fun z => absurd z hb, fun _ => h⟩, fun post h => wY post ⟨fun z => absurd z hb, fun _ => h⟩, ef_mk (ef_St_ren S (by omega) kr le kde ho) T H⟩
                    · have ls : s < 16 := by omega
                      exact ⟨-5, _, _, fun post h => by unfold wpX_rename; exact ef_xH1 d4 (br_f (by decide) (ef_xH1 e4 (br_f (by decide) (ef_xN1 hm (br_f (by decide) (ef_xN1 ho (br_f (by decide) ⟨vd, nm_r (ef_nXh d4 gd) ⟨ve, nm_r (ef_nXh e4 ge) (br_f (ef_nn1 (by omega)) (br_f (ef_nn1 (by omega)) ⟨vhd, br_t (by rw [chd]; exact kdd) ⟨vhe, br_t (by rw [che]; exact kde) (fX _ _ _ _ _ _ _ _ _ (by rw [ef_encN er]; exact br_f (ef_nn1 (by omega)) (gX _ _ _ _ _ _ _ _ _ (by rw [ef_encN es]; exact br_f (ef_nn1 (by omega)) h))))⟩⟩))⟩⟩))))))),
                        fun post h => by unfold wpY_rename; exact ef_yH1 d4 (br_f (by decide) (ef_yH1 e4 (br_f (by decide) (ef_yN1 hm (br_f (by decide) (ef_yN1 ho (br_f (by decide) ⟨vd, br_f (ef_nY0 d4 ld) ⟨ve, br_f (ef_nY0 e4 le) (by rw [ef_nYh d4, ef_nYh e4]; exact ⟨vd, vhd, br_t (by rw [chd]; exact kdd) ⟨ve, vhe, br_t (by rw [che]; exact kde) ⟨vd, fY _ _ _ _ _ _ _ _ _ _ (br_f (ef_n16 lr) ⟨ve, gY _ _ _ _ _ _ _ _ _ _ (br_f (nI_ge (b := 16) ls (by decide)) h)⟩)⟩⟩⟩)⟩⟩))))))), ef_mk S T H⟩
                · exact ⟨-4, _, _, fun post h => by unfold wpX_rename; exact ef_xH1 d4 (br_f (by decide) (ef_xH1 e4 (br_f (by decide) (ef_xN1 hm (br_f (by decide) (ef_xN1 ho (br_f (by decide) ⟨vd, nm_r (ef_nXh d4 gd) ⟨ve, nm_r (ef_nXh e4 ge) (br_f (ef_nn1 (by omega)) (br_f (ef_nn1 (by omega)) ⟨vhd, br_t (by rw [chd]; exact kdd) ⟨vhe, br_f (by rw [che]; exact kde) h⟩⟩))⟩⟩))))))),
                    fun post h => by unfold wpY_rename; exact ef_yH1 d4 (br_f (by decide) (ef_yH1 e4 (br_f (by decide) (ef_yN1 hm (br_f (by decide) (ef_yN1 ho (br_f (by decide) ⟨vd, br_f (ef_nY0 d4 ld) ⟨ve, br_f (ef_nY0 e4 le) (by rw [ef_nYh d4, ef_nYh e4]; exact ⟨vd, vhd, br_t (by rw [chd]; exact kdd) ⟨ve, vhe, br_f (by rw [che]; exact kde) h⟩⟩)⟩⟩))))))), ef_mk S T H⟩
              · exact ⟨-4, _, _, fun post h => by unfold wpX_rename; exact ef_xH1 d4 (br_f (by decide) (ef_xH1 e4 (br_f (by decide) (ef_xN1 hm (br_f (by decide) (ef_xN1 ho (br_f (by decide) ⟨vd, nm_r (ef_nXh d4 gd) ⟨ve, nm_r (ef_nXh e4 ge) (br_f (ef_nn1 (by omega)) (br_f (ef_nn1 (by omega)) ⟨vhd, br_f (by rw [chd]; exact kdd) h⟩))⟩⟩))))))),
                  fun post h => by unfold wpY_rename; exact ef_yH1 d4 (br_f (by decide) (ef_yH1 e4 (br_f (by decide) (ef_yN1 hm (br_f (by decide) (ef_yN1 ho (br_f (by decide) ⟨vd, br_f (ef_nY0 d4 ld) ⟨ve, br_f (ef_nY0 e4 le) (by rw [ef_nYh d4, ef_nYh e4]; exact ⟨vd, vhd, br_f (by rw [chd]; exact kdd) h⟩)⟩⟩))))))), ef_mk S T H⟩
        · exact ⟨-1, _, _, fun post h => by unfold wpX_rename; exact ef_xH1 d4 (br_f (by decide) (ef_xH1 e4 (br_f (by decide) (ef_xN1 hm (br_f (by decide) (ef_xN0 N4 (br_t rfl h))))))),
            fun post h => by unfold wpY_rename; exact ef_yH1 d4 (br_f (by decide) (ef_yH1 e4 (br_f (by decide) (ef_yN1 hm (br_f (by decide) (ef_yN0 N4 (br_t rfl h))))))), ef_mk S T H⟩
      · exact ⟨-1, _, _, fun post h => by unfold wpX_rename; exact ef_xH1 d4 (br_f (by decide) (ef_xH1 e4 (br_f (by decide) (ef_xN0 N2 (br_t rfl h))))),
          fun post h => by unfold wpY_rename; exact ef_yH1 d4 (br_f (by decide) (ef_yH1 e4 (br_f (by decide) (ef_yN0 N2 (br_t rfl h))))), ef_mk S T H⟩
    · exact ⟨-1, _, _, fun post h => by unfold wpX_rename; exact ef_xH1 d4 (br_f (by decide) (ef_xH0 E (br_t rfl h))),
        fun post h => by unfold wpY_rename; exact ef_yH1 d4 (br_f (by decide) (ef_yH0 E (br_t rfl h))), ef_mk S T H⟩
  · exact ⟨-1, _, _, fun post h => by unfold wpX_rename; exact ef_xH0 D (br_t rfl h), fun post h => by unfold wpY_rename; exact ef_yH0 D (br_t rfl h), ef_mk S T H⟩
theorem i_vc_rename {k : Nat} {u : SX} {v : SY} (I : i_Rel k u v) (hk : k + 5 ≤ 2560) (v1 : Int32) (v2 : Int32) (v3 : Int32) (v4 : Int32) : wpX_rename (fun r u' => wpY_rename (fun r' v' => r' = r ∧ i_Rel (k + 5) u' v') v v1 v2 v3 v4) u v1 v2 v3 v4 := by
  obtain ⟨sv, kd, iy, nm, sk, si, sn, dt, us, pa, cp, spa, scp, hn, rfl, rfl, S, T, H⟩ := I
  obtain ⟨r, u', v', hX, hY, R⟩ := ef_rename (sv := sv) (dt := dt) (us := us) (k + 5) S T H v1 v2 v3 v4
  exact hX _ (hY _ ⟨rfl, R⟩)
end EFT
end
section
/-! write, read -/
section EFT
variable {sv : Int32} {kd iy nm sk si sn dt us pr cx sp sc cy sy no hy : Nat → Int32} {pa cp spa scp hn : Nat → Nat}
theorem ef_free (cp scp : Nat → Nat) : ∃ r, r ≤ 24 ∧ (r < 24 → ¬ (ef_hd cp r ∨ ef_hd scp r)) ∧ ∀ j, j < r → ef_hd cp j ∨ ef_hd scp j := by
  obtain ⟨r, h1, h2, h3, h4⟩ := ef_least (fun c => ¬ (ef_hd cp c ∨ ef_hd scp c)) 0 24 (by omega)
  exact ⟨r, h2, h3, fun j hj => Classical.byContradiction (h4 j (Nat.zero_le j) hj)⟩
theorem ef_xW105 {post : Int32 → SX → Prop} {o c : Nat} {y : Int32} (ho : o < 24) (hc : c < 32) (h : post 0 (sv, kd, pr, nm, cx, sk, sp, sn, sc, upd dt (4 * o + c % 4) y, no)) : wX_write_105 post (nI c) y (nI o) sv kd pr nm cx sk sp sn sc dt no := by
  unfold wX_write_105
  rw [ef_r4 (by omega), ef_p4, nI_clamp (by omega)]
  exact ⟨by decide, vp_in_nI (by omega) (by decide), nm_e h⟩
theorem ef_xW69 {post : Int32 → SX → Prop} {p o c r : Nat} {y : Int32} (hp : p < 128) (ho : o ≤ 24) (hc : c < 32) (hh : ∀ p, p < 128 → cp p ≤ 24) (hs : ∀ p, p < 128 → scp p ≤ 24) (r1 : r ≤ 24) (r2 : r < 24 → ¬ (ef_hd cp r ∨ ef_hd scp r)) (r3 : ∀ j, j < r → ef_hd cp j ∨ ef_hd scp j)
    (a : r = 24 → post (-2) (sv, kd, pr, nm, ef_X 24 cp, sk, sp, sn, ef_X 24 scp, dt, no)) (b : r < 24 → post 0 (sv, kd, pr, nm, ef_X 24 (ef_un cp p r), sk, sp, sn, ef_X 24 scp, upd (ef_fl dt r o 4) (4 * r + c % 4) y, no)) : wX_write_69 post (nI c) y (nI p) (ef_enc 24 o) sv kd pr nm (ef_X 24 cp) sk sp sn (ef_X 24 scp) dt no := by
  unfold wX_write_69
  refine ef_xFC hh hs r1 r2 r3 ?_
  by_cases e : r = 24
  · rw [e, ef_encB]
    exact br_t rfl (a e)
  · have lr : r < 24 := by omega
    rw [ef_encN e]
    exact br_f (ef_nn1 (by omega)) (ef_xFi lr ho ⟨vp_in_nI hp (by decide), nm_r (ef_xun (by omega) e) (ef_xW105 lr hc (b lr))⟩)
theorem ef_yW82 {post : Int32 → SY → Prop} {p o c r : Nat} {y : Int32} (hp : p < 128) (ho : o ≤ 24) (hc : c < 32) (S : ef_St kd iy nm pa cp) (T : ef_St sk si sn spa scp) (r1 : r ≤ 24) (r2 : r < 24 → ¬ (ef_hd cp r ∨ ef_hd scp r)) (r3 : ∀ j, j < r → ef_hd cp j ∨ ef_hd scp j)
    (a : r = 24 → ∀ us : Nat → Int32, post (-2) (sv, kd, iy, nm, ef_Y cp, sk, si, sn, ef_Y scp, dt, us, hy)) (b : r < 24 → ∀ us : Nat → Int32, post 0 (sv, kd, iy, nm, ef_Y (ef_un cp p r), sk, si, sn, ef_Y scp, upd (ef_fl dt r o 4) (4 * r + c % 4) y, us, hy)) : wY_write_82 post (nI c) y (nI p) (nI o) sv kd iy nm (ef_Y cp) sk si sn (ef_Y scp) dt us hy := by
  unfold wY_write_82
  refine ef_yCo S T (fun us hu => ?_)
  by_cases e : r = 24
  · rw [ef_cna (P := fun c => ef_hd cp c ∨ ef_hd scp c) (n := 24) (fun j hj => r3 j (by omega))]
    exact br_t rfl (a e us)
  · have lr : r < 24 := by omega
    have cn := ef_cnl (P := fun c => ef_hd cp c ∨ ef_hd scp c) lr (r2 lr)
    have w := ef_yW102 (x2 := nI c) (x3 := y) (x5 := nI p) (x6 := nI o) lr ((hu r lr).mpr (r2 lr)) (fun j hj z => (hu j (by omega)).mp z (r3 j hj)) ⟨5, ef_yW130 hp hc lr ho (b lr us) 5 0 (by omega) (by omega)⟩ 25 24 (by omega) (by omega) 24 (fun z => absurd z (by omega))
    rw [show nI 24 + (-1) = 23 from by decide] at w
    exact br_f (fun z => absurd ((nI_eq (b := 24) (by omega) (by decide)).mp z) (by omega)) ⟨25, w⟩
theorem ef_G0 (T : ef_St sk si sn spa scp) (hG : ef_G (fun c => ef_M sk scp 128 c) 0 kd cp 128 us) {c : Nat} (hc : c < 24) : us c = 0 ↔ ¬ ef_hd scp c := by
  have hG' : us c = 0 ↔ ¬ (ef_M sk scp 128 c ∨ ((0 : Int32) ≠ 0 ∧ ef_M kd cp 128 c)) := hG c (by omega)
  rw [hG', ef_Mh T hc]
  exact ⟨fun z o => z (Or.inl o), fun z o => o.elim z (fun q => q.1 rfl)⟩
theorem ef_write (k : Nat) (S : ef_St kd iy nm pa cp) (T : ef_St sk si sn spa scp) (H : ∀ j, j < 4 → hn j ≤ 16) (v1 v2 v3 : Int32) : ∃ (r : Int32) (u' : SX) (V : (Nat → Int32) → SY),
    (∀ post : Int32 → SX → Prop, post r u' → wpX_write post (sv, kd, ef_X 16 pa, nm, ef_X 24 cp, sk, ef_X 16 spa, sn, ef_X 24 scp, dt, ef_X 16 hn) v1 v2 v3) ∧
    (∀ post : Int32 → SY → Prop, (∀ us, post r (V us)) → wpY_write post (sv, kd, iy, nm, ef_Y cp, sk, si, sn, ef_Y scp, dt, us, ef_Y hn) v1 v2 v3) ∧ ∀ us, i_Rel k u' (V us) := by
  by_cases D : ∃ j, j < 4 ∧ v1 = nI j
  · obtain ⟨d, d4, rfl⟩ := D
    have vd := vp_in_nI (n := d) (N := 4) d4 (by decide)
    have Hd := H d d4
    by_cases C : ∃ j, j < 32 ∧ v2 = nI j
    · obtain ⟨c, hc, rfl⟩ := C
      by_cases e : hn d = 16
      · exact ⟨-3, _, fun us => (sv, kd, iy, nm, ef_Y cp, sk, si, sn, ef_Y scp, dt, us, ef_Y hn), fun post h => by unfold wpX_write; exact ef_xH1 d4 (br_f (by decide) (ef_xC1 hc (br_f (by decide) (ef_xFFa d4 e (br_f (by decide) h))))),
          fun post h => by unfold wpY_write; exact ef_yH1 d4 (br_f (by decide) (ef_yR1 31 rfl (by decide) (by omega) (ef_yWa d4 e (br_f (by decide) (h us))))), fun us => ef_mk S T H⟩
      · have ed : hn d < 16 := by omega
        by_cases g : kd (hn d) = 2
        · have hh := S.2.2.2.2.2.1
          have hs := T.2.2.2.2.2.1
          have hp : 8 * hn d + c / 4 < 128 := by omega
          have vp := vp_in_nI (n := 8 * hn d + c / 4) (N := 128) hp (by decide)
          have cpl : (nI (8 * hn d + c / 4)).toNatClampNeg = 8 * hn d + c / 4 := nI_clamp (by omega)
          have ho := hh (8 * hn d + c / 4) hp
          have kp : kd ((8 * hn d + c / 4) / 8) = 2 := by rw [show (8 * hn d + c / 4) / 8 = hn d from by omega]; exact g
          -- each side up to the old copy
          have wX : ∀ (post : Int32 → SX → Prop), ((cp (8 * hn d + c / 4) = 24 → wX_write_69 post (nI c) v3 (nI (8 * hn d + c / 4)) (ef_enc 24 (cp (8 * hn d + c / 4))) sv kd (ef_X 16 pa) nm (ef_X 24 cp) sk (ef_X 16 spa) sn (ef_X 24 scp) dt (ef_X 16 hn)) ∧ (cp (8 * hn d + c / 4) < 24 → (ef_hd scp (cp (8 * hn d + c / 4)) → wX_write_69 post (nI c) v3 (nI (8 * hn d + c / 4)) (ef_enc 24 (cp (8 * hn d + c / 4))) sv kd (ef_X 16 pa) nm (ef_X 24 cp) sk (ef_X 16 spa) sn (ef_X 24 scp) dt (ef_X 16 hn)) ∧ (¬ ef_hd scp (cp (8 * hn d + c / 4)) → wX_write_105 post (nI c) v3 (nI (cp (8 * hn d + c / 4))) sv kd (ef_X 16 pa) nm (ef_X 24 cp) sk (ef_X 16 spa) sn (ef_X 24 scp) dt (ef_X 16 hn)))) → wpX_write post (sv, kd, ef_X 16 pa, nm, ef_X 24 cp, sk, ef_X 16 spa, sn, ef_X 24 scp, dt, ef_X 16 hn) (nI d) (nI c) v3 := by
            intro post ⟨h1, h2⟩
            unfold wpX_write
            refine ef_xH1 d4 (br_f (by decide) (ef_xC1 hc (br_f (by decide) (ef_xFFc d4 ed g (br_t rfl ⟨vd, by decide, ?_⟩)))))
            rw [ef_nXh d4 e, ef_d4 (by omega)]
            refine ef_xPl ⟨vp, nm_r (e' := ef_enc 24 (cp (8 * hn d + c / 4))) (by rw [cpl]; rfl) ?_⟩
            by_cases q : cp (8 * hn d + c / 4) = 24
            · exact br_t ((ef_encI (by omega)).mpr q) (h1 q)
            · have lq : cp (8 * hn d + c / 4) < 24 := by omega
              have h2' := h2 lq
              rw [ef_encN q] at h2' ⊢
              exact br_f (ef_nn1 (by omega)) (ef_xHCs lq hs (fun z => br_f (by decide) (h2'.1 z)) (fun z => br_t rfl (h2'.2 z)))
          have wY : ∀ (post : Int32 → SY → Prop), ((cp (8 * hn d + c / 4) = 24 → ∀ us, wY_write_82 post (nI c) v3 (nI (8 * hn d + c / 4)) (nI (cp (8 * hn d + c / 4))) sv kd iy nm (ef_Y cp) sk si sn (ef_Y scp) dt us (ef_Y hn)) ∧ (cp (8 * hn d + c / 4) < 24 → (ef_hd scp (cp (8 * hn d + c / 4)) → ∀ us, wY_write_82 post (nI c) v3 (nI (8 * hn d + c / 4)) (nI (cp (8 * hn d + c / 4))) sv kd iy nm (ef_Y cp) sk si sn (ef_Y scp) dt us (ef_Y hn)) ∧ (¬ ef_hd scp (cp (8 * hn d + c / 4)) → ∀ us, wY_write_186 post (nI c) v3 (nI (8 * hn d + c / 4)) sv kd iy nm (ef_Y cp) sk si sn (ef_Y scp) dt us (ef_Y hn)))) → wpY_write post (sv, kd, iy, nm, ef_Y cp, sk, si, sn, ef_Y scp, dt, us, ef_Y hn) (nI d) (nI c) v3 := by
            intro post ⟨h1, h2⟩
            unfold wpY_write
            refine ef_yH1 d4 (br_f (by decide) (ef_yR1 31 rfl (by decide) (by omega) (ef_yWc d4 ed g (br_t rfl ⟨vd, by decide, nm_r (e' := nI (8 * hn d + c / 4)) (by rw [ef_nYh d4, ef_d4 (by omega), ef_pl8]) ⟨vp, nm_r (e' := nI (cp (8 * hn d + c / 4))) (by rw [cpl]; rfl) (ef_yFU hh hs (fun us hG => ?_))⟩⟩))))
            by_cases q : cp (8 * hn d + c / 4) = 24
            · exact br_t (by rw [q]; rfl) (h1 q us)
            · have lq : cp (8 * hn d + c / 4) < 24 := by omega
              have hu := ef_G0 T hG lq
              have h2' := h2 lq
              refine br_f (fun z => q ((nI_eq (b := 24) (by omega) (by decide)).mp z)) ⟨vp_in_nI (by omega) (by decide), ?_⟩
              rw [nI_clamp (by omega : cp (8 * hn d + c / 4) < 2 ^ 31)]
              by_cases z : ef_hd scp (cp (8 * hn d + c / 4))
              · exact br_f (fun y => hu.mp y z) (h2'.1 z us)
              · exact br_t (hu.mpr z) (h2'.2 z us)
          obtain ⟨r, r1, r2, r3⟩ := ef_free cp scp
          by_cases nw : cp (8 * hn d + c / 4) = 24 ∨ ef_hd scp (cp (8 * hn d + c / 4))
          · by_cases er : r = 24
            · have fX := fun (post : Int32 → SX → Prop) h => ef_xW69 (post := post) (sv := sv) (kd := kd) (pr := ef_X 16 pa) (nm := nm) (sk := sk) (sp := ef_X 16 spa) (sn := sn) (dt := dt) (no := ef_X 16 hn) (y := v3) hp ho hc hh hs r1 r2 r3 (fun _ => h) (fun z => absurd er (by omega))
              have fY := fun (post : Int32 → SY → Prop) us h => ef_yW82 (post := post) (sv := sv) (dt := dt) (us := us) (hy := ef_Y hn) (y := v3) hp ho hc S T r1 r2 r3 (fun _ => h) (fun z => absurd er (by omega))
              exact ⟨-2, _, fun us => (sv, kd, iy, nm, ef_Y cp, sk, si, sn, ef_Y scp, dt, us, ef_Y hn), fun post h => wX post ⟨fun _ => fX post h, fun lq => ⟨fun _ => fX post h, fun z => absurd nw (fun o => o.elim (fun y => absurd y (by omega)) z)⟩⟩,
                fun post h => wY post ⟨fun _ us => fY post us h, fun lq => ⟨fun _ us => fY post us h, fun z => absurd nw (fun o => o.elim (fun y => absurd y (by omega)) z)⟩⟩, fun us => ef_mk S T H⟩
            · have lr : r < 24 := by omega
              have fX := fun (post : Int32 → SX → Prop) h => ef_xW69 (post := post) (sv := sv) (kd := kd) (pr := ef_X 16 pa) (nm := nm) (sk := sk) (sp := ef_X 16 spa) (sn := sn) (dt := dt) (no := ef_X 16 hn) (y := v3) hp ho hc hh hs r1 r2 r3 (fun z => absurd z er) (fun _ => h)
              have fY := fun (post : Int32 → SY → Prop) us h => ef_yW82 (post := post) (sv := sv) (dt := dt) (us := us) (hy := ef_Y hn) (y := v3) hp ho hc S T r1 r2 r3 (fun z => absurd z er) (fun _ => h)
              exact ⟨0, _, fun us => (sv, kd, iy, nm, ef_Y (ef_un cp (8 * hn d + c / 4) r), sk, si, sn, ef_Y scp, upd (ef_fl dt r (cp (8 * hn d + c / 4)) 4) (4 * r + c % 4) v3, us, ef_Y hn), fun post h => wX post ⟨fun _ => fX post h, fun lq => ⟨fun _ => fX post h, fun z => absurd nw (fun o => o.elim (fun y => absurd y (by omega)) z)⟩⟩,
                fun post h => wY post ⟨fun _ us => fY post us h, fun lq => ⟨fun _ us => fY post us h, fun z => absurd nw (fun o => o.elim (fun y => absurd y (by omega)) z)⟩⟩, fun us => ef_mk (ef_St_put S kp r1) T H⟩
          · have lq : cp (8 * hn d + c / 4) < 24 := Nat.lt_of_le_of_ne ho (fun z => nw (Or.inl z))
            exact ⟨0, _, fun us => (sv, kd, iy, nm, ef_Y cp, sk, si, sn, ef_Y scp, upd dt (4 * cp (8 * hn d + c / 4) + c % 4) v3, us, ef_Y hn), fun post h => wX post ⟨fun z => absurd (Or.inl z) nw, fun _ => ⟨fun z => absurd (Or.inr z) nw, fun _ => ef_xW105 lq hc h⟩⟩,
              fun post h => wY post ⟨fun z => absurd (Or.inl z) nw, fun _ => ⟨fun z => absurd (Or.inr z) nw, fun _ us => ef_yW186 hp hc lq (h us)⟩⟩, fun us => ef_mk S T H⟩
        · exact ⟨-4, _, fun us => (sv, kd, iy, nm, ef_Y cp, sk, si, sn, ef_Y scp, dt, us, ef_Y hn), fun post h => by unfold wpX_write; exact ef_xH1 d4 (br_f (by decide) (ef_xC1 hc (br_f (by decide) (ef_xFFb d4 ed g (br_f (by decide) h))))),
            fun post h => by unfold wpY_write; exact ef_yH1 d4 (br_f (by decide) (ef_yR1 31 rfl (by decide) (by omega) (ef_yWb d4 ed g (br_f (by decide) (h us))))), fun us => ef_mk S T H⟩
    · exact ⟨-1, _, fun us => (sv, kd, iy, nm, ef_Y cp, sk, si, sn, ef_Y scp, dt, us, ef_Y hn), fun post h => by unfold wpX_write; exact ef_xH1 d4 (br_f (by decide) (ef_xC0 C (br_t rfl h))),
        fun post h => by unfold wpY_write; exact ef_yH1 d4 (br_f (by decide) (ef_yR0 31 rfl C (h us))), fun us => ef_mk S T H⟩
  · exact ⟨-1, _, fun us => (sv, kd, iy, nm, ef_Y cp, sk, si, sn, ef_Y scp, dt, us, ef_Y hn), fun post h => by unfold wpX_write; exact ef_xH0 D (br_t rfl h), fun post h => by unfold wpY_write; exact ef_yH0 D (br_t rfl (h us)), fun us => ef_mk S T H⟩
theorem i_vc_write {k : Nat} {u : SX} {v : SY} (I : i_Rel k u v) (hk : k + 5 ≤ 2560) (v1 : Int32) (v2 : Int32) (v3 : Int32) : wpX_write (fun r u' => wpY_write (fun r' v' => r' = r ∧ i_Rel (k + 5) u' v') v v1 v2 v3) u v1 v2 v3 := by
  obtain ⟨sv, kd, iy, nm, sk, si, sn, dt, us, pa, cp, spa, scp, hn, rfl, rfl, S, T, H⟩ := I
  obtain ⟨r, u', V, hX, hY, R⟩ := ef_write (sv := sv) (dt := dt) (us := us) (k + 5) S T H v1 v2 v3
  exact hX _ (hY _ (fun us => ⟨rfl, R us⟩))
/-! B: read -/
theorem ef_read (S : ef_St kd iy nm pa cp) (H : ∀ j, j < 4 → hn j ≤ 16) (v1 v2 : Int32) : ∃ r,
    (∀ post : Int32 → Prop, post r → wpX_read post (sv, kd, pr, nm, ef_X 24 cp, sk, sp, sn, sc, dt, ef_X 16 hn) v1 v2) ∧ (∀ post : Int32 → Prop, post r → wpY_read post (sv, kd, iy, nm, ef_Y cp, sk, si, sn, sy, dt, us, ef_Y hn) v1 v2) := by
  by_cases D : ∃ j, j < 4 ∧ v1 = nI j
  · obtain ⟨d, d4, rfl⟩ := D
    have vd := vp_in_nI (n := d) (N := 4) d4 (by decide)
    have Hd := H d d4
    by_cases C : ∃ j, j < 32 ∧ v2 = nI j
    · obtain ⟨c, hc, rfl⟩ := C
      have c0 : ¬ nI c < 0 := nI_pos (by omega)
      have c31 : ¬ (31 : Int32) < nI c := nI_nlt (a := 31) (b := c) (by omega) (by decide)
      by_cases e : hn d = 16
      · exact ⟨0, fun post h => by unfold wpX_read; exact ef_xH1 d4 (br_f (by decide) (ef_xC1 hc (br_f (by decide) (ef_xFFa d4 e (br_f (by decide) h))))),
          fun post h => by unfold wpY_read; exact ef_yH1 d4 (br_f (by decide) (br_f c0 (br_f c31 (ef_yWa d4 e (br_f (by decide) h)))))⟩
      · have ed : hn d < 16 := by omega
        by_cases g : kd (hn d) = 2
        · have hp : 8 * hn d + c / 4 < 128 := by omega
          have vp := vp_in_nI (n := 8 * hn d + c / 4) (N := 128) hp (by decide)
          have cpl : (nI (8 * hn d + c / 4)).toNatClampNeg = 8 * hn d + c / 4 := nI_clamp (by omega)
          have ho := S.2.2.2.2.2.1 (8 * hn d + c / 4) hp
          by_cases q : cp (8 * hn d + c / 4) = 24
          · refine ⟨0, fun post h => ?_, fun post h => ?_⟩
            · unfold wpX_read
              refine ef_xH1 d4 (br_f (by decide) (ef_xC1 hc (br_f (by decide) (ef_xFFc d4 ed g (br_t rfl ⟨vd, by decide, ?_⟩)))))
              rw [ef_nXh d4 e, ef_d4 (by omega)]
              exact ef_xPl ⟨vp, nm_r (e' := -1) (by rw [cpl]; exact (ef_encI (by omega)).mpr q) (br_t rfl h)⟩
            · unfold wpY_read
              refine ef_yH1 d4 (br_f (by decide) (br_f c0 (br_f c31 (ef_yWc d4 ed g (br_t rfl ⟨vd, by decide, ?_⟩)))))
              rw [ef_nYh d4, ef_d4 (by omega), ef_pl8, cpl, ef_Yv, q]
              exact ⟨vp, nm_e (br_t rfl h)⟩
          · have lq : cp (8 * hn d + c / 4) < 24 := by omega
            refine ⟨dt (4 * cp (8 * hn d + c / 4) + c % 4), fun post h => ?_, fun post h => ?_⟩
            · unfold wpX_read
              refine ef_xH1 d4 (br_f (by decide) (ef_xC1 hc (br_f (by decide) (ef_xFFc d4 ed g (br_t rfl ⟨vd, by decide, ?_⟩)))))
              rw [ef_nXh d4 e, ef_r4 (by omega), ef_d4 (by omega)]
              refine ef_xPl ⟨vp, nm_r (e' := nI (cp (8 * hn d + c / 4))) (by rw [cpl]; exact ef_encN q) (br_f (ef_nn1 (by omega)) ⟨by decide, ?_⟩)⟩
              rw [ef_p4, nI_clamp (by omega)]
              exact ⟨vp_in_nI (by omega) (by decide), h⟩
            · unfold wpY_read
              refine ef_yH1 d4 (br_f (by decide) (br_f c0 (br_f c31 (ef_yWc d4 ed g (br_t rfl ⟨vd, by decide, ?_⟩)))))
              rw [ef_r4 (by omega), ef_nYh d4, ef_d4 (by omega), ef_pl8, cpl, ef_Yv]
              refine ⟨vp, nm_e (br_f (fun z => q ((nI_eq (b := 24) (by omega) (by decide)).mp z)) ⟨by decide, ?_⟩)⟩
              rw [ef_p48, nI_clamp (by omega)]
              exact ⟨vp_in_nI (by omega) (by decide), h⟩
        · exact ⟨0, fun post h => by unfold wpX_read; exact ef_xH1 d4 (br_f (by decide) (ef_xC1 hc (br_f (by decide) (ef_xFFb d4 ed g (br_f (by decide) h))))),
            fun post h => by unfold wpY_read; exact ef_yH1 d4 (br_f (by decide) (br_f c0 (br_f c31 (ef_yWb d4 ed g (br_f (by decide) h)))))⟩
    · refine ⟨0, fun post h => by unfold wpX_read; exact ef_xH1 d4 (br_f (by decide) (ef_xC0 C (br_t rfl h))), fun post h => ?_⟩
      unfold wpY_read
      refine ef_yH1 d4 (br_f (by decide) ?_)
      by_cases c0 : v2 < 0
      · exact br_t c0 h
      · obtain ⟨m, h1, h2, em⟩ := ef_out C c0
        exact br_f c0 (br_t (by rw [em]; exact nI_lt (a := 31) (by omega) h2) h)
  · exact ⟨0, fun post h => by unfold wpX_read; exact ef_xH0 D (br_t rfl h), fun post h => by unfold wpY_read; exact ef_yH0 D (br_t rfl h)⟩
theorem i_vc_read {k : Nat} {u : SX} {v : SY} (I : i_Rel k u v) (hk : k + 5 ≤ 2560) (v1 : Int32) (v2 : Int32) : wpX_read (fun r => wpY_read (fun r' => r' = r ∧ i_Rel (k + 5) u v) v v1 v2) u v1 v2 := by
  have R : i_Rel (k + 5) u v := i_up I
  obtain ⟨sv, kd, iy, nm, sk, si, sn, dt, us, pa, cp, spa, scp, hn, rfl, rfl, S, T, H⟩ := I
  obtain ⟨r, hX, hY⟩ := ef_read (sv := sv) (pr := ef_X 16 pa) (sk := sk) (sp := ef_X 16 spa) (sn := sn) (sc := ef_X 24 scp) (si := si) (sy := ef_Y scp) (dt := dt) (us := us) S H v1 v2
  exact hX _ (hY _ ⟨rfl, R⟩)
end EFT
end
section
/-! cut, kind, next, size, copies, nodes -/
section EFT
variable {sv : Int32} {kd iy nm sk si sn dt us pr cx sp sc cy sy no hy : Nat → Int32} {pa cp spa scp hn : Nat → Nat}
/-! A: cut -/
theorem ef_cut (k : Nat) (S : ef_St kd iy nm pa cp) (T : ef_St sk si sn spa scp) (H : ∀ j, j < 4 → hn j ≤ 16) (v1 v2 : Int32) : ∃ r u' v',
    (∀ post : Int32 → SX → Prop, post r u' → wpX_cut post (sv, kd, ef_X 16 pa, nm, ef_X 24 cp, sk, ef_X 16 spa, sn, ef_X 24 scp, dt, ef_X 16 hn) v1 v2) ∧
    (∀ post : Int32 → SY → Prop, post r v' → wpY_cut post (sv, kd, iy, nm, ef_Y cp, sk, si, sn, ef_Y scp, dt, us, ef_Y hn) v1 v2) ∧ i_Rel k u' v' := by
  by_cases D : ∃ j, j < 4 ∧ v1 = nI j
  · obtain ⟨d, d4, rfl⟩ := D
    have vd := vp_in_nI (n := d) (N := 4) d4 (by decide)
    have Hd := H d d4
    by_cases C : ∃ j, j < 8 ∧ v2 = nI j
    · obtain ⟨b, hb, rfl⟩ := C
      have b0 : ¬ nI b < 0 := nI_pos (by omega)
      have b8 : nI b < (8 : Int32) := nI_lt (b := 8) hb (by decide)
      by_cases e : hn d = 16
      · exact ⟨-3, _, _, fun post h => by unfold wpX_cut; exact ef_xH1 d4 (br_f (by decide) (br_f b0 (br_t b8 (ef_xFFa d4 e (br_f (by decide) h))))),
          fun post h => by unfold wpY_cut; exact ef_yH1 d4 (br_f (by decide) (ef_yR1 7 rfl (by decide) (by omega) (ef_yWa d4 e (br_f (by decide) h)))), ef_mk S T H⟩
      · have ed : hn d < 16 := by omega
        by_cases g : kd (hn d) = 2
        · exact ⟨nI (ef_cn (fun j => b ≤ j ∧ cp (8 * hn d + j) ≠ 24) 8), _, _, fun post h => by unfold wpX_cut; exact ef_xH1 d4 (br_f (by decide) (br_f b0 (br_t b8 (ef_xFFc d4 ed g (br_t rfl ⟨vd, by rw [ef_nXh d4 e]; exact ef_xDB ed (by omega) S.2.2.2.2.2.1 h⟩))))),
            fun post h => by unfold wpY_cut; exact ef_yH1 d4 (br_f (by decide) (ef_yR1 7 rfl (by decide) (by omega) (ef_yWc d4 ed g (br_t rfl (ef_yC39' d4 ed rfl (by omega) S.2.2.2.2.2.1 h))))), ef_mk (ef_St_cut S) T H⟩
        · exact ⟨-4, _, _, fun post h => by unfold wpX_cut; exact ef_xH1 d4 (br_f (by decide) (br_f b0 (br_t b8 (ef_xFFb d4 ed g (br_f (by decide) h))))),
            fun post h => by unfold wpY_cut; exact ef_yH1 d4 (br_f (by decide) (ef_yR1 7 rfl (by decide) (by omega) (ef_yWb d4 ed g (br_f (by decide) h)))), ef_mk S T H⟩
    · refine ⟨-1, _, _, fun post h => ?_, fun post h => by unfold wpY_cut; exact ef_yH1 d4 (br_f (by decide) (ef_yR0 7 rfl C h)), ef_mk S T H⟩
      unfold wpX_cut
      refine ef_xH1 d4 (br_f (by decide) ?_)
      by_cases c0 : v2 < 0
      · exact br_t c0 h
      · obtain ⟨m, h1, h2, em⟩ := ef_out C c0
        exact br_f c0 (br_f (by rw [em]; exact nI_nlt (b := 8) h1 h2) h)
  · exact ⟨-1, _, _, fun post h => by unfold wpX_cut; exact ef_xH0 D (br_t rfl h), fun post h => by unfold wpY_cut; exact ef_yH0 D (br_t rfl h), ef_mk S T H⟩
theorem i_vc_cut {k : Nat} {u : SX} {v : SY} (I : i_Rel k u v) (hk : k + 5 ≤ 2560) (v1 : Int32) (v2 : Int32) : wpX_cut (fun r u' => wpY_cut (fun r' v' => r' = r ∧ i_Rel (k + 5) u' v') v v1 v2) u v1 v2 := by
  obtain ⟨sv, kd, iy, nm, sk, si, sn, dt, us, pa, cp, spa, scp, hn, rfl, rfl, S, T, H⟩ := I
  obtain ⟨r, u', v', hX, hY, R⟩ := ef_cut (sv := sv) (dt := dt) (us := us) (k + 5) S T H v1 v2
  exact hX _ (hY _ ⟨rfl, R⟩)
/-! B: kind -/
theorem ef_kind (H : ∀ j, j < 4 → hn j ≤ 16) (v1 : Int32) : ∃ r,
    (∀ post : Int32 → Prop, post r → wpX_kind post (sv, kd, pr, nm, cx, sk, sp, sn, sc, dt, ef_X 16 hn) v1) ∧ (∀ post : Int32 → Prop, post r → wpY_kind post (sv, kd, iy, nm, cy, sk, si, sn, sy, dt, us, ef_Y hn) v1) := by
  by_cases D : ∃ j, j < 4 ∧ v1 = nI j
  · obtain ⟨d, d4, rfl⟩ := D
    have vd := vp_in_nI (n := d) (N := 4) d4 (by decide)
    have Hd := H d d4
    by_cases e : hn d = 16
    · exact ⟨0, fun post h => by unfold wpX_kind; exact ef_xH1 d4 (br_f (by decide) ⟨vd, nm_r (ef_nX16 d4 e) (br_t rfl h)⟩),
        fun post h => by unfold wpY_kind; exact ef_yH1 d4 (br_f (by decide) ⟨vd, br_t (ef_nY16 d4 e) h⟩)⟩
    · have ed : hn d < 16 := by omega
      have vh := vp_in_nI (n := hn d) (N := 16) ed (by decide)
      have ch := ef_cl ed (by omega)
      exact ⟨kd (hn d), fun post h => by unfold wpX_kind; exact ef_xH1 d4 (br_f (by decide) ⟨vd, nm_r (ef_nXh d4 e) (br_f (ef_nn1 (by omega)) ⟨vh, by rw [ch]; exact h⟩)⟩),
        fun post h => by unfold wpY_kind; exact ef_yH1 d4 (br_f (by decide) ⟨vd, br_f (ef_nY0 d4 ed) ⟨vd, by rw [ef_nYh d4]; exact ⟨vh, by rw [ch]; exact h⟩⟩⟩)⟩
  · exact ⟨-1, fun post h => by unfold wpX_kind; exact ef_xH0 D (br_t rfl h), fun post h => by unfold wpY_kind; exact ef_yH0 D (br_t rfl h)⟩
theorem i_vc_kind {k : Nat} {u : SX} {v : SY} (I : i_Rel k u v) (hk : k + 5 ≤ 2560) (v1 : Int32) : wpX_kind (fun r => wpY_kind (fun r' => r' = r ∧ i_Rel (k + 5) u v) v v1) u v1 := by
  have R : i_Rel (k + 5) u v := i_up I
  obtain ⟨sv, kd, iy, nm, sk, si, sn, dt, us, pa, cp, spa, scp, hn, rfl, rfl, S, T, H⟩ := I
  obtain ⟨r, hX, hY⟩ := ef_kind (sv := sv) (kd := kd) (iy := iy) (nm := nm) (sk := sk) (si := si) (sn := sn) (dt := dt) (us := us) (pr := ef_X 16 pa) (cx := ef_X 24 cp) (sp := ef_X 16 spa) (sc := ef_X 24 scp) (cy := ef_Y cp) (sy := ef_Y scp) H v1
  exact hX _ (hY _ ⟨rfl, R⟩)
/-! C: next -/
theorem ef_next (S : ef_St kd iy nm pa cp) (H : ∀ j, j < 4 → hn j ≤ 16) (v1 v2 : Int32) : ∃ r,
    (∀ post : Int32 → Prop, post r → wpX_next post (sv, kd, ef_X 16 pa, nm, cx, sk, sp, sn, sc, dt, ef_X 16 hn) v1 v2) ∧ (∀ post : Int32 → Prop, post r → wpY_next post (sv, kd, iy, nm, cy, sk, si, sn, sy, dt, us, ef_Y hn) v1 v2) := by
  by_cases D : ∃ j, j < 4 ∧ v1 = nI j
  · obtain ⟨d, d4, rfl⟩ := D
    have vd := vp_in_nI (n := d) (N := 4) d4 (by decide)
    have Hd := H d d4
    by_cases e : hn d = 16
    · exact ⟨-3, fun post h => by unfold wpX_next; exact ef_xH1 d4 (br_f (by decide) (ef_xDFa d4 e (br_f (by decide) h))),
        fun post h => by unfold wpY_next; exact ef_yH1 d4 (br_f (by decide) (ef_yWa d4 e (br_f (by decide) h)))⟩
    · have ed : hn d < 16 := by omega
      by_cases g : kd (hn d) = 1
      · have hm : ∀ j, j < 16 → (nm j).toNatClampNeg < 100 ∧ nm j = nI ((nm j).toNatClampNeg) := by
          intro j hj
          obtain ⟨q, hq, eq⟩ := S.2.2.1 j hj
          rw [eq, nI_clamp (by omega)]
          exact ⟨hq, rfl⟩
        exact ⟨ef_e3 (ef_nx (fun j => pa j = hn d ∧ ¬ nm j ≤ v2) (fun j => (nm j).toNatClampNeg) 16), fun post h => by unfold wpX_next; exact ef_xH1 d4 (br_f (by decide) (ef_xDFc d4 ed g (br_t rfl ⟨vd, nm_r (ef_nXh d4 e) (ef_xNx (fun j hj => ef_St_pa S hj) ed hm h)⟩))),
          fun post h => by unfold wpY_next; exact ef_yH1 d4 (br_f (by decide) (ef_yWc d4 ed g (br_t rfl (ef_yNx d4 rfl (fun j hj => ef_St_pos S hj) (fun j j1 j2 => ef_St_ent S j2 ed j1) (ef_St_top S ed) hm h))))⟩
      · exact ⟨-4, fun post h => by unfold wpX_next; exact ef_xH1 d4 (br_f (by decide) (ef_xDFb d4 ed g (br_f (by decide) h))),
          fun post h => by unfold wpY_next; exact ef_yH1 d4 (br_f (by decide) (ef_yWb d4 ed g (br_f (by decide) h)))⟩
  · exact ⟨-1, fun post h => by unfold wpX_next; exact ef_xH0 D (br_t rfl h), fun post h => by unfold wpY_next; exact ef_yH0 D (br_t rfl h)⟩
theorem i_vc_next {k : Nat} {u : SX} {v : SY} (I : i_Rel k u v) (hk : k + 5 ≤ 2560) (v1 : Int32) (v2 : Int32) : wpX_next (fun r => wpY_next (fun r' => r' = r ∧ i_Rel (k + 5) u v) v v1 v2) u v1 v2 := by
  have R : i_Rel (k + 5) u v := i_up I
  obtain ⟨sv, kd, iy, nm, sk, si, sn, dt, us, pa, cp, spa, scp, hn, rfl, rfl, S, T, H⟩ := I
  obtain ⟨r, hX, hY⟩ := ef_next (sv := sv) (sk := sk) (si := si) (sn := sn) (dt := dt) (us := us) (cx := ef_X 24 cp) (sp := ef_X 16 spa) (sc := ef_X 24 scp) (cy := ef_Y cp) (sy := ef_Y scp) S H v1 v2
  exact hX _ (hY _ ⟨rfl, R⟩)
/-! D: size -/
theorem ef_size (S : ef_St kd iy nm pa cp) (H : ∀ j, j < 4 → hn j ≤ 16) (v1 : Int32) : ∃ r,
    (∀ post : Int32 → Prop, post r → wpX_size post (sv, kd, ef_X 16 pa, nm, ef_X 24 cp, sk, sp, sn, sc, dt, ef_X 16 hn) v1) ∧ (∀ post : Int32 → Prop, post r → wpY_size post (sv, kd, iy, nm, ef_Y cp, sk, si, sn, sy, dt, us, ef_Y hn) v1) := by
  by_cases D : ∃ j, j < 4 ∧ v1 = nI j
  · obtain ⟨d, d4, rfl⟩ := D
    have vd := vp_in_nI (n := d) (N := 4) d4 (by decide)
    have Hd := H d d4
    by_cases e : hn d = 16
    · exact ⟨0, fun post h => by unfold wpX_size; exact ef_xH1 d4 (br_f (by decide) ⟨vd, nm_r (ef_nX16 d4 e) (br_t rfl h)⟩),
        fun post h => by unfold wpY_size; exact ef_yH1 d4 (br_f (by decide) ⟨vd, br_t (ef_nY16 d4 e) h⟩)⟩
    · have ed : hn d < 16 := by omega
      have vh := vp_in_nI (n := hn d) (N := 16) ed (by decide)
      have ch := ef_cl ed (by omega)
      by_cases g : kd (hn d) = 1
      · exact ⟨nI (ef_cn (fun j => pa j = hn d) 16), fun post h => by unfold wpX_size; exact ef_xH1 d4 (br_f (by decide) ⟨vd, nm_r (ef_nXh d4 e) (br_f (ef_nn1 (by omega)) ⟨vh, br_t (by rw [ch]; exact g) (ef_xCE (fun j hj => ef_St_pa S hj) ed h)⟩)⟩),
          fun post h => by unfold wpY_size; exact ef_yH1 d4 (br_f (by decide) ⟨vd, br_f (ef_nY0 d4 ed) ⟨vd, by rw [ef_nYh d4]; exact ⟨vh, br_t (by rw [ch]; exact g) ⟨vd, ef_yEn (fun j hj => ef_St_pos S hj) (fun j j1 j2 => ef_St_ent S j2 ed j1) (ef_St_top S ed) h⟩⟩⟩⟩)⟩
      · exact ⟨nI (ef_cn (fun b => cp (8 * hn d + b) ≠ 24) 8), fun post h => by unfold wpX_size; exact ef_xH1 d4 (br_f (by decide) ⟨vd, nm_r (ef_nXh d4 e) (br_f (ef_nn1 (by omega)) ⟨vh, br_f (by rw [ch]; exact g) (ef_xCB ed S.2.2.2.2.2.1 h)⟩)⟩),
          fun post h => by unfold wpY_size; exact ef_yH1 d4 (br_f (by decide) ⟨vd, br_f (ef_nY0 d4 ed) ⟨vd, by rw [ef_nYh d4]; exact ⟨vh, br_f (by rw [ch]; exact g) ⟨9, ef_yS53 d4 ed rfl S.2.2.2.2.2.1 h 9 0 (by omega) (by omega)⟩⟩⟩⟩)⟩
  · exact ⟨-1, fun post h => by unfold wpX_size; exact ef_xH0 D (br_t rfl h), fun post h => by unfold wpY_size; exact ef_yH0 D (br_t rfl h)⟩
theorem i_vc_size {k : Nat} {u : SX} {v : SY} (I : i_Rel k u v) (hk : k + 5 ≤ 2560) (v1 : Int32) : wpX_size (fun r => wpY_size (fun r' => r' = r ∧ i_Rel (k + 5) u v) v v1) u v1 := by
  have R : i_Rel (k + 5) u v := i_up I
  obtain ⟨sv, kd, iy, nm, sk, si, sn, dt, us, pa, cp, spa, scp, hn, rfl, rfl, S, T, H⟩ := I
  obtain ⟨r, hX, hY⟩ := ef_size (sv := sv) (sk := sk) (si := si) (sn := sn) (dt := dt) (us := us) (sp := ef_X 16 spa) (sc := ef_X 24 scp) (sy := ef_Y scp) S H v1
  exact hX _ (hY _ ⟨rfl, R⟩)
/-! E: copies, nodes -/
theorem i_vc_copies {k : Nat} {u : SX} {v : SY} (I : i_Rel k u v) (hk : k + 5 ≤ 2560) : wpX_copies (fun r => wpY_copies (fun r' v' => r' = r ∧ i_Rel (k + 5) u v') v) u := by
  obtain ⟨sv, kd, iy, nm, sk, si, sn, dt, us, pa, cp, spa, scp, hn, rfl, rfl, S, T, H⟩ := I
  exact ef_xCo S.2.2.2.2.2.1 T.2.2.2.2.2.1 (ef_yCo S T (fun us _ => ⟨rfl, ef_mk S T H⟩))
theorem i_vc_nodes {k : Nat} {u : SX} {v : SY} (I : i_Rel k u v) (hk : k + 5 ≤ 2560) : wpX_nodes (fun r => wpY_nodes (fun r' => r' = r ∧ i_Rel (k + 5) u v) v) u := by
  have R : i_Rel (k + 5) u v := i_up I
  obtain ⟨sv, kd, iy, nm, sk, si, sn, dt, us, pa, cp, spa, scp, hn, rfl, rfl, S, T, H⟩ := I
  exact ef_xNo (ef_yNo (fun j hj => ef_St_pos S hj) ⟨rfl, R⟩)
end EFT
end
section
/-! save, crash, the constructors -/
section EFT
variable {sv : Int32} {kd iy nm sk si sn dt us pr cx sp sc cy sy no hy : Nat → Int32} {pa cp spa scp hn : Nat → Nat}
/-! A: save -/
theorem ef_xSv {post : Int32 → SX → Prop} (h : post (sv + 1) (sv + 1, kd, ef_X 16 pa, nm, ef_X 24 cp, ef_mix 16 kd sk, ef_X 16 (ef_mix 16 pa spa), ef_mix 16 nm sn, ef_X 24 (ef_mix 128 cp scp), dt, no)) : wpX_save post (sv, kd, ef_X 16 pa, nm, ef_X 24 cp, sk, ef_X 16 spa, sn, ef_X 24 scp, dt, no) := by
  unfold wpX_save
  refine ef_xSP (nm_e ?_)
  rw [ef_mixX, ef_mixX]
  exact h
theorem ef_yS {post : Int32 → SY → Prop} (h : post (sv + 1) (sv + 1, kd, iy, nm, ef_Y cp, ef_mix 16 kd sk, ef_mix 16 iy si, ef_mix 16 nm sn, ef_Y (ef_mix 128 cp scp), dt, us, hy)) : wpY_save post (sv, kd, iy, nm, ef_Y cp, sk, si, sn, ef_Y scp, dt, us, hy) := by
  refine ef_ySv ?_
  rw [ef_mixY]
  exact h
theorem i_vc_save {k : Nat} {u : SX} {v : SY} (I : i_Rel k u v) (hk : k + 5 ≤ 2560) : wpX_save (fun r u' => wpY_save (fun r' v' => r' = r ∧ i_Rel (k + 5) u' v') v) u := by
  obtain ⟨sv, kd, iy, nm, sk, si, sn, dt, us, pa, cp, spa, scp, hn, rfl, rfl, S, T, H⟩ := I
  exact ef_xSv (ef_yS ⟨rfl, ef_mk S (ef_St_mix S) H⟩)
/-! B: crash -/
theorem ef_xC35 {post : Int32 → SX → Prop} (h : post sv (sv, ef_mix 16 sk kd, ef_X 16 (ef_mix 16 spa pa), ef_mix 16 sn nm, ef_X 24 (ef_mix 128 scp cp), sk, ef_X 16 spa, sn, ef_X 24 scp, dt, ef_X 16 (ef_fr 1 4 16 hn))) : wX_crash_35 post sv kd (ef_X 16 pa) nm (ef_X 24 cp) sk (ef_X 16 spa) sn (ef_X 24 scp) dt (ef_X 16 hn) := by
  unfold wX_crash_35
  refine ef_xFS (ef_xDH ?_)
  rw [ef_mixX, ef_mixX]
  exact h
theorem ef_yCr {post : Int32 → SY → Prop} (h : post sv (sv, ef_mix 16 sk kd, ef_mix 16 si iy, ef_mix 16 sn nm, ef_Y (ef_mix 128 scp cp), sk, si, sn, ef_Y scp, dt, us, ef_Y (ef_fr 1 4 16 hn))) : ∃ n, wY_crash_23 post sv n 0 kd iy nm (ef_Y cp) sk si sn (ef_Y scp) dt us (ef_Y hn) := by
  refine ef_yC23' ?_
  rw [ef_mixY]
  exact h
theorem ef_crash (k : Nat) (S : ef_St kd iy nm pa cp) (T : ef_St sk si sn spa scp) (H : ∀ j, j < 4 → hn j ≤ 16) (v1 : Int32) : ∃ r u' v',
    (∀ post : Int32 → SX → Prop, post r u' → wpX_crash post (sv, kd, ef_X 16 pa, nm, ef_X 24 cp, sk, ef_X 16 spa, sn, ef_X 24 scp, dt, ef_X 16 hn) v1) ∧
    (∀ post : Int32 → SY → Prop, post r v' → wpY_crash post (sv, kd, iy, nm, ef_Y cp, sk, si, sn, ef_Y scp, dt, us, ef_Y hn) v1) ∧ i_Rel k u' v' := by
  by_cases c1 : v1 = 1
  · subst c1
    refine ⟨sv + 1, (sv + 1, ef_mix 16 (ef_mix 16 kd sk) kd, ef_X 16 (ef_mix 16 (ef_mix 16 pa spa) pa), ef_mix 16 (ef_mix 16 nm sn) nm, ef_X 24 (ef_mix 128 (ef_mix 128 cp scp) cp), ef_mix 16 kd sk, ef_X 16 (ef_mix 16 pa spa), ef_mix 16 nm sn, ef_X 24 (ef_mix 128 cp scp), dt, ef_X 16 (ef_fr 1 4 16 hn)), (sv + 1, ef_mix 16 (ef_mix 16 kd sk) kd, ef_mix 16 (ef_mix 16 iy si) iy, ef_mix 16 (ef_mix 16 nm sn) nm, ef_Y (ef_mix 128 (ef_mix 128 cp scp) cp), ef_mix 16 kd sk, ef_mix 16 iy si, ef_mix 16 nm sn, ef_Y (ef_mix 128 cp scp), dt, us, ef_Y (ef_fr 1 4 16 hn)), fun post h => ?_, fun post h => ?_, ef_mk (ef_St_mix (ef_St_mix S)) (ef_St_mix S) (ef_Hf H)⟩
    · unfold wpX_crash
      refine br_f (by decide) (br_t rfl ?_)
      unfold wX_crash_16
      refine br_t rfl (ef_xSP (nm_e ?_))
      rw [ef_mixX, ef_mixX]
      exact ef_xC35 h
    · unfold wpY_crash
      exact br_f (by decide) (br_t (by decide) (br_t rfl (ef_yS (ef_yCr h))))
  · by_cases c02 : v1 = 0 ∨ v1 = 2
    · refine ⟨sv, (sv, ef_mix 16 sk kd, ef_X 16 (ef_mix 16 spa pa), ef_mix 16 sn nm, ef_X 24 (ef_mix 128 scp cp), sk, ef_X 16 spa, sn, ef_X 24 scp, dt, ef_X 16 (ef_fr 1 4 16 hn)), (sv, ef_mix 16 sk kd, ef_mix 16 si iy, ef_mix 16 sn nm, ef_Y (ef_mix 128 scp cp), sk, si, sn, ef_Y scp, dt, us, ef_Y (ef_fr 1 4 16 hn)), fun post h => ?_, fun post h => ?_, ef_mk (ef_St_mix T) T (ef_Hf H)⟩
      · have w : wX_crash_16 post v1 sv kd (ef_X 16 pa) nm (ef_X 24 cp) sk (ef_X 16 spa) sn (ef_X 24 scp) dt (ef_X 16 hn) := by
          unfold wX_crash_16
          exact br_f c1 (ef_xC35 h)
        unfold wpX_crash
        rcases c02 with e | e
        · exact br_t e w
        · exact br_f (by rw [e]; decide) (br_f c1 (br_t e w))
      · have w := ef_yCr h
        unfold wpY_crash
        rcases c02 with e | e
        · exact br_f (by rw [e]; decide) (br_t (by rw [e]; decide) (br_f c1 w))
        · exact br_f (by rw [e]; decide) (br_t (by rw [e]; decide) (br_f c1 w))
    · have hx : ¬ ∃ j, j < 2 + 1 ∧ v1 = nI j := by
        rintro ⟨j, hj, e⟩
        have o : j = 0 ∨ j = 1 ∨ j = 2 := by omega
        rcases o with z | z | z <;> rw [z] at e
        · exact c02 (Or.inl e)
        · exact c1 e
        · exact c02 (Or.inr e)
      exact ⟨-1, _, _, fun post h => by unfold wpX_crash; exact br_f (fun z => c02 (Or.inl z)) (br_f c1 (br_f (fun z => c02 (Or.inr z)) h)), fun post h => by unfold wpY_crash; exact ef_yR0 2 rfl hx h, ef_mk S T H⟩
theorem i_vc_crash {k : Nat} {u : SX} {v : SY} (I : i_Rel k u v) (hk : k + 5 ≤ 2560) (v1 : Int32) : wpX_crash (fun r u' => wpY_crash (fun r' v' => r' = r ∧ i_Rel (k + 5) u' v') v v1) u v1 := by
  obtain ⟨sv, kd, iy, nm, sk, si, sn, dt, us, pa, cp, spa, scp, hn, rfl, rfl, S, T, H⟩ := I
  obtain ⟨r, u', v', hX, hY, R⟩ := ef_crash (sv := sv) (dt := dt) (us := us) (k + 5) S T H v1
  exact hX _ (hY _ ⟨rfl, R⟩)
/-! C: the constructors -/
def ef_c0 : Nat → Nat := fun _ => 0
def ef_z : Nat → Int32 := fun _ => 0
def ef_k1 : Nat → Int32 := upd ef_z 0 1
def ef_p1 : Nat → Nat := ef_fr 0 16 16 ef_c0
def ef_q1 : Nat → Nat := ef_fr 0 128 24 ef_c0
theorem ef_X0 {B : Nat} (hB : B ≠ 0) : ef_X B ef_c0 = ef_z := by
  funext j
  exact (ef_encN (B := B) (n := 0) (Ne.symm hB)).trans nI_0
theorem ef_Y0 : ef_Y ef_c0 = ef_z := by
  funext j
  exact nI_0
theorem ef_i1 : ef_mix 16 ef_k1 ef_z = ef_k1 := by
  funext j
  by_cases h : j < 16
  · exact ef_mixl h
  · rw [ef_mixr h]
    exact (pk_un (f := ef_z) (by omega : j ≠ 0)).symm
theorem ef_i2 : ef_mix 16 (ef_X 16 ef_p1) ef_z = ef_X 16 ef_p1 := by
  funext j
  by_cases h : j < 16
  · exact ef_mixl h
  · rw [ef_mixr h, ← ef_X0 (B := 16) (by decide)]
    exact congrArg (ef_enc 16) (ef_frf (by omega)).symm
theorem ef_i3 : ef_mix 16 ef_z ef_z = ef_z := by
  funext j
  by_cases h : j < 16
  · exact ef_mixl h
  · exact ef_mixr h
theorem ef_i4 : ef_mix 128 (ef_X 24 ef_q1) ef_z = ef_X 24 ef_q1 := by
  funext j
  by_cases h : j < 128
  · exact ef_mixl h
  · rw [ef_mixr h, ← ef_X0 (B := 24) (by decide)]
    exact congrArg (ef_enc 24) (ef_frf (by omega)).symm
theorem ef_i5 : upd ef_z 0 0 = ef_X 16 ef_c0 := by
  rw [ef_X0 (by decide)]
  funext j
  by_cases h : j = 0
  · rw [h, pk_us]; rfl
  · rw [pk_un h]
theorem ef_x114 {post : SX → Prop} (h : post (0, ef_k1, ef_X 16 ef_p1, ef_z, ef_X 24 ef_q1, ef_k1, ef_X 16 ef_p1, ef_z, ef_X 24 ef_q1, ef_z, ef_X 16 (ef_fr 1 4 16 ef_c0))) : ∀ (n i : Nat), 16 < n + i → i ≤ 16 → wX_init_114 post 0 n (nI i) ef_z (ef_X 16 (ef_fr 0 i 16 ef_c0)) ef_z (ef_X 24 ef_q1) ef_z ef_z ef_z ef_z ef_z ef_z := by
  intro n
  induction n with
  | zero => intro i h1 h2; omega
  | succ n ih =>
    intro i h1 h2
    rw [wX_init_114]
    by_cases e : i = 16
    · subst e
      refine br_t (show (16 : Int32) ≤ nI 16 from by decide) (nm_r (e' := ef_k1) rfl (ef_xSP (nm_r ef_i5 (ef_xDH ?_))))
      rw [ef_i1, show ef_fr 0 16 16 ef_c0 = ef_p1 from rfl, ef_i2, ef_i3, ef_i4]
      exact h
    · have w := ih (i + 1) (by omega) (by omega)
      rw [← ef_frs (Nat.zero_le i), ← ef_XuB] at w
      refine br_f (nI_ge (b := 16) (by omega) (by decide)) ⟨vp_in_nI (by omega) (by decide), ?_⟩
      rw [nI_clamp (by omega)]
      exact nm_e (nm_r (nI_1 i) w)
theorem ef_x92 {post : SX → Prop} (h : post (0, ef_k1, ef_X 16 ef_p1, ef_z, ef_X 24 ef_q1, ef_k1, ef_X 16 ef_p1, ef_z, ef_X 24 ef_q1, ef_z, ef_X 16 (ef_fr 1 4 16 ef_c0))) : ∀ (n i : Nat), 128 < n + i → i ≤ 128 → wX_init_92 post 0 n (nI i) ef_z ef_z ef_z (ef_X 24 (ef_fr 0 i 24 ef_c0)) ef_z ef_z ef_z ef_z ef_z ef_z := by
  intro n
  induction n with
  | zero => intro i h1 h2; omega
  | succ n ih =>
    intro i h1 h2
    rw [wX_init_92]
    by_cases e : i = 128
    · subst e
      have w := ef_x114 h 17 0 (by omega) (by omega)
      rw [ef_fr0, ef_X0 (by decide)] at w
      exact br_t (show (128 : Int32) ≤ nI 128 from by decide) ⟨17, w⟩
    · have w := ih (i + 1) (by omega) (by omega)
      rw [← ef_frs (Nat.zero_le i), ← ef_XuB] at w
      refine br_f (nI_ge (b := 128) (by omega) (by decide)) ⟨vp_in_nI (by omega) (by decide), ?_⟩
      rw [nI_clamp (by omega)]
      exact nm_e (nm_r (nI_1 i) w)
theorem ef_xI {post : SX → Prop} (h : post (0, ef_k1, ef_X 16 ef_p1, ef_z, ef_X 24 ef_q1, ef_k1, ef_X 16 ef_p1, ef_z, ef_X 24 ef_q1, ef_z, ef_X 16 (ef_fr 1 4 16 ef_c0))) : wpX_init post := by
  have w := ef_x92 h 129 0 (by omega) (by omega)
  rw [ef_fr0, ef_X0 (by decide)] at w
  exact ⟨129, w⟩
theorem ef_y160 {post : SY → Prop} (h : post (0, ef_k1, ef_z, ef_z, ef_Y ef_q1, ef_k1, ef_z, ef_z, ef_Y ef_q1, ef_z, ef_z, ef_Y (ef_fr 1 4 16 ef_c0))) : ∀ (n i : Nat), 4 < n + i → 1 ≤ i → i ≤ 4 → wY_init_160 post 0 n (nI i) ef_k1 ef_z ef_z (ef_Y ef_q1) ef_k1 ef_z ef_z (ef_Y ef_q1) ef_z ef_z (ef_Y (ef_fr 1 i 16 ef_c0)) := by
  intro n
  induction n with
  | zero => intro i h1 h2; omega
  | succ n ih =>
    intro i h1 h2 h3
    rw [wY_init_160]
    by_cases e : i = 4
    · subst e
      exact br_t (show (4 : Int32) ≤ nI 4 from by decide) h
    · have w := ih (i + 1) (by omega) (by omega) (by omega)
      rw [← ef_frs h2, ← ef_Yu] at w
      refine br_f (nI_ge (b := 4) (by omega) (by decide)) ⟨vp_in_nI (by omega) (by decide), ?_⟩
      rw [nI_clamp (by omega)]
      exact nm_e (nm_r (nI_1 i) w)
theorem ef_y123 {post : SY → Prop} (h : post (0, ef_k1, ef_z, ef_z, ef_Y ef_q1, ef_k1, ef_z, ef_z, ef_Y ef_q1, ef_z, ef_z, ef_Y (ef_fr 1 4 16 ef_c0))) : ∀ (n i : Nat), 128 < n + i → i ≤ 128 → wY_init_123 post 0 n (nI i) ef_z ef_z ef_z (ef_Y ef_q1) ef_z ef_z ef_z (ef_Y (ef_fr 0 i 24 ef_c0)) ef_z ef_z ef_z := by
  intro n
  induction n with
  | zero => intro i h1 h2; omega
  | succ n ih =>
    intro i h1 h2
    rw [wY_init_123]
    by_cases e : i = 128
    · subst e
      have w := ef_y160 h 5 1 (by omega) (by omega) (by omega)
      rw [ef_fr0, ef_Y0] at w
      exact br_t (show (128 : Int32) ≤ nI 128 from by decide) (nm_r (e' := ef_k1) rfl (nm_r (e' := ef_k1) rfl ⟨5, w⟩))
    · have w := ih (i + 1) (by omega) (by omega)
      rw [← ef_frs (Nat.zero_le i), ← ef_Yu] at w
      refine br_f (nI_ge (b := 128) (by omega) (by decide)) ⟨vp_in_nI (by omega) (by decide), ?_⟩
      rw [nI_clamp (by omega)]
      exact nm_e (nm_r (nI_1 i) w)
theorem ef_y100 {post : SY → Prop} (h : post (0, ef_k1, ef_z, ef_z, ef_Y ef_q1, ef_k1, ef_z, ef_z, ef_Y ef_q1, ef_z, ef_z, ef_Y (ef_fr 1 4 16 ef_c0))) : ∀ (n i : Nat), 128 < n + i → i ≤ 128 → wY_init_100 post 0 n (nI i) ef_z ef_z ef_z (ef_Y (ef_fr 0 i 24 ef_c0)) ef_z ef_z ef_z ef_z ef_z ef_z ef_z := by
  intro n
  induction n with
  | zero => intro i h1 h2; omega
  | succ n ih =>
    intro i h1 h2
    rw [wY_init_100]
    by_cases e : i = 128
    · subst e
      have w := ef_y123 h 129 0 (by omega) (by omega)
      rw [ef_fr0, ef_Y0] at w
      exact br_t (show (128 : Int32) ≤ nI 128 from by decide) ⟨129, w⟩
    · have w := ih (i + 1) (by omega) (by omega)
      rw [← ef_frs (Nat.zero_le i), ← ef_Yu] at w
      refine br_f (nI_ge (b := 128) (by omega) (by decide)) ⟨vp_in_nI (by omega) (by decide), ?_⟩
      rw [nI_clamp (by omega)]
      exact nm_e (nm_r (nI_1 i) w)
theorem ef_yI {post : SY → Prop} (h : post (0, ef_k1, ef_z, ef_z, ef_Y ef_q1, ef_k1, ef_z, ef_z, ef_Y ef_q1, ef_z, ef_z, ef_Y (ef_fr 1 4 16 ef_c0))) : wpY_init post := by
  have w := ef_y100 h 129 0 (by omega) (by omega)
  rw [ef_fr0, ef_Y0] at w
  exact ⟨129, w⟩
theorem ef_S1 : ef_St ef_k1 ef_z ef_z ef_p1 ef_q1 := by
  refine ⟨pk_us, ?_, ?_, ?_, ?_, ?_, ?_⟩
  · intro j hj
    by_cases e : j = 0
    · rw [e]; exact Or.inr (Or.inl pk_us)
    · exact Or.inl (pk_un e)
  · intro j hj
    exact ⟨0, by omega, nI_0.symm⟩
  · intro j hj _
    exact ef_frt (Nat.zero_le j) hj
  · intro j hj j0 hz
    exact absurd (pk_un j0) hz
  · intro p hp
    exact Nat.le_of_eq (ef_frt (Nat.zero_le p) hp)
  · intro p hp _
    exact ef_frt (Nat.zero_le p) hp
theorem i_vc0 : wpX_init (fun u => wpY_init (fun v => i_Rel 0 u v)) :=
  ef_xI (ef_yI (ef_mk ef_S1 ef_S1 (ef_Hf (fun _ _ => Nat.zero_le _))))
end EFT
end
