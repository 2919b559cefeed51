/-! A: rows of the pure starting texts -/
theorem pk_us {f : Nat → Int32} {k : Nat} {x : Int32} : upd f k x k = x := if_pos rfl
theorem pk_un {f : Nat → Int32} {k j : Nat} {x : Int32} (h : j ≠ k) : upd f k x j = f j := if_neg h
theorem pk_sub {a b : Nat} (h : b ≤ a) : nI a - nI b = nI (a - b) := by
  obtain ⟨c, rfl⟩ : ∃ c, a = c + b := ⟨a - b, by omega⟩
  rw [← nI_add, Int32.add_sub_cancel, Nat.add_sub_cancel]
theorem pk_m1 (n : Nat) : nI (n + 1) + (-1) = nI n := by
  rw [← nI_1, Int32.add_assoc, show (1 : Int32) + (-1) = 0 from rfl, Int32.add_zero]
theorem pk_mul (a b : Nat) : nI a * nI b = nI (a * b) := (Int32.ofNat_mul a b).symm
theorem pk_div {a d : Nat} (ha : a < 2 ^ 31) (h0 : 0 < d) (hd : d < 2 ^ 31) : nI a / nI d = nI (a / d) := by
  apply Int32.toInt_inj.mp
  rw [lg_idiv_nonneg (by rw [nI_toInt ha]; omega) (by rw [nI_toInt hd]; omega), nI_toInt ha, nI_toInt hd, nI_toInt (Nat.lt_of_le_of_lt (Nat.div_le_self a d) ha)]
  first | rfl | exact (Int.natCast_ediv _ _).symm
theorem pk_rem {a d : Nat} (ha : a < 2 ^ 31) (h0 : 0 < d) (hd : d < 2 ^ 31) : nI a - nI a / nI d * nI d = nI (a % d) := by
  rw [pk_div ha h0 hd, pk_mul, pk_sub (Nat.div_mul_le_self a d)]
  exact congrArg nI (by have := Nat.div_add_mod' a d; omega)
theorem pk_ix (x : Int32) {n : Nat} (hn : n < 2 ^ 31) : x < 0 ∨ nI n ≤ x ∨ ∃ j : Nat, j < n ∧ x = nI j := by
  by_cases h : x < 0
  · exact Or.inl h
  · obtain ⟨j, hj, rfl⟩ := nI_of h
    by_cases h2 : j < n
    · exact Or.inr (Or.inr ⟨j, h2, rfl⟩)
    · exact Or.inr (Or.inl (nI_le (by omega) hj))
theorem pk_le {x y : Int32} {A B : Prop} (a b : Nat) (f : a ≤ b → A) (g : b < a → B) (hx : x = nI a := by rfl) (hy : y = nI b := by rfl) (ha : a < 2 ^ 31 := by omega) (hb : b < 2 ^ 31 := by omega) : (x ≤ y → A) ∧ (¬ x ≤ y → B) := by
  subst hx hy
  rw [nI_leI ha hb]
  exact ⟨f, fun z => g (by omega)⟩
theorem pk_lt {x y : Int32} {A B : Prop} (a b : Nat) (f : a < b → A) (g : b ≤ a → B) (hx : x = nI a := by rfl) (hy : y = nI b := by rfl) (ha : a < 2 ^ 31 := by omega) (hb : b < 2 ^ 31 := by omega) : (x < y → A) ∧ (¬ x < y → B) := by
  subst hx hy
  rw [nI_ltI ha hb]
  exact ⟨f, fun z => g (by omega)⟩
theorem pk_eq {x y : Int32} {A B : Prop} (a b : Nat) (f : a = b → A) (g : a ≠ b → B) (hx : x = nI a := by rfl) (hy : y = nI b := by rfl) (ha : a < 2 ^ 31 := by omega) (hb : b < 2 ^ 31 := by omega) : (x = y → A) ∧ (¬ x = y → B) := by
  subst hx hy
  rw [nI_eq ha hb]
  exact ⟨f, g⟩
theorem pk_in {x : Int32} (n N : Nat) (h : n < N) (hx : x = nI n := by rfl) (hN : N < 2 ^ 31 := by omega) : vp_in x N := by
  subst hx
  exact vp_in_nI h hN
theorem pk_cl {x : Int32} (n : Nat) (hx : x = nI n := by rfl) (h : n < 2 ^ 31 := by omega) : x.toNatClampNeg = n := by
  subst hx
  exact nI_clamp h
theorem pk_loop {σ : Type} (W : Nat → Nat → σ → Prop) (I : Nat → σ → Prop) (e i0 : Nat) (s : σ) (hi : i0 ≤ e) (h0 : I i0 s) (hx : ∀ n s, I e s → W (n + 1) e s)
    (hs : ∀ n i s, i < e → I i s → (∀ s', I (i + 1) s' → W n (i + 1) s') → W (n + 1) i s) : ∃ n, W n i0 s :=
  ⟨e + 1, loop_i W I e hx hs (e + 1) i0 s hi (by omega) h0⟩
theorem pk_loopD {σ : Type} (W : Nat → Nat → σ → Prop) (I : Nat → σ → Prop) (hx : ∀ n s, I 0 s → W (n + 1) 0 s)
    (hs : ∀ n i s, I (i + 1) s → (∀ s', I i s' → W n i s') → W (n + 1) (i + 1) s) : ∀ (e : Nat) (s : σ), I e s → W (e + 1) e s := by
  intro e
  induction e with
  | zero => exact fun s h => hx 0 s h
  | succ e ih => exact fun s h => hs (e + 1) e s h (fun s' h' => ih s' h')
theorem pk_least (P : Nat → Prop) (h : ∃ k, P k) : ∃ k, P k ∧ ∀ j, j < k → ¬ P j := by
  obtain ⟨k, hk⟩ := h
  induction k using Nat.strongRecOn with
  | ind k ih =>
    by_cases e : ∃ j, j < k ∧ P j
    · obtain ⟨j, hj, pj⟩ := e
      exact ih j hj pj
    · exact ⟨k, hk, fun j hj pj => e ⟨j, hj, pj⟩⟩
/-! B: numbers -/
theorem ef_nn1 {a : Nat} (h : a < 2 ^ 31) : ¬ nI a = -1 := by
  intro e
  have := nI_pos (n := a) h
  rw [e] at this
  exact this (by decide)
def ef_enc (B n : Nat) : Int32 := if n = B then -1 else nI n
theorem ef_encB {B : Nat} : ef_enc B B = -1 := if_pos rfl
theorem ef_encN {B n : Nat} (h : n ≠ B) : ef_enc B n = nI n := if_neg h
theorem ef_encI {B n : Nat} (hn : n < 2 ^ 31) : ef_enc B n = -1 ↔ n = B := by
  by_cases h : n = B
  · rw [h, ef_encB]; simp
  · rw [ef_encN h]; exact ⟨fun e => absurd e (ef_nn1 hn), fun e => absurd e h⟩
theorem ef_encE {B n m : Nat} (hn : n < 2 ^ 31) (hm : m < 2 ^ 31) (hB : m ≠ B) : ef_enc B n = nI m ↔ n = m := by
  by_cases h : n = B
  · rw [h, ef_encB]
    exact ⟨fun e => absurd e.symm (ef_nn1 hm), fun e => absurd e.symm hB⟩
  · rw [ef_encN h]; exact nI_eq hn hm
/-! C: array pictures -/
def ef_X (B : Nat) (f : Nat → Nat) : Nat → Int32 := fun j => ef_enc B (f j)
def ef_Y (f : Nat → Nat) : Nat → Int32 := fun j => nI (f j)
def ef_un (f : Nat → Nat) (k v : Nat) : Nat → Nat := fun j => if j = k then v else f j
theorem ef_uns {f : Nat → Nat} {k v : Nat} : ef_un f k v k = v := if_pos rfl
theorem ef_unn {f : Nat → Nat} {k v j : Nat} (h : j ≠ k) : ef_un f k v j = f j := if_neg h
theorem ef_Xu {B : Nat} {f : Nat → Nat} {k v : Nat} : upd (ef_X B f) k (ef_enc B v) = ef_X B (ef_un f k v) := by
  funext j
  by_cases h : j = k
  · rw [h, pk_us]; exact congrArg (ef_enc B) ef_uns.symm
  · rw [pk_un h]; exact congrArg (ef_enc B) (ef_unn h).symm
theorem ef_Yu {f : Nat → Nat} {k v : Nat} : upd (ef_Y f) k (nI v) = ef_Y (ef_un f k v) := by
  funext j
  by_cases h : j = k
  · rw [h, pk_us]; exact congrArg nI ef_uns.symm
  · rw [pk_un h]; exact congrArg nI (ef_unn h).symm
def ef_mix {α : Type} (i : Nat) (f t : Nat → α) : Nat → α := fun j => if j < i then f j else t j
theorem ef_mixl {α : Type} {i j : Nat} {f t : Nat → α} (h : j < i) : ef_mix i f t j = f j := if_pos h
theorem ef_mixr {α : Type} {i j : Nat} {f t : Nat → α} (h : ¬ j < i) : ef_mix i f t j = t j := if_neg h
theorem ef_mix0 {α : Type} {f t : Nat → α} : ef_mix 0 f t = t := funext fun _ => if_neg (Nat.not_lt_zero _)
theorem ef_mixs {i : Nat} {f t : Nat → Int32} : upd (ef_mix i f t) i (f i) = ef_mix (i + 1) f t := by
  funext j
  by_cases h : j = i
  · subst h; rw [pk_us, ef_mixl (Nat.lt_succ_self j)]
  · rw [pk_un h]
    by_cases g : j < i
    · rw [ef_mixl g, ef_mixl (by omega)]
    · rw [ef_mixr g, ef_mixr (by omega)]
theorem ef_mixX {B i : Nat} {f t : Nat → Nat} : ef_mix i (ef_X B f) (ef_X B t) = ef_X B (ef_mix i f t) := by
  funext j
  by_cases h : j < i
  · rw [ef_mixl h]; exact congrArg (ef_enc B) (ef_mixl h).symm
  · rw [ef_mixr h]; exact congrArg (ef_enc B) (ef_mixr h).symm
theorem ef_mixY {i : Nat} {f t : Nat → Nat} : ef_mix i (ef_Y f) (ef_Y t) = ef_Y (ef_mix i f t) := by
  funext j
  by_cases h : j < i
  · rw [ef_mixl h]; exact congrArg nI (ef_mixl h).symm
  · rw [ef_mixr h]; exact congrArg nI (ef_mixr h).symm
def ef_fr (lo hi v : Nat) (f : Nat → Nat) : Nat → Nat := fun j => if lo ≤ j ∧ j < hi then v else f j
theorem ef_frt {lo hi v j : Nat} {f : Nat → Nat} (h : lo ≤ j) (h' : j < hi) : ef_fr lo hi v f j = v := if_pos ⟨h, h'⟩
theorem ef_frf {lo hi v j : Nat} {f : Nat → Nat} (h : ¬ (lo ≤ j ∧ j < hi)) : ef_fr lo hi v f j = f j := if_neg h
theorem ef_fr0 {lo v : Nat} {f : Nat → Nat} : ef_fr lo lo v f = f := funext fun j => if_neg (by omega)
theorem ef_frs {lo i v : Nat} {f : Nat → Nat} (h : lo ≤ i) : ef_un (ef_fr lo i v f) i v = ef_fr lo (i + 1) v f := by
  funext j
  by_cases e : j = i
  · subst e; rw [ef_uns, ef_frt h (Nat.lt_succ_self j)]
  · rw [ef_unn e]
    by_cases g : lo ≤ j ∧ j < i
    · rw [ef_frt g.1 g.2, ef_frt g.1 (by omega)]
    · rw [ef_frf g, ef_frf (by omega)]
theorem ef_frk {lo i v : Nat} {f : Nat → Nat} (h : f i = v) : ef_fr lo i v f = ef_fr lo (i + 1) v f := by
  funext j
  by_cases g : lo ≤ j ∧ j < i
  · rw [ef_frt g.1 g.2, ef_frt g.1 (by omega)]
  · rw [ef_frf g]
    by_cases e : lo ≤ j ∧ j < i + 1
    · rw [ef_frt e.1 e.2, ← h]; exact congrArg f (by omega)
    · rw [ef_frf e]
theorem ef_fra {lo hi v : Nat} {f : Nat → Nat} (h : ∀ j, lo ≤ j → j < hi → f j = v) : ef_fr lo hi v f = f := by
  funext j
  by_cases g : lo ≤ j ∧ j < hi
  · rw [ef_frt g.1 g.2, h j g.1 g.2]
  · rw [ef_frf g]
/-! D: counts -/
noncomputable def ef_b (P : Prop) : Nat := @ite Nat P (Classical.propDecidable P) 1 0
theorem ef_b1 {P : Prop} (h : P) : ef_b P = 1 := if_pos h
theorem ef_b0 {P : Prop} (h : ¬ P) : ef_b P = 0 := if_neg h
noncomputable def ef_cn (P : Nat → Prop) : Nat → Nat
  | 0 => 0
  | i + 1 => ef_cn P i + ef_b (P i)
theorem ef_cnt {P : Nat → Prop} {i : Nat} (h : P i) : ef_cn P (i + 1) = ef_cn P i + 1 := by
  show ef_cn P i + ef_b (P i) = _
  rw [ef_b1 h]
theorem ef_cnf {P : Nat → Prop} {i : Nat} (h : ¬ P i) : ef_cn P (i + 1) = ef_cn P i := by
  show ef_cn P i + ef_b (P i) = _
  rw [ef_b0 h]; rfl
theorem ef_cnle (P : Nat → Prop) (n : Nat) : ef_cn P n ≤ n := by
  induction n with
  | zero => exact Nat.le_refl 0
  | succ n ih =>
    by_cases h : P n
    · rw [ef_cnt h]; omega
    · rw [ef_cnf h]; omega
theorem ef_cnc {P Q : Nat → Prop} {n : Nat} (h : ∀ j, j < n → (P j ↔ Q j)) : ef_cn P n = ef_cn Q n := by
  induction n with
  | zero => rfl
  | succ n ih =>
    have e := ih (fun j hj => h j (by omega))
    by_cases g : P n
    · rw [ef_cnt g, ef_cnt ((h n (by omega)).mp g), e]
    · rw [ef_cnf g, ef_cnf (fun q => g ((h n (by omega)).mpr q)), e]
theorem ef_cn0 {P : Nat → Prop} {n : Nat} (h : ∀ j, j < n → ¬ P j) : ef_cn P n = 0 := by
  induction n with
  | zero => rfl
  | succ n ih => rw [ef_cnf (h n (by omega)), ih (fun j hj => h j (by omega))]
theorem ef_cnz {P : Nat → Prop} {n : Nat} (h : ef_cn P n = 0) : ∀ j, j < n → ¬ P j := by
  induction n with
  | zero => intro j hj; omega
  | succ n ih =>
    by_cases g : P n
    · rw [ef_cnt g] at h; omega
    · rw [ef_cnf g] at h
      intro j hj
      by_cases e : j = n
      · rw [e]; exact g
      · exact ih h j (by omega)
theorem ef_cnl {P : Nat → Prop} {n j : Nat} (hj : j < n) (h : ¬ P j) : ef_cn P n < n := by
  induction n with
  | zero => omega
  | succ n ih =>
    by_cases g : P n
    · have e : j ≠ n := fun e => h (e ▸ g)
      rw [ef_cnt g]
      have := ih (by omega)
      omega
    · rw [ef_cnf g]
      have := ef_cnle P n
      omega
theorem ef_cna {P : Nat → Prop} {n : Nat} (h : ∀ j, j < n → P j) : ef_cn P n = n := by
  induction n with
  | zero => rfl
  | succ n ih => rw [ef_cnt (h n (by omega)), ih (fun j hj => h j (by omega))]
/-! E: the least of a range -/
theorem ef_least (P : Nat → Prop) (lo n : Nat) (hl : lo ≤ n) : ∃ r, lo ≤ r ∧ r ≤ n ∧ (r < n → P r) ∧ ∀ j, lo ≤ j → j < r → ¬ P j := by
  by_cases h : ∃ k, lo ≤ k ∧ k < n ∧ P k
  · obtain ⟨r, ⟨h1, h2, h3⟩, hm⟩ := pk_least (fun k => lo ≤ k ∧ k < n ∧ P k) h
    exact ⟨r, h1, by omega, fun _ => h3, fun j hj hr hp => hm j hr ⟨hj, by omega, hp⟩⟩
  · exact ⟨n, hl, Nat.le_refl n, fun z => absurd z (Nat.lt_irrefl n), fun j hj hr hp => h ⟨j, hj, hr, hp⟩⟩
