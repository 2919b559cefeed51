/-! save, crash, the constructors -/
section EFT
variable {sv : Int32} {kd iy nm sk si sn dt us pr cx sp sc cy sy no hy : Nat → Int32} {pa cp spa scp hn : Nat → Nat}
/-! A: save -/
theorem ef_xSv {post : Int32 → SX → Prop} (h : post (sv + 1) (sv + 1, kd, ef_X 16 pa, nm, ef_X 24 cp, ef_mix 16 kd sk, ef_X 16 (ef_mix 16 pa spa), ef_mix 16 nm sn, ef_X 24 (ef_mix 128 cp scp), dt, no)) : wpX_save post (sv, kd, ef_X 16 pa, nm, ef_X 24 cp, sk, ef_X 16 spa, sn, ef_X 24 scp, dt, no) := by
  unfold wpX_save
  refine ef_xSP (nm_e ?_)
  rw [ef_mixX, ef_mixX]
  exact h
theorem ef_yS {post : Int32 → SY → Prop} (h : post (sv + 1) (sv + 1, kd, iy, nm, ef_Y cp, ef_mix 16 kd sk, ef_mix 16 iy si, ef_mix 16 nm sn, ef_Y (ef_mix 128 cp scp), dt, us, hy)) : wpY_save post (sv, kd, iy, nm, ef_Y cp, sk, si, sn, ef_Y scp, dt, us, hy) := by
  refine ef_ySv ?_
  rw [ef_mixY]
  exact h
theorem i_vc_save {k : Nat} {u : SX} {v : SY} (I : i_Rel k u v) (hk : k + 5 ≤ 2560) : wpX_save (fun r u' => wpY_save (fun r' v' => r' = r ∧ i_Rel (k + 5) u' v') v) u := by
  obtain ⟨sv, kd, iy, nm, sk, si, sn, dt, us, pa, cp, spa, scp, hn, rfl, rfl, S, T, H⟩ := I
  exact ef_xSv (ef_yS ⟨rfl, ef_mk S (ef_St_mix S) H⟩)
/-! B: crash -/
theorem ef_xC35 {post : Int32 → SX → Prop} (h : post sv (sv, ef_mix 16 sk kd, ef_X 16 (ef_mix 16 spa pa), ef_mix 16 sn nm, ef_X 24 (ef_mix 128 scp cp), sk, ef_X 16 spa, sn, ef_X 24 scp, dt, ef_X 16 (ef_fr 1 4 16 hn))) : wX_crash_35 post sv kd (ef_X 16 pa) nm (ef_X 24 cp) sk (ef_X 16 spa) sn (ef_X 24 scp) dt (ef_X 16 hn) := by
  unfold wX_crash_35
  refine ef_xFS (ef_xDH ?_)
  rw [ef_mixX, ef_mixX]
  exact h
theorem ef_yCr {post : Int32 → SY → Prop} (h : post sv (sv, ef_mix 16 sk kd, ef_mix 16 si iy, ef_mix 16 sn nm, ef_Y (ef_mix 128 scp cp), sk, si, sn, ef_Y scp, dt, us, ef_Y (ef_fr 1 4 16 hn))) : ∃ n, wY_crash_23 post sv n 0 kd iy nm (ef_Y cp) sk si sn (ef_Y scp) dt us (ef_Y hn) := by
  refine ef_yC23' ?_
  rw [ef_mixY]
  exact h
theorem ef_crash (k : Nat) (S : ef_St kd iy nm pa cp) (T : ef_St sk si sn spa scp) (H : ∀ j, j < 4 → hn j ≤ 16) (v1 : Int32) : ∃ r u' v',
    (∀ post : Int32 → SX → Prop, post r u' → wpX_crash post (sv, kd, ef_X 16 pa, nm, ef_X 24 cp, sk, ef_X 16 spa, sn, ef_X 24 scp, dt, ef_X 16 hn) v1) ∧
    (∀ post : Int32 → SY → Prop, post r v' → wpY_crash post (sv, kd, iy, nm, ef_Y cp, sk, si, sn, ef_Y scp, dt, us, ef_Y hn) v1) ∧ i_Rel k u' v' := by
  by_cases c1 : v1 = 1
  · subst c1
    refine ⟨sv + 1, (sv + 1, ef_mix 16 (ef_mix 16 kd sk) kd, ef_X 16 (ef_mix 16 (ef_mix 16 pa spa) pa), ef_mix 16 (ef_mix 16 nm sn) nm, ef_X 24 (ef_mix 128 (ef_mix 128 cp scp) cp), ef_mix 16 kd sk, ef_X 16 (ef_mix 16 pa spa), ef_mix 16 nm sn, ef_X 24 (ef_mix 128 cp scp), dt, ef_X 16 (ef_fr 1 4 16 hn)), (sv + 1, ef_mix 16 (ef_mix 16 kd sk) kd, ef_mix 16 (ef_mix 16 iy si) iy, ef_mix 16 (ef_mix 16 nm sn) nm, ef_Y (ef_mix 128 (ef_mix 128 cp scp) cp), ef_mix 16 kd sk, ef_mix 16 iy si, ef_mix 16 nm sn, ef_Y (ef_mix 128 cp scp), dt, us, ef_Y (ef_fr 1 4 16 hn)), fun post h => ?_, fun post h => ?_, ef_mk (ef_St_mix (ef_St_mix S)) (ef_St_mix S) (ef_Hf H)⟩
    · unfold wpX_crash
      refine br_f (by decide) (br_t rfl ?_)
      unfold wX_crash_16
      refine br_t rfl (ef_xSP (nm_e ?_))
      rw [ef_mixX, ef_mixX]
      exact ef_xC35 h
    · unfold wpY_crash
      exact br_f (by decide) (br_t (by decide) (br_t rfl (ef_yS (ef_yCr h))))
  · by_cases c02 : v1 = 0 ∨ v1 = 2
    · refine ⟨sv, (sv, ef_mix 16 sk kd, ef_X 16 (ef_mix 16 spa pa), ef_mix 16 sn nm, ef_X 24 (ef_mix 128 scp cp), sk, ef_X 16 spa, sn, ef_X 24 scp, dt, ef_X 16 (ef_fr 1 4 16 hn)), (sv, ef_mix 16 sk kd, ef_mix 16 si iy, ef_mix 16 sn nm, ef_Y (ef_mix 128 scp cp), sk, si, sn, ef_Y scp, dt, us, ef_Y (ef_fr 1 4 16 hn)), fun post h => ?_, fun post h => ?_, ef_mk (ef_St_mix T) T (ef_Hf H)⟩
      · have w : wX_crash_16 post v1 sv kd (ef_X 16 pa) nm (ef_X 24 cp) sk (ef_X 16 spa) sn (ef_X 24 scp) dt (ef_X 16 hn) := by
          unfold wX_crash_16
          exact br_f c1 (ef_xC35 h)
        unfold wpX_crash
        rcases c02 with e | e
        · exact br_t e w
        · exact br_f (by rw [e]; decide) (br_f c1 (br_t e w))
      · have w := ef_yCr h
        unfold wpY_crash
        rcases c02 with e | e
        · exact br_f (by rw [e]; decide) (br_t (by rw [e]; decide) (br_f c1 w))
        · exact br_f (by rw [e]; decide) (br_t (by rw [e]; decide) (br_f c1 w))
    · have hx : ¬ ∃ j, j < 2 + 1 ∧ v1 = nI j := by
        rintro ⟨j, hj, e⟩
        have o : j = 0 ∨ j = 1 ∨ j = 2 := by omega
        rcases o with z | z | z <;> rw [z] at e
        · exact c02 (Or.inl e)
        · exact c1 e
        · exact c02 (Or.inr e)
      exact ⟨-1, _, _, fun post h => by unfold wpX_crash; exact br_f (fun z => c02 (Or.inl z)) (br_f c1 (br_f (fun z => c02 (Or.inr z)) h)), fun post h => by unfold wpY_crash; exact ef_yR0 2 rfl hx h, ef_mk S T H⟩
theorem i_vc_crash {k : Nat} {u : SX} {v : SY} (I : i_Rel k u v) (hk : k + 5 ≤ 2560) (v1 : Int32) : wpX_crash (fun r u' => wpY_crash (fun r' v' => r' = r ∧ i_Rel (k + 5) u' v') v v1) u v1 := by
  obtain ⟨sv, kd, iy, nm, sk, si, sn, dt, us, pa, cp, spa, scp, hn, rfl, rfl, S, T, H⟩ := I
  obtain ⟨r, u', v', hX, hY, R⟩ := ef_crash (sv := sv) (dt := dt) (us := us) (k + 5) S T H v1
  exact hX _ (hY _ ⟨rfl, R⟩)
/-! C: the constructors -/
def ef_c0 : Nat → Nat := fun _ => 0
def ef_z : Nat → Int32 := fun _ => 0
def ef_k1 : Nat → Int32 := upd ef_z 0 1
def ef_p1 : Nat → Nat := ef_fr 0 16 16 ef_c0
def ef_q1 : Nat → Nat := ef_fr 0 128 24 ef_c0
theorem ef_X0 {B : Nat} (hB : B ≠ 0) : ef_X B ef_c0 = ef_z := by
  funext j
  exact (ef_encN (B := B) (n := 0) (Ne.symm hB)).trans nI_0
theorem ef_Y0 : ef_Y ef_c0 = ef_z := by
  funext j
  exact nI_0
theorem ef_i1 : ef_mix 16 ef_k1 ef_z = ef_k1 := by
  funext j
  by_cases h : j < 16
  · exact ef_mixl h
  · rw [ef_mixr h]
    exact (pk_un (f := ef_z) (by omega : j ≠ 0)).symm
theorem ef_i2 : ef_mix 16 (ef_X 16 ef_p1) ef_z = ef_X 16 ef_p1 := by
  funext j
  by_cases h : j < 16
  · exact ef_mixl h
  · rw [ef_mixr h, ← ef_X0 (B := 16) (by decide)]
    exact congrArg (ef_enc 16) (ef_frf (by omega)).symm
theorem ef_i3 : ef_mix 16 ef_z ef_z = ef_z := by
  funext j
  by_cases h : j < 16
  · exact ef_mixl h
  · exact ef_mixr h
theorem ef_i4 : ef_mix 128 (ef_X 24 ef_q1) ef_z = ef_X 24 ef_q1 := by
  funext j
  by_cases h : j < 128
  · exact ef_mixl h
  · rw [ef_mixr h, ← ef_X0 (B := 24) (by decide)]
    exact congrArg (ef_enc 24) (ef_frf (by omega)).symm
theorem ef_i5 : upd ef_z 0 0 = ef_X 16 ef_c0 := by
  rw [ef_X0 (by decide)]
  funext j
  by_cases h : j = 0
  · rw [h, pk_us]; rfl
  · rw [pk_un h]
theorem ef_x114 {post : SX → Prop} (h : post (0, ef_k1, ef_X 16 ef_p1, ef_z, ef_X 24 ef_q1, ef_k1, ef_X 16 ef_p1, ef_z, ef_X 24 ef_q1, ef_z, ef_X 16 (ef_fr 1 4 16 ef_c0))) : ∀ (n i : Nat), 16 < n + i → i ≤ 16 → wX_init_114 post 0 n (nI i) ef_z (ef_X 16 (ef_fr 0 i 16 ef_c0)) ef_z (ef_X 24 ef_q1) ef_z ef_z ef_z ef_z ef_z ef_z := by
  intro n
  induction n with
  | zero => intro i h1 h2; omega
  | succ n ih =>
    intro i h1 h2
    rw [wX_init_114]
    by_cases e : i = 16
    · subst e
      refine br_t (show (16 : Int32) ≤ nI 16 from by decide) (nm_r (e' := ef_k1) rfl (ef_xSP (nm_r ef_i5 (ef_xDH ?_))))
      rw [ef_i1, show ef_fr 0 16 16 ef_c0 = ef_p1 from rfl, ef_i2, ef_i3, ef_i4]
      exact h
    · have w := ih (i + 1) (by omega) (by omega)
      rw [← ef_frs (Nat.zero_le i), ← ef_XuB] at w
      refine br_f (nI_ge (b := 16) (by omega) (by decide)) ⟨vp_in_nI (by omega) (by decide), ?_⟩
      rw [nI_clamp (by omega)]
      exact nm_e (nm_r (nI_1 i) w)
theorem ef_x92 {post : SX → Prop} (h : post (0, ef_k1, ef_X 16 ef_p1, ef_z, ef_X 24 ef_q1, ef_k1, ef_X 16 ef_p1, ef_z, ef_X 24 ef_q1, ef_z, ef_X 16 (ef_fr 1 4 16 ef_c0))) : ∀ (n i : Nat), 128 < n + i → i ≤ 128 → wX_init_92 post 0 n (nI i) ef_z ef_z ef_z (ef_X 24 (ef_fr 0 i 24 ef_c0)) ef_z ef_z ef_z ef_z ef_z ef_z := by
  intro n
  induction n with
  | zero => intro i h1 h2; omega
  | succ n ih =>
    intro i h1 h2
    rw [wX_init_92]
    by_cases e : i = 128
    · subst e
      have w := ef_x114 h 17 0 (by omega) (by omega)
      rw [ef_fr0, ef_X0 (by decide)] at w
      exact br_t (show (128 : Int32) ≤ nI 128 from by decide) ⟨17, w⟩
    · have w := ih (i + 1) (by omega) (by omega)
      rw [← ef_frs (Nat.zero_le i), ← ef_XuB] at w
      refine br_f (nI_ge (b := 128) (by omega) (by decide)) ⟨vp_in_nI (by omega) (by decide), ?_⟩
      rw [nI_clamp (by omega)]
      exact nm_e (nm_r (nI_1 i) w)
theorem ef_xI {post : SX → Prop} (h : post (0, ef_k1, ef_X 16 ef_p1, ef_z, ef_X 24 ef_q1, ef_k1, ef_X 16 ef_p1, ef_z, ef_X 24 ef_q1, ef_z, ef_X 16 (ef_fr 1 4 16 ef_c0))) : wpX_init post := by
  have w := ef_x92 h 129 0 (by omega) (by omega)
  rw [ef_fr0, ef_X0 (by decide)] at w
  exact ⟨129, w⟩
theorem ef_y160 {post : SY → Prop} (h : post (0, ef_k1, ef_z, ef_z, ef_Y ef_q1, ef_k1, ef_z, ef_z, ef_Y ef_q1, ef_z, ef_z, ef_Y (ef_fr 1 4 16 ef_c0))) : ∀ (n i : Nat), 4 < n + i → 1 ≤ i → i ≤ 4 → wY_init_160 post 0 n (nI i) ef_k1 ef_z ef_z (ef_Y ef_q1) ef_k1 ef_z ef_z (ef_Y ef_q1) ef_z ef_z (ef_Y (ef_fr 1 i 16 ef_c0)) := by
  intro n
  induction n with
  | zero => intro i h1 h2; omega
  | succ n ih =>
    intro i h1 h2 h3
    rw [wY_init_160]
    by_cases e : i = 4
    · subst e
      exact br_t (show (4 : Int32) ≤ nI 4 from by decide) h
    · have w := ih (i + 1) (by omega) (by omega) (by omega)
      rw [← ef_frs h2, ← ef_Yu] at w
      refine br_f (nI_ge (b := 4) (by omega) (by decide)) ⟨vp_in_nI (by omega) (by decide), ?_⟩
      rw [nI_clamp (by omega)]
      exact nm_e (nm_r (nI_1 i) w)
theorem ef_y123 {post : SY → Prop} (h : post (0, ef_k1, ef_z, ef_z, ef_Y ef_q1, ef_k1, ef_z, ef_z, ef_Y ef_q1, ef_z, ef_z, ef_Y (ef_fr 1 4 16 ef_c0))) : ∀ (n i : Nat), 128 < n + i → i ≤ 128 → wY_init_123 post 0 n (nI i) ef_z ef_z ef_z (ef_Y ef_q1) ef_z ef_z ef_z (ef_Y (ef_fr 0 i 24 ef_c0)) ef_z ef_z ef_z := by
  intro n
  induction n with
  | zero => intro i h1 h2; omega
  | succ n ih =>
    intro i h1 h2
    rw [wY_init_123]
    by_cases e : i = 128
    · subst e
      have w := ef_y160 h 5 1 (by omega) (by omega) (by omega)
      rw [ef_fr0, ef_Y0] at w
      exact br_t (show (128 : Int32) ≤ nI 128 from by decide) (nm_r (e' := ef_k1) rfl (nm_r (e' := ef_k1) rfl ⟨5, w⟩))
    · have w := ih (i + 1) (by omega) (by omega)
      rw [← ef_frs (Nat.zero_le i), ← ef_Yu] at w
      refine br_f (nI_ge (b := 128) (by omega) (by decide)) ⟨vp_in_nI (by omega) (by decide), ?_⟩
      rw [nI_clamp (by omega)]
      exact nm_e (nm_r (nI_1 i) w)
theorem ef_y100 {post : SY → Prop} (h : post (0, ef_k1, ef_z, ef_z, ef_Y ef_q1, ef_k1, ef_z, ef_z, ef_Y ef_q1, ef_z, ef_z, ef_Y (ef_fr 1 4 16 ef_c0))) : ∀ (n i : Nat), 128 < n + i → i ≤ 128 → wY_init_100 post 0 n (nI i) ef_z ef_z ef_z (ef_Y (ef_fr 0 i 24 ef_c0)) ef_z ef_z ef_z ef_z ef_z ef_z ef_z := by
  intro n
  induction n with
  | zero => intro i h1 h2; omega
  | succ n ih =>
    intro i h1 h2
    rw [wY_init_100]
    by_cases e : i = 128
    · subst e
      have w := ef_y123 h 129 0 (by omega) (by omega)
      rw [ef_fr0, ef_Y0] at w
      exact br_t (show (128 : Int32) ≤ nI 128 from by decide) ⟨129, w⟩
    · have w := ih (i + 1) (by omega) (by omega)
      rw [← ef_frs (Nat.zero_le i), ← ef_Yu] at w
      refine br_f (nI_ge (b := 128) (by omega) (by decide)) ⟨vp_in_nI (by omega) (by decide), ?_⟩
      rw [nI_clamp (by omega)]
      exact nm_e (nm_r (nI_1 i) w)
theorem ef_yI {post : SY → Prop} (h : post (0, ef_k1, ef_z, ef_z, ef_Y ef_q1, ef_k1, ef_z, ef_z, ef_Y ef_q1, ef_z, ef_z, ef_Y (ef_fr 1 4 16 ef_c0))) : wpY_init post := by
  have w := ef_y100 h 129 0 (by omega) (by omega)
  rw [ef_fr0, ef_Y0] at w
  exact ⟨129, w⟩
theorem ef_S1 : ef_St ef_k1 ef_z ef_z ef_p1 ef_q1 := by
  refine ⟨pk_us, ?_, ?_, ?_, ?_, ?_, ?_⟩
  · intro j hj
    by_cases e : j = 0
    · rw [e]; exact Or.inr (Or.inl pk_us)
    · exact Or.inl (pk_un e)
  · intro j hj
    exact ⟨0, by omega, nI_0.symm⟩
  · intro j hj _
    exact ef_frt (Nat.zero_le j) hj
  · intro j hj j0 hz
    exact absurd (pk_un j0) hz
  · intro p hp
    exact Nat.le_of_eq (ef_frt (Nat.zero_le p) hp)
  · intro p hp _
    exact ef_frt (Nat.zero_le p) hp
theorem i_vc0 : wpX_init (fun u => wpY_init (fun v => i_Rel 0 u v)) :=
  ef_xI (ef_yI (ef_mk ef_S1 ef_S1 (ef_Hf (fun _ _ => Nat.zero_le _))))
end EFT
