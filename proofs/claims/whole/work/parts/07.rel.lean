/-! the relation, and what its cases share -/
def i_Rel (_ : Nat) (u : SX) (v : SY) : Prop := ∃ (sv : Int32) (kd iy nm sk si sn dt us : Nat → Int32) (pa cp spa scp hn : Nat → Nat), u = (sv, kd, ef_X 16 pa, nm, ef_X 24 cp, sk, ef_X 16 spa, sn, ef_X 24 scp, dt, ef_X 16 hn) ∧ v = (sv, kd, iy, nm, ef_Y cp, sk, si, sn, ef_Y scp, dt, us, ef_Y hn) ∧ ef_St kd iy nm pa cp ∧ ef_St sk si sn spa scp ∧ (∀ j, j < 4 → hn j ≤ 16)
theorem i_up {k : Nat} {u : SX} {v : SY} (h : i_Rel k u v) : i_Rel (k + 5) u v := h
section EFR
variable {sv : Int32} {kd iy nm sk si sn dt us pr cx cy sp sc sy no hy : Nat → Int32} {pa cp spa scp hn : Nat → Nat}
theorem ef_mk {k : Nat} (S : ef_St kd iy nm pa cp) (T : ef_St sk si sn spa scp) (H : ∀ j, j < 4 → hn j ≤ 16) : i_Rel k (sv, kd, ef_X 16 pa, nm, ef_X 24 cp, sk, ef_X 16 spa, sn, ef_X 24 scp, dt, ef_X 16 hn) (sv, kd, iy, nm, ef_Y cp, sk, si, sn, ef_Y scp, dt, us, ef_Y hn) :=
  ⟨sv, kd, iy, nm, sk, si, sn, dt, us, pa, cp, spa, scp, hn, rfl, rfl, S, T, H⟩
theorem ef_Hu (H : ∀ j, j < 4 → hn j ≤ 16) {a r : Nat} (hr : r ≤ 16) : ∀ j, j < 4 → ef_un hn a r j ≤ 16 := by
  intro j hj
  by_cases e : j = a
  · rw [e, ef_uns]; exact hr
  · rw [ef_unn e]; exact H j hj
theorem ef_Hf (H : ∀ j, j < 4 → hn j ≤ 16) : ∀ j, j < 4 → ef_fr 1 4 16 hn j ≤ 16 := by
  intro j hj
  by_cases e : 1 ≤ j ∧ j < 4
  · rw [ef_frt e.1 e.2]; exact Nat.le_refl _
  · rw [ef_frf e]; exact H j hj
/-! A: faults, a case each -/
theorem ef_xDFa {post : Int32 → Prop} {j : Nat} (hj : j < 4) (e : hn j = 16) (h : post (-3)) : wpX_directoryFault post (sv, kd, pr, nm, cx, sk, sp, sn, sc, dt, ef_X 16 hn) (nI j) :=
  ef_xDF hj (by omega) (fun _ => h) (fun z => absurd z (by omega)) (fun z => absurd z (by omega))
theorem ef_xDFb {post : Int32 → Prop} {j : Nat} (hj : j < 4) (e : hn j < 16) (g : ¬ kd (hn j) = 1) (h : post (-4)) : wpX_directoryFault post (sv, kd, pr, nm, cx, sk, sp, sn, sc, dt, ef_X 16 hn) (nI j) :=
  ef_xDF hj (by omega) (fun z => absurd z (by omega)) (fun _ z => absurd z g) (fun _ _ => h)
theorem ef_xDFc {post : Int32 → Prop} {j : Nat} (hj : j < 4) (e : hn j < 16) (g : kd (hn j) = 1) (h : post 0) : wpX_directoryFault post (sv, kd, pr, nm, cx, sk, sp, sn, sc, dt, ef_X 16 hn) (nI j) :=
  ef_xDF hj (by omega) (fun z => absurd z (by omega)) (fun _ _ => h) (fun _ z => absurd g z)
theorem ef_xFFa {post : Int32 → Prop} {j : Nat} (hj : j < 4) (e : hn j = 16) (h : post (-3)) : wpX_fileFault post (sv, kd, pr, nm, cx, sk, sp, sn, sc, dt, ef_X 16 hn) (nI j) :=
  ef_xFF hj (by omega) (fun _ => h) (fun z => absurd z (by omega)) (fun z => absurd z (by omega))
theorem ef_xFFb {post : Int32 → Prop} {j : Nat} (hj : j < 4) (e : hn j < 16) (g : ¬ kd (hn j) = 2) (h : post (-4)) : wpX_fileFault post (sv, kd, pr, nm, cx, sk, sp, sn, sc, dt, ef_X 16 hn) (nI j) :=
  ef_xFF hj (by omega) (fun z => absurd z (by omega)) (fun _ z => absurd z g) (fun _ _ => h)
theorem ef_xFFc {post : Int32 → Prop} {j : Nat} (hj : j < 4) (e : hn j < 16) (g : kd (hn j) = 2) (h : post 0) : wpX_fileFault post (sv, kd, pr, nm, cx, sk, sp, sn, sc, dt, ef_X 16 hn) (nI j) :=
  ef_xFF hj (by omega) (fun z => absurd z (by omega)) (fun _ _ => h) (fun _ z => absurd g z)
theorem ef_yWa {post : Int32 → Prop} {j : Nat} {t : Int32} (hj : j < 4) (e : hn j = 16) (h : post (-3)) : wpY_want post (sv, kd, iy, nm, cy, sk, si, sn, sy, dt, us, ef_Y hn) (nI j) t :=
  ef_yW hj (by omega) (fun _ => h) (fun z => absurd z (by omega)) (fun z => absurd z (by omega))
theorem ef_yWb {post : Int32 → Prop} {j : Nat} {t : Int32} (hj : j < 4) (e : hn j < 16) (g : ¬ kd (hn j) = t) (h : post (-4)) : wpY_want post (sv, kd, iy, nm, cy, sk, si, sn, sy, dt, us, ef_Y hn) (nI j) t :=
  ef_yW hj (by omega) (fun z => absurd z (by omega)) (fun _ z => absurd z g) (fun _ _ => h)
theorem ef_yWc {post : Int32 → Prop} {j : Nat} {t : Int32} (hj : j < 4) (e : hn j < 16) (g : kd (hn j) = t) (h : post 0) : wpY_want post (sv, kd, iy, nm, cy, sk, si, sn, sy, dt, us, ef_Y hn) (nI j) t :=
  ef_yW hj (by omega) (fun z => absurd z (by omega)) (fun _ _ => h) (fun _ z => absurd g z)
/-! B: an entry found, by both -/
theorem ef_find (S : ef_St kd iy nm pa cp) {d : Nat} (hd : d < 16) (y : Int32) : ∃ r, 1 ≤ r ∧ r ≤ 16 ∧ (r < 16 → pa r = d ∧ nm r = y) ∧
    (∀ (post : Int32 → Prop) (sv : Int32) (cx sk sp sn sc dt no : Nat → Int32), post (ef_enc 16 r) → wpX_entryOf post (sv, kd, ef_X 16 pa, nm, cx, sk, sp, sn, sc, dt, no) (nI d) y) ∧
    (∀ (post : Int32 → Prop) (sv : Int32) (cy sk si sn sy dt us hy : Nat → Int32), post (nI r) → wpY_find post (sv, kd, iy, nm, cy, sk, si, sn, sy, dt, us, hy) (nI d) y) := by
  obtain ⟨r, h1, h2, h3, h4⟩ := ef_least (fun j => pa j = d ∧ nm j = y) 0 16 (by omega)
  have h5 : 1 ≤ r := by
    apply Nat.le_of_not_lt
    intro z
    have e : r = 0 := by omega
    rw [e] at h3
    exact ef_St_top S hd (h3 (by omega)).1
  have h6 : ∀ j, j < r → ¬ (pa j = d ∧ nm j = y) := fun j hj => h4 j (Nat.zero_le j) hj
  exact ⟨r, h5, h2, h3, fun post sv cx sk sp sn sc dt no h => ef_xEnt (fun j hj => ef_St_pa S hj) hd h2 h3 h6 h, fun post sv cy sk si sn sy dt us hy h => ef_yFd (fun j hj => ef_St_pos S hj) (fun j j1 j2 => ef_St_ent S j2 hd j1) h5 h2 h3 h6 h⟩
/-! C: names, handles as values -/
theorem ef_yNm1 {A B : Prop} (b : B) : ((-1 : Int32) < -1 → A) ∧ (¬ (-1 : Int32) < -1 → (((-1 : Int32) ≤ 99 → B) ∧ (¬ (-1 : Int32) ≤ 99 → A))) :=
  br_f (by decide) (br_t (by decide) b)
theorem ef_yNm2 {A B : Prop} {m : Nat} (hm : m < 100) (b : B) : (nI m < -1 → A) ∧ (¬ nI m < -1 → ((nI m ≤ 99 → B) ∧ (¬ nI m ≤ 99 → A))) :=
  br_f (fun z => nI_pos (n := m) (by omega) (Int32.lt_trans z (by decide))) (br_t (nI_le (b := 99) (by omega) (by decide)) b)
theorem ef_yNm0 {A B : Prop} {x : Int32} (h1 : ¬ x = -1) (h2 : ¬ ∃ m, m < 100 ∧ x = nI m) (a : A) : (x < -1 → A) ∧ (¬ x < -1 → ((x ≤ 99 → B) ∧ (¬ x ≤ 99 → A))) := by
  by_cases g : x < -1
  · exact br_t g a
  · have h0 : ¬ x < 0 := by
      intro z
      apply h1
      apply Int32.toInt_inj.mp
      rw [Int32.lt_iff_toInt_lt] at g z
      have e1 : ((-1 : Int32)).toInt = -1 := by decide
      have e0 : ((0 : Int32)).toInt = 0 := by decide
      rw [e1] at g ⊢
      rw [e0] at z
      omega
    obtain ⟨m, g1, g2, e⟩ := ef_out h2 h0
    exact br_f g (br_f (by rw [e]; exact nI_ge (a := 99) (by omega) g2) a)
theorem ef_nXh {d : Nat} (hd : d < 4) (e : hn d ≠ 16) : ef_X 16 hn (nI d).toNatClampNeg = nI (hn d) := by
  rw [nI_clamp (by omega)]; exact ef_encN e
theorem ef_nX16 {d : Nat} (hd : d < 4) (e : hn d = 16) : ef_X 16 hn (nI d).toNatClampNeg = -1 := by
  rw [nI_clamp (by omega)]
  show ef_enc 16 (hn d) = -1
  rw [e, ef_encB]
theorem ef_nYh {d : Nat} (hd : d < 4) : ef_Y hn (nI d).toNatClampNeg = nI (hn d) := by
  rw [nI_clamp (by omega)]; rfl
theorem ef_nY16 {d : Nat} (hd : d < 4) (e : hn d = 16) : ef_Y hn (nI d).toNatClampNeg = 16 := by
  rw [ef_nYh hd, e]; rfl
theorem ef_n16 {r : Nat} (h : r < 16) : ¬ nI r = 16 := fun z => absurd ((nI_eq (b := 16) (by omega) (by decide)).mp z) (by omega)
theorem ef_nY0 {d : Nat} (hd : d < 4) (e : hn d < 16) : ¬ ef_Y hn (nI d).toNatClampNeg = 16 := by
  rw [ef_nYh hd]; exact ef_n16 e
theorem ef_cl {d N : Nat} (h : d < N) (hN : N ≤ 128) : (nI d).toNatClampNeg = d := nI_clamp (by omega)
theorem ef_xun {B a r : Nat} (ha : a < 128) (hr : r ≠ B) : upd (ef_X B hn) (nI a).toNatClampNeg (nI r) = ef_X B (ef_un hn a r) := by
  rw [nI_clamp (by omega), ← ef_encN hr, ef_Xu]
theorem ef_yun {a r : Nat} (ha : a < 128) : upd (ef_Y hn) (nI a).toNatClampNeg (nI r) = ef_Y (ef_un hn a r) := by
  rw [nI_clamp (by omega), ef_Yu]
end EFR
