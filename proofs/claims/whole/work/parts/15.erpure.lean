/-! erase: the mathematics -/
def lo_p (N : Nat → Nat) (D : Nat → Nat → Int64) (T : Nat → Nat) (M : Nat → Bool) (c r : Nat) : Prop := D c r ≠ nu_l ∧ T c < 9 ∧ ∃ j, j < N (T c / 3) ∧ M (16 * (T c / 3) + j) = true ∧ D (T c) j = D c r
def cl_c (N : Nat → Nat) (D : Nat → Nat → Int64) (T A : Nat → Nat) (M : Nat → Bool) : Prop := ∀ c r, c < 9 → r < N (c / 3) → A c = 1 → lo_p N D T M c r → M (16 * (c / 3) + r) = true
def le_m (M Q : Nat → Bool) : Prop := ∀ x, x < 48 → M x = true → Q x = true
def sn_d (N : Nat → Nat) (D : Nat → Nat → Int64) (T A : Nat → Nat) (M0 M : Nat → Bool) : Prop := le_m M0 M ∧ ∀ Q, cl_c N D T A Q → le_m M0 Q → le_m M Q
theorem lo_mono {N : Nat → Nat} {D : Nat → Nat → Int64} {T : Nat → Nat} {M Q : Nat → Bool} (hN : ∀ t, t < 3 → N t ≤ 16) (h : le_m M Q) {c r : Nat} (hl : lo_p N D T M c r) : lo_p N D T Q c r := by
  obtain ⟨a, b, j, hj, hm, e⟩ := hl
  have := hN (T c / 3) (by omega)
  exact ⟨a, b, j, hj, h _ (by omega) hm, e⟩
def st_b (M : Nat → Bool) (x : Nat) : Nat → Bool := fun y => if y = x then true else M y
theorem st_s {M : Nat → Bool} {x : Nat} : st_b M x x = true := if_pos rfl
theorem st_o {M : Nat → Bool} {x y : Nat} (h : y ≠ x) : st_b M x y = M y := if_neg h
theorem st_le {M : Nat → Bool} {x : Nat} : le_m M (st_b M x) := by
  intro y _ h
  unfold st_b
  split
  · rfl
  · exact h
theorem st_ar {M : Nat → Bool} {x : Nat} {mk : Nat → Int32} (h : ∀ y, y < 48 → mk y = bo_i (M y)) : ∀ y, y < 48 → upd mk x (bo_i true) y = bo_i (st_b M x y) := by
  intro y hy
  by_cases e : y = x
  · subst e
    rw [pk_us, st_s]
  · rw [pk_un e, st_o e, h y hy]
theorem sn_step {N : Nat → Nat} {D : Nat → Nat → Int64} {T A : Nat → Nat} {M0 M : Nat → Bool} (hN : ∀ t, t < 3 → N t ≤ 16) (h : sn_d N D T A M0 M) {c r : Nat} (hc : c < 9) (hr : r < N (c / 3)) (ha : A c = 1) (hl : lo_p N D T M c r) : sn_d N D T A M0 (st_b M (16 * (c / 3) + r)) := by
  refine ⟨fun x hx hm => st_le x hx (h.1 x hx hm), fun Q hQ h0 x hx hm => ?_⟩
  by_cases e : x = 16 * (c / 3) + r
  · rw [e]
    exact hQ c r hc hr ha (lo_mono hN (h.2 Q hQ h0) hl)
  · rw [st_o e] at hm
    exact h.2 Q hQ h0 x hx hm
theorem sn_refl {N : Nat → Nat} {D : Nat → Nat → Int64} {T A : Nat → Nat} {M0 : Nat → Bool} : sn_d N D T A M0 M0 := ⟨fun _ _ h => h, fun _ _ h => h⟩
theorem sn_uni {N : Nat → Nat} {D : Nat → Nat → Int64} {T A : Nat → Nat} {M0 M Q : Nat → Bool} (h1 : sn_d N D T A M0 M) (c1 : cl_c N D T A M) (h2 : sn_d N D T A M0 Q) (c2 : cl_c N D T A Q) : ∀ x, x < 48 → M x = Q x := fun x hx => Bool.eq_iff_iff.mpr ⟨h1.2 Q c2 h2.1 x hx, h2.2 M c1 h1.1 x hx⟩
/-- counting the marks -/
theorem cn_st {M : Nat → Bool} {x : Nat} (h : M x = false) : ∀ n, cn_b (st_b M x) n = cn_b M n + (if x < n then 1 else 0) := by
  intro n
  induction n with
  | zero => rfl
  | succ n ih =>
    by_cases e : n = x
    · subst e
      rw [cn_t st_s, ih, if_neg (Nat.lt_irrefl n), if_pos (Nat.lt_succ_self n), cn_f (by rw [h]; decide)]
    · have e1 : (if x < n + 1 then 1 else 0) = (if x < n then 1 else 0 : Nat) := by
        by_cases z : x < n
        · rw [if_pos z, if_pos (by omega)]
        · rw [if_neg z, if_neg (by omega)]
      show cn_b (st_b M x) n + (if st_b M x n = true then 1 else 0) = cn_b M n + (if M n = true then 1 else 0) + _
      rw [ih, st_o e, e1]
      omega
theorem cn_pos {M : Nat → Bool} {x : Nat} (h : M x = true) : ∀ n, x < n → 1 ≤ cn_b M n := by
  intro n
  induction n with
  | zero => intro z; omega
  | succ n ih =>
    intro z
    by_cases e : x = n
    · subst e
      rw [cn_t h]
      omega
    · have := ih (by omega)
      show 1 ≤ cn_b M n + _
      omega
theorem cn_up {f : Nat → Bool} {a b : Nat} (h : a ≤ b) : cn_b f a ≤ cn_b f b := by
  induction b with
  | zero =>
    have : a = 0 := by omega
    subst this
    exact Nat.le_refl _
  | succ b ih =>
    by_cases e : a = b + 1
    · subst e
      exact Nat.le_refl _
    · exact Nat.le_trans (ih (by omega)) (Nat.le_add_right _ _)
theorem cn_lt {f : Nat → Bool} {a b : Nat} (h : a < b) (ha : f a = true) : cn_b f a < cn_b f b := by
  have := cn_up (f := f) (show a + 1 ≤ b from h)
  rw [cn_t ha] at this
  exact this
theorem cn_inj {f : Nat → Bool} {a b : Nat} (ha : f a = true) (hb : f b = true) (e : cn_b f a = cn_b f b) : a = b := by
  rcases Nat.lt_trichotomy a b with z | z | z
  · have := cn_lt z ha
    omega
  · exact z
  · have := cn_lt z hb
    omega
/-- the j-th index that counts -/
def se_l (f : Nat → Bool) : Nat → Nat → Nat
  | 0, _ => 0
  | n + 1, j => if f n = true ∧ cn_b f n = j then n else se_l f n j
theorem se_i {f : Nat → Bool} : ∀ n j, j < cn_b f n → se_l f n j < n ∧ f (se_l f n j) = true ∧ cn_b f (se_l f n j) = j := by
  intro n
  induction n with
  | zero => intro j h; exact absurd h (Nat.not_lt_zero _)
  | succ n ih =>
    intro j h
    unfold se_l
    by_cases e : f n = true ∧ cn_b f n = j
    · rw [if_pos e]
      exact ⟨Nat.lt_succ_self n, e.1, e.2⟩
    · rw [if_neg e]
      have hj : j < cn_b f n := by
        by_cases hf : f n = true
        · rw [cn_t hf] at h
          have : cn_b f n ≠ j := fun z => e ⟨hf, z⟩
          omega
        · rw [cn_f hf] at h
          exact h
      obtain ⟨a, b, c⟩ := ih j hj
      exact ⟨by omega, b, c⟩
theorem se_cn {f : Nat → Bool} {n r : Nat} (hr : r < n) (hf : f r = true) : se_l f n (cn_b f r) = r := by
  obtain ⟨_, b, c⟩ := se_i n (cn_b f r) (cn_lt hr hf)
  exact cn_inj b hf c
/-- which rows of a table stay -/
def sy_b (M : Nat → Bool) (t : Nat) : Nat → Bool := fun r => !(M (16 * t + r))
theorem sy_i {M : Nat → Bool} {t r : Nat} : sy_b M t r = true ↔ M (16 * t + r) = false := by
  unfold sy_b
  cases M (16 * t + r) <;> simp
/-- cleared contents, then shrunk -/
noncomputable def cl_D (N : Nat → Nat) (D : Nat → Nat → Int64) (T A : Nat → Nat) (M : Nat → Bool) : Nat → Nat → Int64 := fun c r => @ite _ (A c = 2 ∧ lo_p N D T M c r) (Classical.propDecidable _) nu_l (D c r)
theorem cl_t {N : Nat → Nat} {D : Nat → Nat → Int64} {T A : Nat → Nat} {M : Nat → Bool} {c r : Nat} (h : A c = 2 ∧ lo_p N D T M c r) : cl_D N D T A M c r = nu_l := if_pos h
theorem cl_f {N : Nat → Nat} {D : Nat → Nat → Int64} {T A : Nat → Nat} {M : Nat → Bool} {c r : Nat} (h : ¬ (A c = 2 ∧ lo_p N D T M c r)) : cl_D N D T A M c r = D c r := if_neg h
theorem cl_or {N : Nat → Nat} {D : Nat → Nat → Int64} {T A : Nat → Nat} {M : Nat → Bool} (c r : Nat) : cl_D N D T A M c r = nu_l ∨ cl_D N D T A M c r = D c r := by
  by_cases h : A c = 2 ∧ lo_p N D T M c r
  · exact Or.inl (cl_t h)
  · exact Or.inr (cl_f h)
theorem cl_nn {N : Nat → Nat} {D : Nat → Nat → Int64} {T A : Nat → Nat} {M : Nat → Bool} {c r : Nat} (h : cl_D N D T A M c r ≠ nu_l) : cl_D N D T A M c r = D c r := by
  rcases cl_or (N := N) (D := D) (T := T) (A := A) (M := M) c r with z | z
  · exact absurd z h
  · exact z
def sh_N (N : Nat → Nat) (M : Nat → Bool) : Nat → Nat := fun t => cn_b (sy_b M t) (N t)
def sh_D (N : Nat → Nat) (E : Nat → Nat → Int64) (M : Nat → Bool) : Nat → Nat → Int64 := fun c j => E c (se_l (sy_b M (c / 3)) (N (c / 3)) j)
theorem sh_r {N : Nat → Nat} {E : Nat → Nat → Int64} {M : Nat → Bool} {c r : Nat} (hr : r < N (c / 3)) (hs : M (16 * (c / 3) + r) = false) : sh_D N E M c (cn_b (sy_b M (c / 3)) r) = E c r := by
  unfold sh_D
  rw [se_cn hr (sy_i.mpr hs)]
theorem sh_e {N : Nat → Nat} {E : Nat → Nat → Int64} {M : Nat → Bool} {c j : Nat} (hj : j < sh_N N M (c / 3)) : ∃ r, r < N (c / 3) ∧ M (16 * (c / 3) + r) = false ∧ cn_b (sy_b M (c / 3)) r = j ∧ sh_D N E M c j = E c r := by
  obtain ⟨a, b, d⟩ := se_i _ _ hj
  exact ⟨_, a, sy_i.mp b, d, rfl⟩
theorem sh_lt {N : Nat → Nat} {M : Nat → Bool} {t r : Nat} (hr : r < N t) (hs : M (16 * t + r) = false) : cn_b (sy_b M t) r < sh_N N M t := cn_lt hr (sy_i.mpr hs)
/-- what X asks before it erases -/
def ev_p (N : Nat → Nat) (D : Nat → Nat → Int64) (R : Nat → Bool) (T A : Nat → Nat) (M : Nat → Bool) (c i : Nat) : Prop :=
  M (16 * (c / 3) + i) = false ∧ lo_p N D T M c i ∧ (A c = 0 ∨ R c = true ∨ ∃ q, q < 9 ∧ T q = c ∧ ∃ j, j < N (q / 3) ∧ M (16 * (q / 3) + j) = false ∧ D q j = D c i)
section
variable {N : Nat → Nat} {D : Nat → Nat → Int64} {U R : Nat → Bool} {T A : Nat → Nat} {M : Nat → Bool}
theorem fu_eq {c : Nat} (h : fi_u N D c) {i j : Nat} (hi : i < N (c / 3)) (hj : j < N (c / 3)) (hv : D c i ≠ nu_l) (e : D c i = D c j) : i = j := by
  rcases Nat.lt_trichotomy i j with z | z | z
  · exact absurd e.symm (h j i z hj (by rw [← e]; exact hv))
  · exact z
  · exact absurd e (h i j z hi hv)
theorem er_fit (hK : db_K N D U R T A) (hM : cl_c N D T A M) (hv : ∀ c i, c < 9 → i < N (c / 3) → ¬ ev_p N D R T A M c i) : ∀ c, c < 9 → fi_t (sh_N N M) (sh_D N (cl_D N D T A M) M) (U c) (R c) (T c) c := by
  intro c hc
  obtain ⟨hA, hT, f1, f2, f3⟩ := hK.1 c hc
  refine ⟨fun hu i j hj hi hvi => ?_, fun hr i hi hvi => ?_, fun ht i hi hvi => ?_⟩
  · obtain ⟨a, ha, sa, ca, ea⟩ := sh_e (E := cl_D N D T A M) hi
    obtain ⟨b, hb, sb, cb, eb⟩ := sh_e (E := cl_D N D T A M) (show j < sh_N N M (c / 3) by omega)
    rw [ea] at hvi ⊢
    rw [eb]
    intro z
    have h1 := cl_nn hvi
    have h2 : cl_D N D T A M c b ≠ nu_l := by rw [← z]; exact hvi
    have h3 := cl_nn h2
    rw [h1, h3] at z
    rw [h1] at hvi
    have := fu_eq (f1 hu) ha hb hvi z
    subst this
    omega
  · obtain ⟨a, ha, sa, ca, ea⟩ := sh_e (E := cl_D N D T A M) hi
    rw [ea] at hvi
    by_cases h : A c = 2 ∧ lo_p N D T M c a
    · exact hv c a hc ha ⟨sa, h.2, Or.inr (Or.inl hr)⟩
    · rw [cl_f h] at hvi
      exact f2 hr a ha hvi
  · obtain ⟨a, ha, sa, ca, ea⟩ := sh_e (E := cl_D N D T A M) hi
    rw [ea] at hvi ⊢
    have h1 := cl_nn hvi
    rw [h1] at hvi ⊢
    obtain ⟨j, hj, ej⟩ := f3 ht a ha hvi
    have hsj : M (16 * (T c / 3) + j) = false := by
      rw [Bool.eq_false_iff]
      intro hm
      have hl : lo_p N D T M c a := ⟨hvi, ht, j, hj, hm, ej⟩
      have h012 : A c = 0 ∨ A c = 1 ∨ A c = 2 := by omega
      rcases h012 with z | z | z
      · exact hv c a hc ha ⟨sa, hl, Or.inl z⟩
      · have := hM c a hc ha z hl
        rw [sa] at this
        exact absurd this (by decide)
      · rw [cl_t ⟨z, hl⟩] at h1
        exact hvi h1.symm
    refine ⟨cn_b (sy_b M (T c / 3)) j, sh_lt hj hsj, ?_⟩
    rw [sh_r hj hsj, cl_f, ej]
    intro z
    exact hv (T c) j ht hj ⟨hsj, z.2, Or.inr (Or.inr ⟨c, hc, rfl, a, ha, sa, ej.symm⟩)⟩
theorem er_nofit (hK : db_K N D U R T A) (hM : cl_c N D T A M) {c i : Nat} (hc : c < 9) (hi : i < N (c / 3)) (hv : ev_p N D R T A M c i) : ¬ ∀ c, c < 9 → fi_t (sh_N N M) (sh_D N (cl_D N D T A M) M) (U c) (R c) (T c) c := by
  intro hf
  obtain ⟨si, hl, hor⟩ := hv
  obtain ⟨hA, hT, f1, f2, f3⟩ := hK.1 c hc
  have h012 : A c = 0 ∨ A c = 1 ∨ A c = 2 := by omega
  rcases h012 with a0 | a1 | a2
  · have hne : ¬ (A c = 2 ∧ lo_p N D T M c i) := fun z => by omega
    obtain ⟨hvi, ht, j, hj, mj, ej⟩ := hl
    have := (hf c hc).2.2 ht _ (sh_lt hi si) (by rw [sh_r hi si, cl_f hne]; exact hvi)
    obtain ⟨j', hj', e'⟩ := this
    rw [sh_r hi si, cl_f hne] at e'
    obtain ⟨b, hb, sb, cb, eb⟩ := sh_e (E := cl_D N D T A M) hj'
    rw [eb] at e'
    have hn : cl_D N D T A M (T c) b ≠ nu_l := by rw [e']; exact hvi
    rw [cl_nn hn] at e'
    have := fu_eq ((hK.1 (T c) ht).2.2.1 (hT ht).2) hb hj (by rw [e']; exact hvi) (e'.trans ej.symm)
    subst this
    rw [sb] at mj
    exact absurd mj (by decide)
  · have := hM c i hc hi a1 hl
    rw [si] at this
    exact absurd this (by decide)
  · rcases hor with z | z | ⟨q, hq, eq, j, hj, sj, ej⟩
    · omega
    · have := (hf c hc).2.1 z _ (sh_lt hi si)
      rw [sh_r hi si, cl_t ⟨a2, hl⟩] at this
      exact this rfl
    · subst eq
      have huc : fi_u N D (T q) := f1 ((hK.1 q hq).2.1 hc).2
      have hvi := hl.1
      have hvj : D q j ≠ nu_l := by rw [ej]; exact hvi
      have hne : ¬ (A q = 2 ∧ lo_p N D T M q j) := by
        rintro ⟨_, _, _, j', hj', mj', ej'⟩
        have := fu_eq huc hj' hi (by rw [ej']; exact hvj) (ej'.trans ej)
        subst this
        rw [si] at mj'
        exact absurd mj' (by decide)
      obtain ⟨j', hj', e'⟩ := (hf q hq).2.2 hc _ (sh_lt hj sj) (by rw [sh_r hj sj, cl_f hne]; exact hvj)
      rw [sh_r hj sj, cl_f hne] at e'
      obtain ⟨b, hb, sb, cb, eb⟩ := sh_e (E := cl_D N D T A M) hj'
      rw [eb] at e'
      have hn : cl_D N D T A M (T q) b ≠ nu_l := by rw [e']; exact hvj
      have e2 := e'
      rw [cl_nn hn] at e2
      have := fu_eq huc hb hi (by rw [e2]; exact hvj) (e2.trans ej)
      subst this
      rw [cl_t ⟨a2, hl⟩] at e'
      exact hvj e'.symm
theorem er_K (hK : db_K N D U R T A) (hf : ∀ c, c < 9 → fi_t (sh_N N M) (sh_D N (cl_D N D T A M) M) (U c) (R c) (T c) c) : db_K (sh_N N M) (sh_D N (cl_D N D T A M) M) U R T A := by
  refine ⟨fun c hc => ⟨(hK.1 c hc).1, (hK.1 c hc).2.1, hf c hc⟩, fun c r hc hr => ?_⟩
  obtain ⟨b, hb, sb, cb, eb⟩ := sh_e (E := cl_D N D T A M) hr
  rw [eb]
  rcases cl_or (N := N) (D := D) (T := T) (A := A) (M := M) c b with z | z
  · exact Or.inl z
  · rw [z]
    exact hK.2 c b hc hb
/-- the view of the contents while a table shrinks -/
def sh_I (N : Nat → Nat) (E : Nat → Nat → Int64) (M : Nat → Bool) (t i : Nat) (V0 V : Nat → Nat → Int64) : Prop :=
  (∀ c r, c < 9 → c / 3 = t → i ≤ r → r < N t → M (16 * t + r) = false → V c r = E c r) ∧ (∀ c r, c < 9 → c / 3 = t → r < i → M (16 * t + r) = false → V c (cn_b (sy_b M t) r) = E c r) ∧ ∀ c r, c < 9 → c / 3 ≠ t → r < 16 → V c r = V0 c r
theorem sh_go {E V0 V V' : Nat → Nat → Int64} {t i : Nat} (h : sh_I N E M t i V0 V) (h16 : N t ≤ 16) (hi : i < N t) (hs : M (16 * t + i) = false) (hV : ∀ c r, c < 9 → r < 16 → V' c r = if c / 3 = t ∧ r = cn_b (sy_b M t) i then V c i else V c r) : sh_I N E M t (i + 1) V0 V' := by
  have hle := cn_le (sy_b M t) i
  refine ⟨fun c r hc ht hr hN hm => ?_, fun c r hc ht hr hm => ?_, fun c r hc ht hr => ?_⟩
  · rw [hV c r hc (by omega), if_neg (by omega)]
    exact h.1 c r hc ht (by omega) hN hm
  · have h1 := cn_le (sy_b M t) r
    rw [hV c _ hc (by omega)]
    by_cases e : r = i
    · subst e
      rw [if_pos ⟨ht, rfl⟩]
      exact h.1 c r hc ht (Nat.le_refl _) hi hm
    · have := cn_lt (f := sy_b M t) (show r < i by omega) (sy_i.mpr hm)
      rw [if_neg (by omega)]
      exact h.2.1 c r hc ht (by omega) hm
  · rw [hV c r hc hr, if_neg (fun z => ht z.1)]
    exact h.2.2 c r hc ht hr
theorem sh_no {E V0 V : Nat → Nat → Int64} {t i : Nat} (h : sh_I N E M t i V0 V) (hs : M (16 * t + i) = true) : sh_I N E M t (i + 1) V0 V := by
  refine ⟨fun c r hc ht hr hN hm => h.1 c r hc ht (by omega) hN hm, fun c r hc ht hr hm => ?_, h.2.2⟩
  by_cases e : r = i
  · subst e
    rw [hs] at hm
    exact absurd hm (by decide)
  · exact h.2.1 c r hc ht (by omega) hm
end
