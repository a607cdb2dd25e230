theorem pk_least (P : Nat → Prop) (h : ∃ k, P k) : ∃ k, P k ∧ ∀ j, j < k → ¬ P j := by
  obtain ⟨k, hk⟩ := h
  induction k using Nat.strongRecOn with
  | ind k ih =>
    by_cases e : ∃ j, j < k ∧ P j
    · obtain ⟨j, hj, pj⟩ := e
      exact ih j hj pj
    · exact ⟨k, hk, fun j hj pj => e ⟨j, hj, pj⟩⟩
/-! run: the mathematics. The first index that satisfies; the rows of the result; the folds -/
def fi_f (f : Nat → Bool) : Nat → Nat
  | 0 => 0
  | n + 1 => if fi_f f n < n then fi_f f n else if f n = true then n else n + 1
theorem ff_all (f : Nat → Bool) : ∀ n, fi_f f n ≤ n ∧ (∀ g, g < fi_f f n → f g = false) ∧ (fi_f f n < n → f (fi_f f n) = true) := by
  intro n
  induction n with
  | zero => exact ⟨Nat.le_refl _, lt_0, fun z => absurd z (Nat.not_lt_zero _)⟩
  | succ n ih =>
    obtain ⟨a, b, c⟩ := ih
    by_cases h : fi_f f n < n
    · have e : fi_f f (n + 1) = fi_f f n := if_pos h
      rw [e]
      exact ⟨by omega, b, fun _ => c h⟩
    · have en : fi_f f n = n := by omega
      rw [en] at b
      by_cases hf : f n = true
      · have e : fi_f f (n + 1) = n := by
          show (if fi_f f n < n then fi_f f n else if f n = true then n else n + 1) = n
          rw [if_neg h, if_pos hf]
        rw [e]
        exact ⟨by omega, b, fun _ => hf⟩
      · have e : fi_f f (n + 1) = n + 1 := by
          show (if fi_f f n < n then fi_f f n else if f n = true then n else n + 1) = n + 1
          rw [if_neg h, if_neg hf]
        rw [e]
        exact ⟨Nat.le_refl _, lt_s b (by simpa using hf), fun z => absurd z (Nat.lt_irrefl _)⟩
theorem ff_eq {f : Nat → Bool} {n g : Nat} (hg : g ≤ n) (h0 : ∀ x, x < g → f x = false) (h1 : g < n → f g = true) : fi_f f n = g := by
  obtain ⟨a, b, c⟩ := ff_all f n
  rcases Nat.lt_trichotomy (fi_f f n) g with z | z | z
  · have := c (by omega)
    rw [h0 _ z] at this
    exact absurd this (by decide)
  · exact z
  · have := h1 (by omega)
    rw [b g z] at this
    exact absurd this (by decide)
/-- rows of the result and their first combinations -/
def gr_s (al : Nat → Nat → Bool) (jo : Bool) (g0 : Nat) (C : Nat → Nat) : Nat → Nat × (Nat → Nat)
  | 0 => (g0, fun _ => 0)
  | p + 1 => if (if jo = true then fi_f (fun g => al ((gr_s al jo g0 C p).2 g) (C p)) (gr_s al jo g0 C p).1 else (gr_s al jo g0 C p).1) = (gr_s al jo g0 C p).1 then ((gr_s al jo g0 C p).1 + 1, fun x => if x = (gr_s al jo g0 C p).1 then C p else (gr_s al jo g0 C p).2 x) else gr_s al jo g0 C p
def gr_g (al : Nat → Nat → Bool) (jo : Bool) (g0 : Nat) (C : Nat → Nat) (p : Nat) : Nat := if jo = true then fi_f (fun g => al ((gr_s al jo g0 C p).2 g) (C p)) (gr_s al jo g0 C p).1 else (gr_s al jo g0 C p).1
section
variable {al : Nat → Nat → Bool} {jo : Bool} {g0 : Nat} {C : Nat → Nat}
theorem gr_new {p : Nat} (h : gr_g al jo g0 C p = (gr_s al jo g0 C p).1) : gr_s al jo g0 C (p + 1) = ((gr_s al jo g0 C p).1 + 1, fun x => if x = (gr_s al jo g0 C p).1 then C p else (gr_s al jo g0 C p).2 x) := if_pos h
theorem gr_old {p : Nat} (h : gr_g al jo g0 C p ≠ (gr_s al jo g0 C p).1) : gr_s al jo g0 C (p + 1) = gr_s al jo g0 C p := if_neg h
theorem gr_le (p : Nat) : gr_g al jo g0 C p ≤ (gr_s al jo g0 C p).1 := by
  unfold gr_g
  split
  · exact (ff_all _ _).1
  · exact Nat.le_refl _
theorem gr_up (p : Nat) : (gr_s al jo g0 C p).1 ≤ (gr_s al jo g0 C (p + 1)).1 ∧ (gr_s al jo g0 C (p + 1)).1 ≤ (gr_s al jo g0 C p).1 + 1 ∧ gr_g al jo g0 C p < (gr_s al jo g0 C (p + 1)).1 := by
  by_cases h : gr_g al jo g0 C p = (gr_s al jo g0 C p).1
  · rw [gr_new h]
    exact ⟨Nat.le_succ _, Nat.le_refl _, by rw [h]; exact Nat.lt_succ_self _⟩
  · rw [gr_old h]
    have := gr_le (al := al) (jo := jo) (g0 := g0) (C := C) p
    exact ⟨Nat.le_refl _, Nat.le_succ _, by omega⟩
theorem gr_mono {p q : Nat} (h : p ≤ q) : (gr_s al jo g0 C p).1 ≤ (gr_s al jo g0 C q).1 := by
  induction q with
  | zero =>
    have : p = 0 := by omega
    subst this
    exact Nat.le_refl _
  | succ q ih =>
    by_cases e : p = q + 1
    · subst e
      exact Nat.le_refl _
    · exact Nat.le_trans (ih (by omega)) (gr_up q).1
theorem gr_in {p i : Nat} (h : i < p) : gr_g al jo g0 C i < (gr_s al jo g0 C p).1 := Nat.lt_of_lt_of_le (gr_up i).2.2 (gr_mono h)
end
/-- the folds -/
def fo_s (act : Nat → Bool) (x : Nat → Int64) : Nat → Nat × Int64 × Int64 × Int64
  | 0 => (0, 0, nu_l, nu_l)
  | p + 1 => if act p = true then ((fo_s act x p).1 + 1, (fo_s act x p).2.1 + x p, (if (fo_s act x p).1 = 0 ∨ x p < (fo_s act x p).2.2.1 then x p else (fo_s act x p).2.2.1), (if (fo_s act x p).1 = 0 ∨ (fo_s act x p).2.2.2 < x p then x p else (fo_s act x p).2.2.2)) else fo_s act x p
def fo_e (act : Nat → Bool) (r : Nat → Nat) : Nat → Nat → Bool
  | 0 => fun _ => false
  | p + 1 => if act p = true then st_b (fo_e act r p) (r p) else fo_e act r p
theorem fo_t {act : Nat → Bool} {x : Nat → Int64} {p : Nat} (h : act p = true) : fo_s act x (p + 1) = ((fo_s act x p).1 + 1, (fo_s act x p).2.1 + x p, (if (fo_s act x p).1 = 0 ∨ x p < (fo_s act x p).2.2.1 then x p else (fo_s act x p).2.2.1), (if (fo_s act x p).1 = 0 ∨ (fo_s act x p).2.2.2 < x p then x p else (fo_s act x p).2.2.2)) := if_pos h
theorem fo_n {act : Nat → Bool} {x : Nat → Int64} {p : Nat} (h : ¬ act p = true) : fo_s act x (p + 1) = fo_s act x p := if_neg h
theorem fe_t {act : Nat → Bool} {r : Nat → Nat} {p : Nat} (h : act p = true) : fo_e act r (p + 1) = st_b (fo_e act r p) (r p) := if_pos h
theorem fe_n {act : Nat → Bool} {r : Nat → Nat} {p : Nat} (h : ¬ act p = true) : fo_e act r (p + 1) = fo_e act r p := if_neg h
theorem fo_0 {act : Nat → Bool} {x : Nat → Int64} {p : Nat} (h : ∀ i, i < p → ¬ act i = true) : fo_s act x p = (0, 0, nu_l, nu_l) := by
  induction p with
  | zero => rfl
  | succ p ih => rw [fo_n (h p (by omega)), ih (fun i hi => h i (by omega))]
theorem fe_0 {act : Nat → Bool} {r : Nat → Nat} {p : Nat} (h : ∀ i, i < p → ¬ act i = true) : fo_e act r p = fun _ => false := by
  induction p with
  | zero => rfl
  | succ p ih => rw [fe_n (h p (by omega)), ih (fun i hi => h i (by omega))]
theorem nu_i : nu_l.toInt = -9000000000000000000 := by decide
theorem nu_ne (z : Int32) : z.toInt64 ≠ nu_l := by
  intro e
  have h : z.toInt64.toInt = nu_l.toInt := by rw [e]
  rw [Int32.toInt_toInt64, nu_i] at h
  have := Int32.le_toInt z
  omega
theorem fo_b {act : Nat → Bool} {x : Nat → Int64} {p : Nat} (hp : p ≤ 4096) (hx : ∀ i, i < p → act i = true → ∃ z : Int32, x i = z.toInt64) :
    (fo_s act x p).1 ≤ p ∧ (-((fo_s act x p).1 * 2147483648 : Int) ≤ (fo_s act x p).2.1.toInt ∧ (fo_s act x p).2.1.toInt ≤ ((fo_s act x p).1 * 2147483648 : Int)) ∧ ((fo_s act x p).1 ≠ 0 → (∃ z : Int32, (fo_s act x p).2.2.1 = z.toInt64) ∧ ∃ z : Int32, (fo_s act x p).2.2.2 = z.toInt64) := by
  induction p with
  | zero => exact ⟨Nat.le_refl _, ⟨by show -(((0 : Nat) : Int) * 2147483648) ≤ (0 : Int64).toInt; decide, by show (0 : Int64).toInt ≤ (((0 : Nat) : Int) * 2147483648); decide⟩, fun z => absurd rfl z⟩
  | succ p ih =>
    obtain ⟨a, ⟨b, c⟩, d⟩ := ih (by omega) (fun i hi => hx i (by omega))
    by_cases h : act p = true
    · rw [fo_t h]
      obtain ⟨z, ez⟩ := hx p (by omega) h
      have z1 := Int32.le_toInt z
      have z2 := Int32.toInt_lt z
      refine ⟨by omega, ?_, fun _ => ⟨?_, ?_⟩⟩
      · dsimp only
        rw [ez, Int64.toInt_add, Int32.toInt_toInt64]
        rw [Int.bmod_eq_of_le (by omega) (by omega)]
        constructor
        · push_cast
          omega
        · push_cast
          omega
      · dsimp only
        split
        · exact ⟨z, ez⟩
        · rename_i w
          exact (d (fun y => w (Or.inl y))).1
      · dsimp only
        split
        · exact ⟨z, ez⟩
        · rename_i w
          exact (d (fun y => w (Or.inl y))).2
    · rw [fo_n h]
      exact ⟨by omega, ⟨b, c⟩, d⟩
/-- how many different values -/
noncomputable def dn_f (W : Nat → Int64) (E : Nat → Bool) : Nat → Bool := fun r => @decide (E r = true ∧ ∀ q, q < r → E q = true → W q ≠ W r) (Classical.propDecidable _)
theorem dn_i {W : Nat → Int64} {E : Nat → Bool} {r : Nat} : dn_f W E r = true ↔ E r = true ∧ ∀ q, q < r → E q = true → W q ≠ W r := @decide_eq_true_iff _ (Classical.propDecidable _)
noncomputable def dn_n (W : Nat → Int64) (E : Nat → Bool) : Nat := cn_b (dn_f W E) 16
theorem dn_0 {W : Nat → Int64} {E : Nat → Bool} (h : ∀ r, r < 16 → E r = false) : dn_n W E = 0 := by
  unfold dn_n
  rw [cn_ext (g := fun _ => false) (fun i hi => ?_)]
  · rfl
  · rw [Bool.eq_false_iff]
    intro z
    have := (dn_i.mp z).1
    rw [h i hi] at this
    exact absurd this (by decide)
theorem st_i {M : Nat → Bool} {x y : Nat} : st_b M x y = true ↔ y = x ∨ M y = true := by
  by_cases e : y = x
  · subst e
    rw [st_s]
    exact ⟨fun _ => Or.inl rfl, fun _ => rfl⟩
  · rw [st_o e]
    exact ⟨fun h => Or.inr h, fun h => h.resolve_left e⟩
theorem dn_old {W : Nat → Int64} {E : Nat → Bool} {r : Nat} (hr : r < 16) (h : ∃ q, q < 16 ∧ E q = true ∧ W q = W r) : dn_n W (st_b E r) = dn_n W E := by
  cases hE : E r with
  | true =>
    refine cn_ext (fun i hi => Bool.eq_iff_iff.mpr ?_)
    have e : ∀ q, st_b E r q = true ↔ E q = true := fun q => by
      rw [st_i]
      exact ⟨fun z => by rcases z with z | z; exact z ▸ hE; exact z, fun z => Or.inr z⟩
    rw [dn_i, dn_i, e]
    exact ⟨fun z => ⟨z.1, fun q hq h' => z.2 q hq ((e q).mpr h')⟩, fun z => ⟨z.1, fun q hq h' => z.2 q hq ((e q).mp h')⟩⟩
  | false =>
    obtain ⟨q0, ⟨hq0, hE0, hW0⟩, hmin⟩ := pk_least (fun q => q < 16 ∧ E q = true ∧ W q = W r) h
    have hmin' : ∀ j, j < q0 → E j = true → W j ≠ W r := fun j hj he hw => hmin j hj ⟨by omega, he, hw⟩
    have hne : q0 ≠ r := fun z => by rw [z, hE] at hE0; exact absurd hE0 (by decide)
    have f1 : dn_f W E q0 = true := dn_i.mpr ⟨hE0, fun q hq he => by rw [hW0]; exact hmin' q hq he⟩
    have fr : ∀ i, i ≠ r → i ≠ q0 → (dn_f W (st_b E r) i = dn_f W E i) := by
      intro i hi1 hi2
      refine Bool.eq_iff_iff.mpr ?_
      rw [dn_i, dn_i, st_i]
      constructor
      · rintro ⟨a, b⟩
        exact ⟨a.resolve_left hi1, fun q hq he => b q hq (st_i.mpr (Or.inr he))⟩
      · rintro ⟨a, b⟩
        refine ⟨Or.inr a, fun q hq he => ?_⟩
        rcases st_i.mp he with z | z
        · subst z
          intro w
          rcases Nat.lt_or_ge q0 i with y | y
          · exact b q0 y hE0 (hW0.trans w)
          · exact hmin' i (by omega) a w.symm
        · exact b q hq z
    have hr0 : dn_f W E r = false := by
      rw [Bool.eq_false_iff]
      intro z
      have := (dn_i.mp z).1
      rw [hE] at this
      exact absurd this (by decide)
    rcases Nat.lt_or_ge q0 r with y | y
    · refine cn_ext (fun i hi => ?_)
      by_cases e1 : i = r
      · rw [e1, hr0, Bool.eq_false_iff]
        intro z
        exact (dn_i.mp z).2 q0 y (st_i.mpr (Or.inr hE0)) hW0
      · by_cases e2 : i = q0
        · rw [e2, f1]
          refine dn_i.mpr ⟨st_i.mpr (Or.inr hE0), fun q hq he => ?_⟩
          rcases st_i.mp he with z | z
          · omega
          · rw [hW0]
            exact hmin' q hq z
        · exact fr i e1 e2
    · have y : r < q0 := by omega
      have hbase : ∀ i, i ≠ q0 → (fun j => if j = q0 then false else dn_f W E j) i = dn_f W E i := fun i hi => if_neg hi
      have ea : cn_b (dn_f W E) 16 = cn_b (st_b (fun j => if j = q0 then false else dn_f W E j) q0) 16 := by
        refine cn_ext (fun i hi => ?_)
        by_cases e : i = q0
        · rw [e, f1, st_s]
        · rw [st_o e, if_neg e]
      have eb : cn_b (dn_f W (st_b E r)) 16 = cn_b (st_b (fun j => if j = q0 then false else dn_f W E j) r) 16 := by
        refine cn_ext (fun i hi => ?_)
        by_cases e1 : i = r
        · rw [e1, st_s]
          refine dn_i.mpr ⟨st_s, fun q hq he => ?_⟩
          rcases st_i.mp he with z | z
          · omega
          · exact hmin' q (by omega) z
        · rw [st_o e1]
          by_cases e2 : i = q0
          · rw [e2, if_pos rfl, Bool.eq_false_iff]
            intro z
            exact (dn_i.mp z).2 r y st_s hW0.symm
          · rw [if_neg e2]
            exact fr i e1 e2
      unfold dn_n
      have c1 := cn_st (M := fun j => if j = q0 then false else dn_f W E j) (x := q0) (if_pos rfl) 16
      have c2 := cn_st (M := fun j => if j = q0 then false else dn_f W E j) (x := r) ((hbase r (by omega)).trans hr0) 16
      rw [ea, eb, c1, c2, if_pos hq0, if_pos hr]
theorem dn_new {W : Nat → Int64} {E : Nat → Bool} {r : Nat} (hr : r < 16) (h : ∀ q, q < 16 → E q = true → W q ≠ W r) : dn_n W (st_b E r) = dn_n W E + 1 := by
  have hE : E r = false := by
    rw [Bool.eq_false_iff]
    exact fun z => h r hr z rfl
  have hr0 : dn_f W E r = false := by
    rw [Bool.eq_false_iff]
    intro z
    have := (dn_i.mp z).1
    rw [hE] at this
    exact absurd this (by decide)
  have e : cn_b (dn_f W (st_b E r)) 16 = cn_b (st_b (dn_f W E) r) 16 := by
    refine cn_ext (fun i hi => ?_)
    by_cases e1 : i = r
    · rw [e1, st_s]
      refine dn_i.mpr ⟨st_s, fun q hq he => ?_⟩
      rcases st_i.mp he with z | z
      · omega
      · exact h q (by omega) z
    · rw [st_o e1]
      refine Bool.eq_iff_iff.mpr ?_
      rw [dn_i, dn_i, st_i]
      constructor
      · rintro ⟨a, b⟩
        exact ⟨a.resolve_left e1, fun q hq he => b q hq (st_i.mpr (Or.inr he))⟩
      · rintro ⟨a, b⟩
        refine ⟨Or.inr a, fun q hq he => ?_⟩
        rcases st_i.mp he with z | z
        · subst z
          exact (h i hi a).symm
        · exact b q hq z
  unfold dn_n
  rw [e, cn_st hr0, if_pos hr]
/-- what a fold gives, by its kind -/
noncomputable def fo_v (kind : Nat) (W : Nat → Int64) (s : Nat × Int64 × Int64 × Int64) (E : Nat → Bool) : Int64 :=
  if kind < 3 then lN s.1 else if kind = 6 then lN (dn_n W E) else if s.1 = 0 then nu_l else if kind = 3 then s.2.1 else if kind = 4 then s.2.2.1 else s.2.2.2
theorem fv_c {kind : Nat} {W : Nat → Int64} {s : Nat × Int64 × Int64 × Int64} {E : Nat → Bool} (h : kind < 3) : fo_v kind W s E = lN s.1 := if_pos h
theorem fv_6 {W : Nat → Int64} {s : Nat × Int64 × Int64 × Int64} {E : Nat → Bool} : fo_v 6 W s E = lN (dn_n W E) := rfl
theorem fv_0 {kind : Nat} {W : Nat → Int64} {s : Nat × Int64 × Int64 × Int64} {E : Nat → Bool} (h3 : ¬ kind < 3) (h6 : kind ≠ 6) (h : s.1 = 0) : fo_v kind W s E = nu_l := by
  unfold fo_v
  rw [if_neg h3, if_neg h6, if_pos h]
theorem fv_n {kind : Nat} {W : Nat → Int64} {s : Nat × Int64 × Int64 × Int64} {E : Nat → Bool} (h3 : ¬ kind < 3) (h6 : kind ≠ 6) (h : s.1 ≠ 0) : fo_v kind W s E = if kind = 3 then s.2.1 else if kind = 4 then s.2.2.1 else s.2.2.2 := by
  unfold fo_v
  rw [if_neg h3, if_neg h6, if_neg h]
/-! bits -/
theorem bt_1 : ∀ i, i < 32 → bt 1 i = decide (i = 0) := by decide +kernel
theorem bt_s {r i : Nat} (hr : r < 32) (hi : i < 32) : bt ((1 : Int32) <<< (nI r &&& 31)) i = decide (i = r) := by
  rw [b_shl r hr 1 hi, bt_1 _ (by omega)]
  by_cases h : r ≤ i
  · rw [decide_eq_true h, Bool.true_and]
    exact decide_eq_decide.mpr (by omega)
  · rw [decide_eq_false h, Bool.false_and]
    exact (decide_eq_false (by omega)).symm
theorem bt_or {m : Int32} {r i : Nat} (hr : r < 32) (hi : i < 32) : bt (m ||| ((1 : Int32) <<< (nI r &&& 31))) i = st_b (bt m) r i := by
  rw [b_or, bt_s hr hi]
  by_cases e : i = r
  · subst e
    rw [st_s]
    simp
  · rw [st_o e, decide_eq_false e, Bool.or_false]
theorem bt_and {m : Int32} {r : Nat} (hr : r < 32) : (m &&& ((1 : Int32) <<< (nI r &&& 31))) = 0 ↔ bt m r = false := by
  constructor
  · intro h
    have : bt (m &&& ((1 : Int32) <<< (nI r &&& 31))) r = false := by rw [h, b_0]
    rw [b_and, bt_s hr hr] at this
    simpa using this
  · intro h
    refine b_ext (fun i hi => ?_)
    rw [b_and, bt_s hr hi, b_0]
    by_cases e : i = r
    · subst e
      rw [h, Bool.false_and]
    · rw [decide_eq_false e, Bool.and_false]
theorem bt_sh {m : Int32} {r : Nat} (hr : r < 16) : (m >>> (nI r &&& 31)) &&& 1 = if bt m r = true then 1 else 0 := by
  refine b_ext (fun i hi => ?_)
  rw [b_and, bt_1 i hi, b_sshr r (by omega) m hi]
  by_cases e : i = 0
  · subst e
    rw [if_pos (by omega), decide_eq_true rfl, Bool.and_true, Nat.add_zero]
    cases h : bt m r
    · rw [if_neg (by decide), b_0]
    · rw [if_pos rfl]
      rfl
  · rw [decide_eq_false e, Bool.and_false]
    split
    · rw [bt_1 i hi, decide_eq_false e]
    · rw [b_0]
theorem bt_z {i : Nat} : bt 0 i = false := b_0 i
