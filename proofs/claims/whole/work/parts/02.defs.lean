/-! the pictures of the two states, and the relation -/
abbrev nu_l : Int64 := -9000000000000000000
def bo_i (b : Bool) : Int32 := if b then 1 else 0
def ta_i (t : Nat) : Int32 := if t < 9 then nI t else -1
theorem bo_t : bo_i true = 1 := rfl
theorem bo_f : bo_i false = 0 := rfl
theorem bo_0 {b : Bool} : bo_i b = 0 ↔ b = false := by cases b <;> decide
theorem bo_n {b : Bool} : ¬ bo_i b = 0 ↔ b = true := by cases b <;> decide
theorem bo_nar (b : Bool) : vp_nar .boolean (bo_i b) = bo_i b := by cases b <;> rfl
theorem bo_nar0 : vp_nar .boolean 0 = bo_i false := rfl
theorem bo_nar1 : vp_nar .boolean 1 = bo_i true := rfl
theorem ta_lt {t : Nat} (h : t < 9) : ta_i t = nI t := if_pos h
theorem ta_ge {t : Nat} (h : ¬ t < 9) : ta_i t = -1 := if_neg h
theorem ta_m1 {t : Nat} (h : t < 9) : ¬ nI t = -1 := by
  have : ∀ t, t < 9 → ¬ nI t = -1 := by decide
  exact this t h
theorem ta_nn {t : Nat} (h : t < 9) : ¬ nI t < 0 := nI_pos (by omega)
theorem ta_eq {t c : Nat} (hc : c < 9) : ta_i t = nI c ↔ t = c := by
  by_cases h : t < 9
  · rw [ta_lt h, nI_eq (by omega) (by omega)]
  · rw [ta_ge h]
    exact ⟨fun z => absurd z.symm (ta_m1 hc), fun z => absurd (z ▸ hc) h⟩
theorem ta_none {t : Nat} : ta_i t = -1 ↔ ¬ t < 9 := by
  by_cases h : t < 9
  · rw [ta_lt h]
    exact ⟨fun z => absurd z (ta_m1 h), fun z => absurd h z⟩
  · exact ⟨fun _ => h, fun _ => ta_ge h⟩
theorem ta_neg {t : Nat} : ta_i t < 0 ↔ ¬ t < 9 := by
  by_cases h : t < 9
  · rw [ta_lt h]
    exact ⟨fun z => absurd z (ta_nn h), fun z => absurd h z⟩
  · rw [ta_ge h]
    exact ⟨fun _ => h, fun _ => by decide⟩
/-- contents: N rows a table, D column row -/
def db_xc (N : Nat → Nat) (D : Nat → Nat → Int64) (ce : Nat → Int64) (rc : Nat → Int32) : Prop :=
  (∀ t, t < 3 → rc t = nI (N t) ∧ N t ≤ 16) ∧ ∀ c r, c < 9 → r < N (c / 3) → ce (16 * c + r) = D c r
def db_yc (N : Nat → Nat) (D : Nat → Nat → Int64) (ce : Nat → Int64) (ma : Nat → Int32) : Prop :=
  (∀ t, t < 3 → ma t = nI (N t) ∧ N t ≤ 16) ∧ ∀ c r, c < 9 → r < N (c / 3) → ce (48 * (c / 3) + 3 * r + c % 3) = D c r
/-- constraints -/
def db_k (U R : Nat → Bool) (T A : Nat → Nat) (un rq ta ac : Nat → Int32) : Prop :=
  ∀ c, c < 9 → un c = bo_i (U c) ∧ rq c = bo_i (R c) ∧ ta c = ta_i (T c) ∧ ac c = nI (A c)
/-- a column keeps its constraints -/
def fi_u (N : Nat → Nat) (D : Nat → Nat → Int64) (c : Nat) : Prop := ∀ i j, j < i → i < N (c / 3) → D c i ≠ nu_l → D c i ≠ D c j
def fi_r (N : Nat → Nat) (D : Nat → Nat → Int64) (c : Nat) : Prop := ∀ i, i < N (c / 3) → D c i ≠ nu_l
def fi_s (N : Nat → Nat) (D : Nat → Nat → Int64) (t c : Nat) : Prop := ∀ i, i < N (c / 3) → D c i ≠ nu_l → ∃ j, j < N (t / 3) ∧ D t j = D c i
def fi_t (N : Nat → Nat) (D : Nat → Nat → Int64) (u r : Bool) (t c : Nat) : Prop := (u = true → fi_u N D c) ∧ (r = true → fi_r N D c) ∧ (t < 9 → fi_s N D t c)
def db_K (N : Nat → Nat) (D : Nat → Nat → Int64) (U R : Nat → Bool) (T A : Nat → Nat) : Prop :=
  (∀ c, c < 9 → A c ≤ 2 ∧ (T c < 9 → T c ≠ c ∧ U (T c) = true) ∧ fi_t N D (U c) (R c) (T c) c) ∧ ∀ c r, c < 9 → r < N (c / 3) → D c r = nu_l ∨ ∃ z : Int32, D c r = z.toInt64
def rl_db (ce : Nat → Int64) (rc un rq ta ac : Nat → Int32) (ceY : Nat → Int64) (maY unY rqY rfY acY : Nat → Int32) : Prop :=
  ∃ (N : Nat → Nat) (D : Nat → Nat → Int64) (U R : Nat → Bool) (T A : Nat → Nat), db_xc N D ce rc ∧ db_k U R T A un rq ta ac ∧ db_yc N D ceY maY ∧ db_k U R T A unY rqY rfY acY ∧ db_K N D U R T A
/-- the draft -/
def dr_c (nc : Nat) (CS CC CO : Nat → Nat) (CI : Nat → Bool) (CW : Nat → Int32) (cf cp ch cs : Nat → Int32) (csY ccY cpY ciY cwY : Nat → Int32) : Prop :=
  ∀ k, k < nc → (cf k = nI (3 * CS k + CC k) ∧ cp k = nI (CO k) ∧ ch k = bo_i (CI k) ∧ cs k = CW k) ∧ csY k = nI (CS k) ∧ ccY k = nI (CC k) ∧ cpY k = nI (CO k) ∧ ciY k = bo_i (CI k) ∧ cwY k = CW k
def dr_o (no : Nat) (OK OS OC : Nat → Nat) (ok oc okY osY ocY : Nat → Int32) : Prop :=
  ∀ k, k < no → (ok k = nI (OK k) ∧ oc k = nI (3 * OS k + OC k)) ∧ okY k = nI (OK k) ∧ osY k = nI (OS k) ∧ ocY k = nI (OC k)
def dr_K (ns nc no nk : Nat) (S CS CC CO : Nat → Nat) (CI : Nat → Bool) (CW : Nat → Int32) (OK OS OC KO : Nat → Nat) : Prop :=
  (ns ≤ 3 ∧ nc ≤ 6 ∧ no ≤ 4 ∧ nk ≤ 2) ∧ (∀ s, s < ns → S s < 3) ∧
  (∀ k, k < nc → CS k < ns ∧ CC k < 3 ∧ CO k < 6 ∧ (CI k = true → ∃ w, CW k = nI w ∧ w < 3 * ns)) ∧
  (∀ k, k < no → OK k < 7 ∧ (OK k ≠ 1 → OS k < ns) ∧ (OK k = 1 → OS k = 0 ∧ OC k = 0) ∧ OC k < 3) ∧ ∀ k, k < nk → KO k < no
def rl_dr (so co ou ky : Int32) (st cf cp ch cs ok oc ko kf : Nat → Int32) (soY coY ouY kyY : Int32) (srY csY ccY cpY cwY okY osY ocY koY ciY kfY : Nat → Int32) : Prop :=
  ∃ (ns nc no nk : Nat) (S CS CC CO : Nat → Nat) (CI : Nat → Bool) (CW : Nat → Int32) (OK OS OC KO : Nat → Nat),
  (so = nI ns ∧ co = nI nc ∧ ou = nI no ∧ ky = nI nk) ∧ (soY = nI ns ∧ coY = nI nc ∧ ouY = nI no ∧ kyY = nI nk) ∧
  (∀ s, s < ns → st s = nI (S s) ∧ srY s = nI (S s)) ∧ dr_c nc CS CC CO CI CW cf cp ch cs csY ccY cpY ciY cwY ∧ dr_o no OK OS OC ok oc okY osY ocY ∧
  (∀ k, k < nk → ko k = nI (KO k) ∧ koY k = nI (KO k) ∧ kf k = kfY k) ∧ dr_K ns nc no nk S CS CC CO CI CW OK OS OC KO
def rl_li (mo di li diY : Int32) : Prop := mo = li ∧ di = diY ∧ (∃ m, m ≤ 60 ∧ mo = nI m) ∧ ∃ b, di = bo_i b
def rl_re (rr rw : Int32) (rs : Nat → Int64) (rrY wiY : Int32) (rsY : Nat → Int64) : Prop :=
  ∃ nr, nr ≤ 60 ∧ rr = nI nr ∧ rrY = nI nr ∧ (nr = 0 ∨ ∃ w, w ≤ 4 ∧ rw = nI w ∧ wiY = nI w ∧ ∀ i k, i < nr → k < w → rs (4 * i + k) = rsY (4 * i + k))
def rl_sv (to op : Int32) (ce : Nat → Int64) (rc un rq ta ac : Nat → Int32) (ceY : Nat → Int64) (maY unY rqY rfY acY : Nat → Int32) : Prop :=
  to = op ∧ (to = 0 ∨ (to = 1 ∧ rl_db ce rc un rq ta ac ceY maY unY rqY rfY acY))
def i_Rel (k : Nat) (u : SX) (v : SY) : Prop := match u, v with
  | (toX, soX, coX, ouX, kyX, moX, diX, rrX, rwX, ceX, rcX, unX, rqX, taX, acX, sceX, srcX, sunX, srqX, staX, sacX, stX, cfX, cpX, chX, csX, okX, ocX, koX, kfX, cbX, mkX, fvX, ovX, rsX, rtX), (opY, soY, coY, ouY, kyY, liY, diY, cmY, rrY, wiY, ceY, oceY, bceY, maY, omaY, bmaY, unY, rqY, bunY, brqY, rfY, acY, brfY, bacY, srY, csY, ccY, cpY, cwY, okY, osY, ocY, koY, ciY, kfY, cbY, goY, rsY, geY, keY) => rl_db ceX rcX unX rqX taX acX ceY maY unY rqY rfY acY ∧ rl_sv toX opY sceX srcX sunX srqX staX sacX bceY bmaY bunY brqY brfY bacY ∧ rl_dr soX coX ouX kyX stX cfX cpX chX csX okX ocX koX kfX soY coY ouY kyY srY csY ccY cpY cwY okY osY ocY koY ciY kfY ∧ rl_li moX diX liY diY ∧ rl_re rrX rwX rsX rrY wiY rsY
theorem i_up {k : Nat} {u : SX} {v : SY} (h : i_Rel k u v) : i_Rel (k + 6) u v := h
/-! numbers -/
theorem nz_d3 {c : Nat} (hc : c < 2 ^ 31) : nI c / 3 = nI (c / 3) := pk_div (d := 3) hc (by decide) (by decide)
theorem nz_r3 {c : Nat} (hc : c < 2 ^ 31) : nI c - nI c / 3 * 3 = nI (c % 3) := pk_rem (d := 3) hc (by decide) (by decide)
theorem nz_16m (c : Nat) : 16 * nI c = nI (16 * c) := pk_mul 16 c
theorem nz_16 (c i : Nat) : 16 * nI c + nI i = nI (16 * c + i) := by rw [nz_16m, nI_add]
theorem nz_3m (c : Nat) : 3 * nI c = nI (3 * c) := pk_mul 3 c
theorem nz_3 (c i : Nat) : 3 * nI c + nI i = nI (3 * c + i) := by rw [nz_3m, nI_add]
theorem nz_4 (c i : Nat) : 4 * nI c + nI i = nI (4 * c + i) := by rw [show 4 * nI c = nI (4 * c) from pk_mul 4 c, nI_add]
theorem nz_48 (c : Nat) : 48 * nI c = nI (48 * c) := pk_mul 48 c
theorem nz_3ne : ¬ (3 : Int32) = 0 := by decide
theorem nz_cl {n : Nat} (h : n < 2 ^ 31) : (nI n).toNatClampNeg = n := nI_clamp h
theorem nz_m1 {n : Nat} (h : n < 2 ^ 30) : ¬ nI n = -1 := by
  intro z
  have h2 : (nI n).toInt = -1 := by rw [z]; decide
  rw [nI_toInt (by omega)] at h2
  omega
