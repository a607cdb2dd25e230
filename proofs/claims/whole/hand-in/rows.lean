section
theorem pk_us {f : Nat → Int32} {k : Nat} {x : Int32} : upd f k x k = x := if_pos rfl
theorem pk_un {f : Nat → Int32} {k j : Nat} {x : Int32} (h : j ≠ k) : upd f k x j = f j := if_neg h
theorem pk_uLs {f : Nat → Int64} {k : Nat} {x : Int64} : vp_updL f k x k = x := if_pos rfl
theorem pk_uLn {f : Nat → Int64} {k j : Nat} {x : Int64} (h : j ≠ k) : vp_updL f k x j = f j := if_neg h
theorem pk_sub {a b : Nat} (h : b ≤ a) : nI a - nI b = nI (a - b) := by
  obtain ⟨c, rfl⟩ : ∃ c, a = c + b := ⟨a - b, by omega⟩
  rw [← nI_add, Int32.add_sub_cancel, Nat.add_sub_cancel]
theorem pk_m1 (n : Nat) : nI (n + 1) + (-1) = nI n := by
  rw [← nI_1, Int32.add_assoc, show (1 : Int32) + (-1) = 0 from rfl, Int32.add_zero]
theorem pk_mul (a b : Nat) : nI a * nI b = nI (a * b) := (Int32.ofNat_mul a b).symm
theorem pk_div {a d : Nat} (ha : a < 2 ^ 31) (h0 : 0 < d) (hd : d < 2 ^ 31) : nI a / nI d = nI (a / d) := by
  apply Int32.toInt_inj.mp
  rw [lg_idiv_nonneg (by rw [nI_toInt ha]; omega) (by rw [nI_toInt hd]; omega), nI_toInt ha, nI_toInt hd, nI_toInt (Nat.lt_of_le_of_lt (Nat.div_le_self a d) ha)]
  first | rfl | exact (Int.natCast_ediv _ _).symm
theorem pk_rem {a d : Nat} (ha : a < 2 ^ 31) (h0 : 0 < d) (hd : d < 2 ^ 31) : nI a - nI a / nI d * nI d = nI (a % d) := by
  rw [pk_div ha h0 hd, pk_mul, pk_sub (Nat.div_mul_le_self a d)]
  exact congrArg nI (by have := Nat.div_add_mod' a d; omega)
theorem pk_ix (x : Int32) {n : Nat} (hn : n < 2 ^ 31) : x < 0 ∨ nI n ≤ x ∨ ∃ j : Nat, j < n ∧ x = nI j := by
  by_cases h : x < 0
  · exact Or.inl h
  · obtain ⟨j, hj, rfl⟩ := nI_of h
    by_cases h2 : j < n
    · exact Or.inr (Or.inr ⟨j, h2, rfl⟩)
    · exact Or.inr (Or.inl (nI_le (by omega) hj))
theorem pk_le {x y : Int32} {A B : Prop} (a b : Nat) (f : a ≤ b → A) (g : b < a → B) (hx : x = nI a := by rfl) (hy : y = nI b := by rfl) (ha : a < 2 ^ 31 := by omega) (hb : b < 2 ^ 31 := by omega) : (x ≤ y → A) ∧ (¬ x ≤ y → B) := by
  subst hx hy
  rw [nI_leI ha hb]
  exact ⟨f, fun z => g (by omega)⟩
theorem pk_lt {x y : Int32} {A B : Prop} (a b : Nat) (f : a < b → A) (g : b ≤ a → B) (hx : x = nI a := by rfl) (hy : y = nI b := by rfl) (ha : a < 2 ^ 31 := by omega) (hb : b < 2 ^ 31 := by omega) : (x < y → A) ∧ (¬ x < y → B) := by
  subst hx hy
  rw [nI_ltI ha hb]
  exact ⟨f, fun z => g (by omega)⟩
theorem pk_eq {x y : Int32} {A B : Prop} (a b : Nat) (f : a = b → A) (g : a ≠ b → B) (hx : x = nI a := by rfl) (hy : y = nI b := by rfl) (ha : a < 2 ^ 31 := by omega) (hb : b < 2 ^ 31 := by omega) : (x = y → A) ∧ (¬ x = y → B) := by
  subst hx hy
  rw [nI_eq ha hb]
  exact ⟨f, g⟩
theorem pk_in {x : Int32} (n N : Nat) (h : n < N) (hx : x = nI n := by rfl) (hN : N < 2 ^ 31 := by omega) : vp_in x N := by
  subst hx
  exact vp_in_nI h hN
theorem pk_cl {x : Int32} (n : Nat) (hx : x = nI n := by rfl) (h : n < 2 ^ 31 := by omega) : x.toNatClampNeg = n := by
  subst hx
  exact nI_clamp h
theorem pk_tn {n : Nat} (h : n < 2 ^ 32) : (nI n).toBitVec.toNat = n := Nat.mod_eq_of_lt h
theorem pk_and (x : Int32) {m : Int32} (k : Nat) (hm : m.toBitVec.toNat = 2 ^ k - 1) : x &&& m = nI (x.toBitVec.toNat % 2 ^ k) := by
  apply Int32.toBitVec_inj.mp
  apply BitVec.eq_of_toNat_eq
  rw [Int32.toBitVec_and, BitVec.toNat_and, hm, Nat.and_two_pow_sub_one_eq_mod]
  show _ = (BitVec.ofNat 32 _).toNat
  rw [BitVec.toNat_ofNat]
  exact (Nat.mod_eq_of_lt (Nat.lt_of_le_of_lt (Nat.mod_le _ _) x.toBitVec.isLt)).symm
theorem pk_andN {n : Nat} (h : n < 2 ^ 32) {m : Int32} (k : Nat) (hm : m.toBitVec.toNat = 2 ^ k - 1) : nI n &&& m = nI (n % 2 ^ k) := by
  rw [pk_and _ k hm, pk_tn h]
theorem pk_shr (a s : Int32) (k : Nat) (hs : (s.toBitVec.smod 32).toNat = k) : (a >>> s).toInt = a.toInt >>> k := by
  show (a.toBitVec.sshiftRight (s.toBitVec.smod 32).toNat).toInt = _
  rw [hs, BitVec.toInt_sshiftRight]
  rfl
theorem pk_shrN {n : Nat} (h : n < 2 ^ 31) (s : Int32) (k : Nat) (hs : (s.toBitVec.smod 32).toNat = k) : nI n >>> s = nI (n / 2 ^ k) := by
  apply Int32.toInt_inj.mp
  have h2 : n / 2 ^ k ≤ n := Nat.div_le_self _ _
  rw [pk_shr _ _ k hs, nI_toInt h, nI_toInt (by omega), Int.shiftRight_eq_div_pow]
  rfl
theorem pk_loop {σ : Type} (W : Nat → Nat → σ → Prop) (I : Nat → σ → Prop) (e i0 : Nat) (s : σ) (hi : i0 ≤ e) (h0 : I i0 s) (hx : ∀ n s, I e s → W (n + 1) e s)
    (hs : ∀ n i s, i < e → I i s → (∀ s', I (i + 1) s' → W n (i + 1) s') → W (n + 1) i s) : ∃ n, W n i0 s :=
  ⟨e + 1, loop_i W I e hx hs (e + 1) i0 s hi (by omega) h0⟩
def bt (x : Int32) (i : Nat) : Bool := x.toBitVec.getLsbD i
theorem b_ext {x y : Int32} (h : ∀ i, i < 32 → bt x i = bt y i) : x = y := Int32.toBitVec_inj.mp (BitVec.eq_of_getLsbD_eq (fun i hi => h i hi))
theorem b_or (x y : Int32) (i : Nat) : bt (x ||| y) i = (bt x i || bt y i) := by unfold bt; rw [Int32.toBitVec_or, BitVec.getLsbD_or]
theorem b_and (x y : Int32) (i : Nat) : bt (x &&& y) i = (bt x i && bt y i) := by unfold bt; rw [Int32.toBitVec_and, BitVec.getLsbD_and]
theorem b_xor (x y : Int32) (i : Nat) : bt (x ^^^ y) i = (bt x i ^^ bt y i) := by unfold bt; rw [Int32.toBitVec_xor, BitVec.getLsbD_xor]
theorem b_big {x : Int32} {i : Nat} (h : 32 ≤ i) : bt x i = false := BitVec.getLsbD_of_ge _ _ h
theorem b_0 (i : Nat) : bt 0 i = false := BitVec.getLsbD_zero
theorem s_l : ∀ n, n < 32 → ((nI n &&& 31).toBitVec.smod 32).toNat = n := by decide +kernel
theorem b_shl (n : Nat) (hn : n < 32) (x : Int32) {i : Nat} (hi : i < 32) : bt (x <<< (nI n &&& 31)) i = (decide (n ≤ i) && bt x (i - n)) := by
  unfold bt
  rw [Int32.toBitVec_shiftLeft]
  show (x.toBitVec <<< ((nI n &&& 31).toBitVec.smod 32).toNat).getLsbD i = _
  rw [s_l n hn, BitVec.getLsbD_shiftLeft]
  rcases Nat.lt_or_ge i n with h | h
  · simp [h, Nat.not_le.mpr h]
  · simp [hi, h, Nat.not_lt.mpr h]
theorem b_sshr (n : Nat) (hn : n < 32) (x : Int32) {i : Nat} (hi : i < 32) : bt (x >>> (nI n &&& 31)) i = if n + i < 32 then bt x (n + i) else bt x 31 := by
  unfold bt
  rw [Int32.toBitVec_shiftRight]
  show (x.toBitVec.sshiftRight ((nI n &&& 31).toBitVec.smod 32).toNat).getLsbD i = _
  rw [s_l n hn, BitVec.getLsbD_sshiftRight, BitVec.msb_eq_getLsbD_last]
  simp [hi]
theorem nx_and (a b : Nat) : nI a &&& nI b = nI (a &&& b) := by
  apply Int32.toBitVec_inj.1
  show BitVec.ofNat 32 a &&& BitVec.ofNat 32 b = BitVec.ofNat 32 (a &&& b)
  apply BitVec.eq_of_getLsbD_eq
  intro i hi
  simp [hi]
end
section
/-! the pictures of the two states, and the relation -/
abbrev nu_l : Int64 := -9000000000000000000
def bo_i (b : Bool) : Int32 := if b then 1 else 0
def ta_i (t : Nat) : Int32 := if t < 9 then nI t else -1
theorem bo_t : bo_i true = 1 := rfl
theorem bo_f : bo_i false = 0 := rfl
theorem bo_0 {b : Bool} : bo_i b = 0 ↔ b = false := by cases b <;> decide
theorem bo_n {b : Bool} : ¬ bo_i b = 0 ↔ b = true := by cases b <;> decide
theorem bo_nar (b : Bool) : vp_nar .boolean (bo_i b) = bo_i b := by cases b <;> rfl
theorem bo_nar0 : vp_nar .boolean 0 = bo_i false := rfl
theorem bo_nar1 : vp_nar .boolean 1 = bo_i true := rfl
theorem ta_lt {t : Nat} (h : t < 9) : ta_i t = nI t := if_pos h
theorem ta_ge {t : Nat} (h : ¬ t < 9) : ta_i t = -1 := if_neg h
theorem ta_m1 {t : Nat} (h : t < 9) : ¬ nI t = -1 := by
  have : ∀ t, t < 9 → ¬ nI t = -1 := by decide
  exact this t h
theorem ta_nn {t : Nat} (h : t < 9) : ¬ nI t < 0 := nI_pos (by omega)
theorem ta_eq {t c : Nat} (hc : c < 9) : ta_i t = nI c ↔ t = c := by
  by_cases h : t < 9
  · rw [ta_lt h, nI_eq (by omega) (by omega)]
  · rw [ta_ge h]
    exact ⟨fun z => absurd z.symm (ta_m1 hc), fun z => absurd (z ▸ hc) h⟩
theorem ta_none {t : Nat} : ta_i t = -1 ↔ ¬ t < 9 := by
  by_cases h : t < 9
  · rw [ta_lt h]
    exact ⟨fun z => absurd z (ta_m1 h), fun z => absurd h z⟩
  · exact ⟨fun _ => h, fun _ => ta_ge h⟩
theorem ta_neg {t : Nat} : ta_i t < 0 ↔ ¬ t < 9 := by
  by_cases h : t < 9
  · rw [ta_lt h]
    exact ⟨fun z => absurd z (ta_nn h), fun z => absurd h z⟩
  · rw [ta_ge h]
    exact ⟨fun _ => h, fun _ => by decide⟩
/-- contents: N rows a table, D column row -/
def db_xc (N : Nat → Nat) (D : Nat → Nat → Int64) (ce : Nat → Int64) (rc : Nat → Int32) : Prop :=
  (∀ t, t < 3 → rc t = nI (N t) ∧ N t ≤ 16) ∧ ∀ c r, c < 9 → r < N (c / 3) → ce (16 * c + r) = D c r
def db_yc (N : Nat → Nat) (D : Nat → Nat → Int64) (ce : Nat → Int64) (ma : Nat → Int32) : Prop :=
  (∀ t, t < 3 → ma t = nI (N t) ∧ N t ≤ 16) ∧ ∀ c r, c < 9 → r < N (c / 3) → ce (48 * (c / 3) + 3 * r + c % 3) = D c r
/-- constraints -/
def db_k (U R : Nat → Bool) (T A : Nat → Nat) (un rq ta ac : Nat → Int32) : Prop :=
  ∀ c, c < 9 → un c = bo_i (U c) ∧ rq c = bo_i (R c) ∧ ta c = ta_i (T c) ∧ ac c = nI (A c)
/-- a column keeps its constraints -/
def fi_u (N : Nat → Nat) (D : Nat → Nat → Int64) (c : Nat) : Prop := ∀ i j, j < i → i < N (c / 3) → D c i ≠ nu_l → D c i ≠ D c j
def fi_r (N : Nat → Nat) (D : Nat → Nat → Int64) (c : Nat) : Prop := ∀ i, i < N (c / 3) → D c i ≠ nu_l
def fi_s (N : Nat → Nat) (D : Nat → Nat → Int64) (t c : Nat) : Prop := ∀ i, i < N (c / 3) → D c i ≠ nu_l → ∃ j, j < N (t / 3) ∧ D t j = D c i
def fi_t (N : Nat → Nat) (D : Nat → Nat → Int64) (u r : Bool) (t c : Nat) : Prop := (u = true → fi_u N D c) ∧ (r = true → fi_r N D c) ∧ (t < 9 → fi_s N D t c)
def db_K (N : Nat → Nat) (D : Nat → Nat → Int64) (U R : Nat → Bool) (T A : Nat → Nat) : Prop :=
  (∀ c, c < 9 → A c ≤ 2 ∧ (T c < 9 → T c ≠ c ∧ U (T c) = true) ∧ fi_t N D (U c) (R c) (T c) c) ∧ ∀ c r, c < 9 → r < N (c / 3) → D c r = nu_l ∨ ∃ z : Int32, D c r = z.toInt64
def rl_db (ce : Nat → Int64) (rc un rq ta ac : Nat → Int32) (ceY : Nat → Int64) (maY unY rqY rfY acY : Nat → Int32) : Prop :=
  ∃ (N : Nat → Nat) (D : Nat → Nat → Int64) (U R : Nat → Bool) (T A : Nat → Nat), db_xc N D ce rc ∧ db_k U R T A un rq ta ac ∧ db_yc N D ceY maY ∧ db_k U R T A unY rqY rfY acY ∧ db_K N D U R T A
/-- the draft -/
def dr_c (nc : Nat) (CS CC CO : Nat → Nat) (CI : Nat → Bool) (CW : Nat → Int32) (cf cp ch cs : Nat → Int32) (csY ccY cpY ciY cwY : Nat → Int32) : Prop :=
  ∀ k, k < nc → (cf k = nI (3 * CS k + CC k) ∧ cp k = nI (CO k) ∧ ch k = bo_i (CI k) ∧ cs k = CW k) ∧ csY k = nI (CS k) ∧ ccY k = nI (CC k) ∧ cpY k = nI (CO k) ∧ ciY k = bo_i (CI k) ∧ cwY k = CW k
def dr_o (no : Nat) (OK OS OC : Nat → Nat) (ok oc okY osY ocY : Nat → Int32) : Prop :=
  ∀ k, k < no → (ok k = nI (OK k) ∧ oc k = nI (3 * OS k + OC k)) ∧ okY k = nI (OK k) ∧ osY k = nI (OS k) ∧ ocY k = nI (OC k)
def dr_K (ns nc no nk : Nat) (S CS CC CO : Nat → Nat) (CI : Nat → Bool) (CW : Nat → Int32) (OK OS OC KO : Nat → Nat) : Prop :=
  (ns ≤ 3 ∧ nc ≤ 6 ∧ no ≤ 4 ∧ nk ≤ 2) ∧ (∀ s, s < ns → S s < 3) ∧
  (∀ k, k < nc → CS k < ns ∧ CC k < 3 ∧ CO k < 6 ∧ (CI k = true → ∃ w, CW k = nI w ∧ w < 3 * ns)) ∧
  (∀ k, k < no → OK k < 7 ∧ (OK k ≠ 1 → OS k < ns) ∧ (OK k = 1 → OS k = 0 ∧ OC k = 0) ∧ OC k < 3) ∧ ∀ k, k < nk → KO k < no
def rl_dr (so co ou ky : Int32) (st cf cp ch cs ok oc ko kf : Nat → Int32) (soY coY ouY kyY : Int32) (srY csY ccY cpY cwY okY osY ocY koY ciY kfY : Nat → Int32) : Prop :=
  ∃ (ns nc no nk : Nat) (S CS CC CO : Nat → Nat) (CI : Nat → Bool) (CW : Nat → Int32) (OK OS OC KO : Nat → Nat),
  (so = nI ns ∧ co = nI nc ∧ ou = nI no ∧ ky = nI nk) ∧ (soY = nI ns ∧ coY = nI nc ∧ ouY = nI no ∧ kyY = nI nk) ∧
  (∀ s, s < ns → st s = nI (S s) ∧ srY s = nI (S s)) ∧ dr_c nc CS CC CO CI CW cf cp ch cs csY ccY cpY ciY cwY ∧ dr_o no OK OS OC ok oc okY osY ocY ∧
  (∀ k, k < nk → ko k = nI (KO k) ∧ koY k = nI (KO k) ∧ kf k = kfY k) ∧ dr_K ns nc no nk S CS CC CO CI CW OK OS OC KO
def rl_li (mo di li diY : Int32) : Prop := mo = li ∧ di = diY ∧ (∃ m, m ≤ 60 ∧ mo = nI m) ∧ ∃ b, di = bo_i b
def rl_re (rr rw : Int32) (rs : Nat → Int64) (rrY wiY : Int32) (rsY : Nat → Int64) : Prop :=
  ∃ nr, nr ≤ 60 ∧ rr = nI nr ∧ rrY = nI nr ∧ (nr = 0 ∨ ∃ w, w ≤ 4 ∧ rw = nI w ∧ wiY = nI w ∧ ∀ i k, i < nr → k < w → rs (4 * i + k) = rsY (4 * i + k))
def rl_sv (to op : Int32) (ce : Nat → Int64) (rc un rq ta ac : Nat → Int32) (ceY : Nat → Int64) (maY unY rqY rfY acY : Nat → Int32) : Prop :=
  to = op ∧ (to = 0 ∨ (to = 1 ∧ rl_db ce rc un rq ta ac ceY maY unY rqY rfY acY))
def i_Rel (k : Nat) (u : SX) (v : SY) : Prop := match u, v with
  | (toX, soX, coX, ouX, kyX, moX, diX, rrX, rwX, ceX, rcX, unX, rqX, taX, acX, sceX, srcX, sunX, srqX, staX, sacX, stX, cfX, cpX, chX, csX, okX, ocX, koX, kfX, cbX, mkX, fvX, ovX, rsX, rtX), (opY, soY, coY, ouY, kyY, liY, diY, cmY, rrY, wiY, ceY, oceY, bceY, maY, omaY, bmaY, unY, rqY, bunY, brqY, rfY, acY, brfY, bacY, srY, csY, ccY, cpY, cwY, okY, osY, ocY, koY, ciY, kfY, cbY, goY, rsY, geY, keY) => rl_db ceX rcX unX rqX taX acX ceY maY unY rqY rfY acY ∧ rl_sv toX opY sceX srcX sunX srqX staX sacX bceY bmaY bunY brqY brfY bacY ∧ rl_dr soX coX ouX kyX stX cfX cpX chX csX okX ocX koX kfX soY coY ouY kyY srY csY ccY cpY cwY okY osY ocY koY ciY kfY ∧ rl_li moX diX liY diY ∧ rl_re rrX rwX rsX rrY wiY rsY
theorem i_up {k : Nat} {u : SX} {v : SY} (h : i_Rel k u v) : i_Rel (k + 6) u v := h
/-! numbers -/
theorem nz_d3 {c : Nat} (hc : c < 2 ^ 31) : nI c / 3 = nI (c / 3) := pk_div (d := 3) hc (by decide) (by decide)
theorem nz_r3 {c : Nat} (hc : c < 2 ^ 31) : nI c - nI c / 3 * 3 = nI (c % 3) := pk_rem (d := 3) hc (by decide) (by decide)
theorem nz_16m (c : Nat) : 16 * nI c = nI (16 * c) := pk_mul 16 c
theorem nz_16 (c i : Nat) : 16 * nI c + nI i = nI (16 * c + i) := by rw [nz_16m, nI_add]
theorem nz_3m (c : Nat) : 3 * nI c = nI (3 * c) := pk_mul 3 c
theorem nz_3 (c i : Nat) : 3 * nI c + nI i = nI (3 * c + i) := by rw [nz_3m, nI_add]
theorem nz_4 (c i : Nat) : 4 * nI c + nI i = nI (4 * c + i) := by rw [show 4 * nI c = nI (4 * c) from pk_mul 4 c, nI_add]
theorem nz_48 (c : Nat) : 48 * nI c = nI (48 * c) := pk_mul 48 c
theorem nz_3ne : ¬ (3 : Int32) = 0 := by decide
theorem nz_cl {n : Nat} (h : n < 2 ^ 31) : (nI n).toNatClampNeg = n := nI_clamp h
theorem nz_m1 {n : Nat} (h : n < 2 ^ 30) : ¬ nI n = -1 := by
  intro z
  have h2 : (nI n).toInt = -1 := by rw [z]; decide
  rw [nI_toInt (by omega)] at h2
  omega
end
section
section
variable {toX soX coX ouX kyX moX diX rrX rwX : Int32} {ceX sceX fvX ovX rsX : Nat → Int64} {rcX unX rqX taX acX srcX sunX srqX staX sacX stX cfX cpX chX csX okX ocX koX kfX cbX mkX rtX : Nat → Int32} {N : Nat → Nat} {D : Nat → Nat → Int64} {U R : Nat → Bool} {T A : Nat → Nat} {post : Int32 → Prop}
theorem xm_out (v : Int32) (h1 : (∀ j, j < 3 → v ≠ nI j) → post 1) (h0 : ∀ j, j < 3 → v = nI j → post 0) : wpX_isOutside post v := by
  refine br_c (fun hn => h1 (fun j hj e => ?_)) (fun hp => ?_)
  · rw [e] at hn
    exact nI_pos (by omega) hn
  · obtain ⟨j, hj, rfl⟩ := nI_of hp
    refine pk_le j 2 (fun h => h0 j (by omega) rfl) (fun h => h1 (fun q hq e => ?_))
    rw [nI_eq hj (by omega)] at e
    omega
theorem xm_rowWith (hC : db_xc N D ceX rcX) {c : Nat} (hc : c < 9) {v : Int64} (h1 : ∀ r, r < N (c / 3) → D c r = v → (∀ q, q < r → D c q ≠ v) → post (nI (16 * (c / 3) + r))) (h0 : (∀ r, r < N (c / 3) → D c r ≠ v) → post (-1)) : wpX_rowWith post (toX, soX, coX, ouX, kyX, moX, diX, rrX, rwX, ceX, rcX, unX, rqX, taX, acX, sceX, srcX, sunX, srqX, staX, sacX, stX, cfX, cpX, chX, csX, okX, ocX, koX, kfX, cbX, mkX, fvX, ovX, rsX, rtX) (nI c) v := by
  have ht : c / 3 < 3 := by omega
  obtain ⟨hn, hN⟩ := hC.1 (c / 3) ht
  refine ⟨nz_3ne, nm_r (nz_d3 (by omega)) ⟨vp_in_nI ht (by decide), nm_r (e' := nI (N (c / 3))) (by rw [nI_clamp (by omega)]; exact hn) ?_⟩⟩
  refine loop_0 (fun n i (_ : Unit) => wX_rowWith_17 post (nI c) v (nI (c / 3)) (nI (N (c / 3))) toX soX coX ouX kyX moX diX rrX rwX ceX rcX unX rqX taX acX sceX srcX sunX srqX staX sacX stX cfX cpX chX csX okX ocX koX kfX cbX mkX fvX ovX rsX rtX n (nI i)) (fun i _ => ∀ q, q < i → D c q ≠ v) (N (c / 3)) () (fun q hq => absurd hq (Nat.not_lt_zero q)) ?_ ?_
  · intro n _ hI
    exact br_t (nI_le (Nat.le_refl _) (by omega)) (h0 hI)
  · intro n i _ hi hI hk
    have e : ceX (16 * nI c + nI i).toNatClampNeg = D c i := by rw [nz_16, nI_clamp (by omega)]; exact hC.2 c i hc hi
    refine br_f (nI_ge hi (by omega)) ⟨by rw [nz_16]; exact vp_in_nI (by omega) (by decide), ?_⟩
    by_cases hv : D c i = v
    · refine br_t (e.trans hv) ?_
      rw [nz_16]
      exact h1 i hi hv hI
    · exact br_f (fun z => hv (e.symm.trans z)) (nm_r (nI_1 i) (hk () (lt_s hI hv)))
theorem xm_hasNull (hC : db_xc N D ceX rcX) {c : Nat} (hc : c < 9) (h1 : ¬ fi_r N D c → post 1) (h0 : fi_r N D c → post 0) : wpX_hasNull post (toX, soX, coX, ouX, kyX, moX, diX, rrX, rwX, ceX, rcX, unX, rqX, taX, acX, sceX, srcX, sunX, srqX, staX, sacX, stX, cfX, cpX, chX, csX, okX, ocX, koX, kfX, cbX, mkX, fvX, ovX, rsX, rtX) (nI c) := by
  refine xm_rowWith hC hc (fun r hr e _ => ?_) (fun h => ?_)
  · exact br_f (nz_m1 (by have := (hC.1 (c / 3) (by omega)).2; omega)) (h1 (fun z => z r hr e))
  · exact br_t rfl (h0 h)
theorem xm_hasRepeated (hC : db_xc N D ceX rcX) {c : Nat} (hc : c < 9) (h1 : ¬ fi_u N D c → post 1) (h0 : fi_u N D c → post 0) : wpX_hasRepeatedInt post (toX, soX, coX, ouX, kyX, moX, diX, rrX, rwX, ceX, rcX, unX, rqX, taX, acX, sceX, srcX, sunX, srqX, staX, sacX, stX, cfX, cpX, chX, csX, okX, ocX, koX, kfX, cbX, mkX, fvX, ovX, rsX, rtX) (nI c) := by
  have ht : c / 3 < 3 := by omega
  obtain ⟨hn, hN⟩ := hC.1 (c / 3) ht
  refine ⟨nz_3ne, by rw [nz_d3 (by omega)]; exact vp_in_nI ht (by decide), nm_r (e' := nI (N (c / 3))) (by rw [nz_d3 (by omega), nI_clamp (by omega)]; exact hn) (nm_r (nz_16m c) ?_)⟩
  by_cases hz : N (c / 3) = 0
  · refine ⟨1, ?_⟩
    rw [hz]
    exact br_t (by decide) (h0 (fun i j _ hi => absurd hi (by omega)))
  · refine pk_loop (fun n i (_ : Unit) => wX_hasRepeatedInt_17 post (nI (N (c / 3))) (nI (16 * c)) toX soX coX ouX kyX moX diX rrX rwX ceX rcX unX rqX taX acX sceX srcX sunX srqX staX sacX stX cfX cpX chX csX okX ocX koX kfX cbX mkX fvX ovX rsX rtX n (nI i)) (fun i _ => ∀ a b, b < a → a < i → D c a ≠ nu_l → D c a ≠ D c b) (N (c / 3)) 1 () (by omega) (fun a b hb ha => absurd ha (by omega)) ?_ ?_
    · intro n _ hI
      exact br_t (nI_le (Nat.le_refl _) (by omega)) (h0 (fun i j hj hi => hI i j hj hi))
    · intro n i _ hi hI hk
      refine br_f (nI_ge hi (by omega)) ?_
      refine loop_0 (fun m j (_ : Unit) => wX_hasRepeatedInt_26 post (wX_hasRepeatedInt_17 post (nI (N (c / 3))) (nI (16 * c)) toX soX coX ouX kyX moX diX rrX rwX ceX rcX unX rqX taX acX sceX srcX sunX srqX staX sacX stX cfX cpX chX csX okX ocX koX kfX cbX mkX fvX ovX rsX rtX n) (nI (N (c / 3))) (nI (16 * c)) (nI i) toX soX coX ouX kyX moX diX rrX rwX ceX rcX unX rqX taX acX sceX srcX sunX srqX staX sacX stX cfX cpX chX csX okX ocX koX kfX cbX mkX fvX ovX rsX rtX m (nI j)) (fun j _ => D c i ≠ nu_l → ∀ b, b < j → D c i ≠ D c b) i () (fun _ q hq => absurd hq (Nat.not_lt_zero q)) ?_ ?_
      · intro m _ hJ
        refine br_t (nI_le (Nat.le_refl _) (by omega)) (nm_r (nI_1 i) (hk () (fun a b hb ha hv => ?_)))
        rcases Nat.lt_or_ge a i with h | h
        · exact hI a b hb h hv
        · have : a = i := by omega
          subst this
          exact hJ hv b hb
      · intro m j _ hj hJ hm
        have e : ceX (nI (16 * c) + nI i).toNatClampNeg = D c i := by rw [nI_add, nI_clamp (by omega)]; exact hC.2 c i hc hi
        have e2 : ceX (nI (16 * c) + nI j).toNatClampNeg = D c j := by rw [nI_add, nI_clamp (by omega)]; exact hC.2 c j hc (by omega)
        have hi2 : vp_in (nI (16 * c) + nI i) 144 := by rw [nI_add]; exact vp_in_nI (by omega) (by decide)
        have hj2 : vp_in (nI (16 * c) + nI j) 144 := by rw [nI_add]; exact vp_in_nI (by omega) (by decide)
        refine br_f (nI_ge hj (by omega)) ⟨hi2, ?_⟩
        by_cases hv : D c i = nu_l
        · exact br_t (e.trans hv) (nm_r (nI_1 j) (hm () (fun z => absurd hv z)))
        · refine br_f (fun z => hv (e.symm.trans z)) ⟨hi2, hj2, ?_⟩
          by_cases he : D c i = D c j
          · exact br_t (e.trans (he.trans e2.symm)) (h1 (fun z => z i j hj hi hv he))
          · exact br_f (fun z => he (e.symm.trans (z.trans e2))) (nm_r (nI_1 j) (hm () (fun hv => lt_s (hJ hv) he)))
theorem xm_hasStray (hC : db_xc N D ceX rcX) {c t : Nat} (hc : c < 9) (ht : t < 9) (h1 : ¬ fi_s N D t c → post 1) (h0 : fi_s N D t c → post 0) : wpX_hasStrayInt post (toX, soX, coX, ouX, kyX, moX, diX, rrX, rwX, ceX, rcX, unX, rqX, taX, acX, sceX, srcX, sunX, srqX, staX, sacX, stX, cfX, cpX, chX, csX, okX, ocX, koX, kfX, cbX, mkX, fvX, ovX, rsX, rtX) (nI c) (nI t) := by
  have hq : c / 3 < 3 := by omega
  obtain ⟨hn, hN⟩ := hC.1 (c / 3) hq
  refine ⟨nz_3ne, by rw [nz_d3 (by omega)]; exact vp_in_nI hq (by decide), nm_r (e' := nI (N (c / 3))) (by rw [nz_d3 (by omega), nI_clamp (by omega)]; exact hn) ?_⟩
  refine loop_0 (fun n i (_ : Unit) => wX_hasStrayInt_12 post (nI c) (nI t) (nI (N (c / 3))) toX soX coX ouX kyX moX diX rrX rwX ceX rcX unX rqX taX acX sceX srcX sunX srqX staX sacX stX cfX cpX chX csX okX ocX koX kfX cbX mkX fvX ovX rsX rtX n (nI i)) (fun i _ => ∀ a, a < i → D c a ≠ nu_l → ∃ j, j < N (t / 3) ∧ D t j = D c a) (N (c / 3)) () (fun q hq => absurd hq (Nat.not_lt_zero q)) ?_ ?_
  · intro n _ hI
    exact br_t (nI_le (Nat.le_refl _) (by omega)) (h0 hI)
  · intro n i _ hi hI hk
    have e : ceX (16 * nI c + nI i).toNatClampNeg = D c i := by rw [nz_16, nI_clamp (by omega)]; exact hC.2 c i hc hi
    refine br_f (nI_ge hi (by omega)) ⟨by rw [nz_16]; exact vp_in_nI (by omega) (by decide), nm_r e ?_⟩
    by_cases hv : D c i = nu_l
    · exact br_t hv (nm_r (nI_1 i) (hk () (lt_s hI (fun z => absurd hv z))))
    · refine br_f hv (xm_rowWith hC ht (fun r hr er _ => ?_) (fun h => ?_))
      · exact br_f (nz_m1 (by have := (hC.1 (t / 3) (by omega)).2; omega)) (nm_r (nI_1 i) (hk () (lt_s hI (fun _ => ⟨r, hr, er⟩))))
      · refine br_t rfl (h1 (fun z => ?_))
        obtain ⟨j, hj, ej⟩ := z i hi hv
        exact h j hj ej
theorem xm_fits (hC : db_xc N D ceX rcX) (hk : db_k U R T A unX rqX taX acX) {c : Nat} (hc : c < 9) (h1 : fi_t N D (U c) (R c) (T c) c → post 1) (h0 : ¬ fi_t N D (U c) (R c) (T c) c → post 0) : wpX_columnFits post (toX, soX, coX, ouX, kyX, moX, diX, rrX, rwX, ceX, rcX, unX, rqX, taX, acX, sceX, srcX, sunX, srqX, staX, sacX, stX, cfX, cpX, chX, csX, okX, ocX, koX, kfX, cbX, mkX, fvX, ovX, rsX, rtX) (nI c) := by
  obtain ⟨eu, er, et, _⟩ := hk c hc
  have hi : vp_in (nI c) 9 := vp_in_nI hc (by decide)
  have ec : (nI c).toNatClampNeg = c := nI_clamp (by omega)
  have s3 : (U c = true → fi_u N D c) → (R c = true → fi_r N D c) → wX_columnFits_38 post (nI c) toX soX coX ouX kyX moX diX rrX rwX ceX rcX unX rqX taX acX sceX srcX sunX srqX staX sacX stX cfX cpX chX csX okX ocX koX kfX cbX mkX fvX ovX rsX rtX := by
    intro hu hr
    refine ⟨hi, ?_⟩
    rw [ec, et]
    by_cases h : T c < 9
    · rw [ta_lt h]
      refine br_f (ta_m1 h) ⟨hi, xm_hasStray hC hc h (fun hs => ?_) (fun hs => ?_)⟩
      · exact br_f (by decide) (h0 (fun z => hs (z.2.2 h)))
      · exact br_t rfl (h1 ⟨hu, hr, fun _ => hs⟩)
    · exact br_t (ta_ge h) (h1 ⟨hu, hr, fun z => absurd z h⟩)
  have s2 : (U c = true → fi_u N D c) → wX_columnFits_19 post (nI c) toX soX coX ouX kyX moX diX rrX rwX ceX rcX unX rqX taX acX sceX srcX sunX srqX staX sacX stX cfX cpX chX csX okX ocX koX kfX cbX mkX fvX ovX rsX rtX := by
    intro hu
    refine ⟨hi, ?_⟩
    rw [ec, er]
    by_cases h : R c = true
    · refine br_f (bo_n.mpr h) (xm_hasNull hC hc (fun hs => ?_) (fun hs => ?_))
      · exact br_f (by decide) (h0 (fun z => hs (z.2.1 h)))
      · exact br_t rfl (s3 hu (fun _ => hs))
    · exact br_t (bo_0.mpr (by simpa using h)) (s3 hu (fun z => absurd z h))
  refine ⟨hi, ?_⟩
  rw [ec, eu]
  by_cases h : U c = true
  · refine br_f (bo_n.mpr h) (xm_hasRepeated hC hc (fun hs => ?_) (fun hs => ?_))
    · exact br_f (by decide) (h0 (fun z => hs (z.1 h)))
    · exact br_t rfl (s2 (fun _ => hs))
  · exact br_t (bo_0.mpr (by simpa using h)) (s2 (fun z => absurd z h))
end
end
section
section
variable {opY soY coY ouY kyY liY diY cmY rrY wiY : Int32} {ceY oceY bceY rsY : Nat → Int64} {maY omaY bmaY unY rqY bunY brqY rfY acY brfY bacY srY csY ccY cpY cwY okY osY ocY koY ciY kfY cbY goY geY keY : Nat → Int32} {N : Nat → Nat} {D : Nat → Nat → Int64} {U R : Nat → Bool} {T A : Nat → Nat} {post : Int32 → Prop}
theorem ym_within {v : Int32} {n : Nat} (hn : n < 2 ^ 31) (h0 : (∀ j, j < n → v ≠ nI j) → post 0) (h1 : ∀ j, j < n → v = nI j → post 1) : wpY_within post v (nI n) := by
  refine br_c (fun hv => h0 (fun j hj e => ?_)) (fun hp => ?_)
  · rw [e] at hv
    exact nI_pos (by omega) hv
  · obtain ⟨j, hj, rfl⟩ := nI_of hp
    refine pk_le n j (fun h => h0 (fun q hq e => ?_)) (fun h => h1 j (by omega) rfl)
    rw [nI_eq hj (by omega)] at e
    omega
theorem ym_ix {c r : Nat} (hc : c < 9) : ((48 * (nI c / 3)) + (3 * nI r)) + (nI c - nI c / 3 * 3) = nI (48 * (c / 3) + 3 * r + c % 3) := by
  rw [nz_r3 (by omega), nz_d3 (by omega), nz_48, nz_3m, nI_add, nI_add]
theorem ym_at {post : Int64 → Prop} (hC : db_yc N D ceY maY) {c r : Nat} (hc : c < 9) (hr : r < N (c / 3)) (h : post (D c r)) : wpY_at post (opY, soY, coY, ouY, kyY, liY, diY, cmY, rrY, wiY, ceY, oceY, bceY, maY, omaY, bmaY, unY, rqY, bunY, brqY, rfY, acY, brfY, bacY, srY, csY, ccY, cpY, cwY, okY, osY, ocY, koY, ciY, kfY, cbY, goY, rsY, geY, keY) (nI c) (nI r) := by
  have hN := (hC.1 (c / 3) (by omega)).2
  refine ⟨nz_3ne, nz_3ne, ?_⟩
  rw [ym_ix hc, nI_clamp (by omega), hC.2 c r hc hr]
  exact ⟨vp_in_nI (by omega) (by decide), h⟩
theorem ym_isThere (hC : db_yc N D ceY maY) {t : Nat} (ht : t < 9) {v : Int64} (h1 : (∃ j, j < N (t / 3) ∧ D t j = v) → post 1) (h0 : (∀ j, j < N (t / 3) → D t j ≠ v) → post 0) : wpY_isThere post (opY, soY, coY, ouY, kyY, liY, diY, cmY, rrY, wiY, ceY, oceY, bceY, maY, omaY, bmaY, unY, rqY, bunY, brqY, rfY, acY, brfY, bacY, srY, csY, ccY, cpY, cwY, okY, osY, ocY, koY, ciY, kfY, cbY, goY, rsY, geY, keY) (nI t) v := by
  have hq : t / 3 < 3 := by omega
  obtain ⟨hn, hN⟩ := hC.1 (t / 3) hq
  have en : maY (nI t / 3).toNatClampNeg = nI (N (t / 3)) := by rw [nz_d3 (by omega), nI_clamp (by omega)]; exact hn
  have hi3 : vp_in (nI t / 3) 3 := by rw [nz_d3 (by omega)]; exact vp_in_nI hq (by decide)
  refine loop_0 (fun n i (_ : Unit) => wY_isThere_3 post (nI t) v opY soY coY ouY kyY liY diY cmY rrY wiY ceY oceY bceY maY omaY bmaY unY rqY bunY brqY rfY acY brfY bacY srY csY ccY cpY cwY okY osY ocY koY ciY kfY cbY goY rsY geY keY n (nI i)) (fun i _ => ∀ a, a < i → D t a ≠ v) (N (t / 3)) () (fun q hq => absurd hq (Nat.not_lt_zero q)) ?_ ?_
  · intro n _ hI
    refine ⟨nz_3ne, hi3, ?_⟩
    rw [en]
    exact br_t (nI_le (Nat.le_refl _) (by omega)) (h0 hI)
  · intro n i _ hi hI hk
    refine ⟨nz_3ne, hi3, ?_⟩
    rw [en]
    refine br_f (nI_ge hi (by omega)) (ym_at hC ht hi ?_)
    by_cases hv : D t i = v
    · exact br_t hv (h1 ⟨i, hi, hv⟩)
    · exact br_f hv (nm_r (nI_1 i) (hk () (lt_s hI hv)))
theorem ym_fits (hC : db_yc N D ceY maY) (hk : db_k U R T A unY rqY rfY acY) {c : Nat} (hc : c < 9) (h1 : fi_t N D (U c) (R c) (T c) c → post 1) (h0 : ¬ fi_t N D (U c) (R c) (T c) c → post 0) : wpY_fits post (opY, soY, coY, ouY, kyY, liY, diY, cmY, rrY, wiY, ceY, oceY, bceY, maY, omaY, bmaY, unY, rqY, bunY, brqY, rfY, acY, brfY, bacY, srY, csY, ccY, cpY, cwY, okY, osY, ocY, koY, ciY, kfY, cbY, goY, rsY, geY, keY) (nI c) := by
  obtain ⟨eu, er, et, _⟩ := hk c hc
  have hi9 : vp_in (nI c) 9 := vp_in_nI hc (by decide)
  have ec : (nI c).toNatClampNeg = c := nI_clamp (by omega)
  have hq : c / 3 < 3 := by omega
  obtain ⟨hn, hN⟩ := hC.1 (c / 3) hq
  refine ⟨nz_3ne, by rw [nz_d3 (by omega)]; exact vp_in_nI hq (by decide), nm_r (e' := nI (N (c / 3))) (by rw [nz_d3 (by omega), nI_clamp (by omega)]; exact hn) ?_⟩
  refine loop_0 (fun n i (_ : Unit) => wY_fits_11 post (nI c) (nI (N (c / 3))) opY soY coY ouY kyY liY diY cmY rrY wiY ceY oceY bceY maY omaY bmaY unY rqY bunY brqY rfY acY brfY bacY srY csY ccY cpY cwY okY osY ocY koY ciY kfY cbY goY rsY geY keY n (nI i)) (fun i _ => (U c = true → ∀ a b, b < a → a < i → D c a ≠ nu_l → D c a ≠ D c b) ∧ (R c = true → ∀ a, a < i → D c a ≠ nu_l) ∧ (T c < 9 → ∀ a, a < i → D c a ≠ nu_l → ∃ j, j < N (T c / 3) ∧ D (T c) j = D c a)) (N (c / 3)) () ⟨fun _ a b _ ha => absurd ha (Nat.not_lt_zero _), fun _ a ha => absurd ha (Nat.not_lt_zero _), fun _ a ha => absurd ha (Nat.not_lt_zero _)⟩ ?_ ?_
  · intro n _ hI
    exact br_t (nI_le (Nat.le_refl _) (by omega)) (h1 ⟨fun h a b hb ha => hI.1 h a b hb ha, hI.2.1, hI.2.2⟩)
  · intro n i _ hi hI hk
    refine br_f (nI_ge hi (by omega)) (ym_at hC hc hi ?_)
    by_cases hv : D c i = nu_l
    · refine br_t hv ⟨hi9, ?_⟩
      rw [ec, er]
      by_cases hr : R c = true
      · exact br_f (bo_n.mpr hr) (h0 (fun z => z.2.1 hr i hi hv))
      · refine br_t (bo_0.mpr (by simpa using hr)) (nm_r (nI_1 i) (hk () ⟨fun hu a b hb ha hv2 => ?_, fun z => absurd z hr, fun ht => lt_s (hI.2.2 ht) (fun z => absurd hv z)⟩))
        rcases Nat.lt_or_ge a i with h | h
        · exact hI.1 hu a b hb h hv2
        · have : a = i := by omega
          subst this
          exact absurd hv hv2
    · refine br_f hv ?_
      have fin : (U c = true → ∀ b, b < i → D c i ≠ D c b) → wY_fits_83 post (wY_fits_11 post (nI c) (nI (N (c / 3))) opY soY coY ouY kyY liY diY cmY rrY wiY ceY oceY bceY maY omaY bmaY unY rqY bunY brqY rfY acY brfY bacY srY csY ccY cpY cwY okY osY ocY koY ciY kfY cbY goY rsY geY keY n) (nI c) (nI (N (c / 3))) (nI i) (D c i) opY soY coY ouY kyY liY diY cmY rrY wiY ceY oceY bceY maY omaY bmaY unY rqY bunY brqY rfY acY brfY bacY srY csY ccY cpY cwY okY osY ocY koY ciY kfY cbY goY rsY geY keY := by
        intro hub
        have nxt : (T c < 9 → ∃ j, j < N (T c / 3) ∧ D (T c) j = D c i) → wY_fits_11 post (nI c) (nI (N (c / 3))) opY soY coY ouY kyY liY diY cmY rrY wiY ceY oceY bceY maY omaY bmaY unY rqY bunY brqY rfY acY brfY bacY srY csY ccY cpY cwY okY osY ocY koY ciY kfY cbY goY rsY geY keY n (nI (i + 1)) := by
          intro hst
          refine hk () ⟨fun hu a b hb ha hv2 => ?_, fun hr => lt_s (hI.2.1 hr) hv, fun ht => lt_s (hI.2.2 ht) (fun _ => hst ht)⟩
          rcases Nat.lt_or_ge a i with h | h
          · exact hI.1 hu a b hb h hv2
          · have : a = i := by omega
            subst this
            exact hub hu b hb
        refine ⟨hi9, ?_⟩
        rw [ec, et]
        by_cases ht : T c < 9
        · rw [ta_lt ht]
          refine br_f (ta_nn ht) ⟨hi9, ym_isThere hC ht (fun h => ?_) (fun h => ?_)⟩
          · exact br_f (by decide) (nm_r (nI_1 i) (nxt (fun _ => h)))
          · refine br_t rfl (h0 (fun z => ?_))
            obtain ⟨j, hj, ej⟩ := z.2.2 ht i hi hv
            exact h j hj ej
        · exact br_t (ta_neg.mpr ht) (nm_r (nI_1 i) (nxt (fun z => absurd z ht)))
      refine loop_0 (fun m j (_ : Unit) => wY_fits_47 post (wY_fits_11 post (nI c) (nI (N (c / 3))) opY soY coY ouY kyY liY diY cmY rrY wiY ceY oceY bceY maY omaY bmaY unY rqY bunY brqY rfY acY brfY bacY srY csY ccY cpY cwY okY osY ocY koY ciY kfY cbY goY rsY geY keY n) (nI c) (nI (N (c / 3))) (nI i) (D c i) opY soY coY ouY kyY liY diY cmY rrY wiY ceY oceY bceY maY omaY bmaY unY rqY bunY brqY rfY acY brfY bacY srY csY ccY cpY cwY okY osY ocY koY ciY kfY cbY goY rsY geY keY m (nI j)) (fun j _ => ∀ b, b < j → D c i ≠ D c b) i () (fun q hq => absurd hq (Nat.not_lt_zero q)) ?_ ?_
      · intro m _ hJ
        exact br_t (nI_le (Nat.le_refl _) (by omega)) (fin (fun _ => hJ))
      · intro m j _ hj hJ hm
        refine br_f (nI_ge hj (by omega)) ⟨hi9, ?_⟩
        rw [ec, eu]
        by_cases hu : U c = true
        · refine br_f (bo_n.mpr hu) (ym_at hC hc (by omega) ?_)
          by_cases he : D c j = D c i
          · exact br_t he (h0 (fun z => z.1 hu i j hj hi hv he.symm))
          · exact br_f he (nm_r (nI_1 j) (hm () (lt_s hJ (fun z => he z.symm))))
        · exact br_t (bo_0.mpr (by simpa using hu)) (fin (fun z => absurd z hu))
theorem ym_allFit (hC : db_yc N D ceY maY) (hk : db_k U R T A unY rqY rfY acY) (h1 : (∀ c, c < 9 → fi_t N D (U c) (R c) (T c) c) → post 1) (h0 : (¬ ∀ c, c < 9 → fi_t N D (U c) (R c) (T c) c) → post 0) : wpY_allFit post (opY, soY, coY, ouY, kyY, liY, diY, cmY, rrY, wiY, ceY, oceY, bceY, maY, omaY, bmaY, unY, rqY, bunY, brqY, rfY, acY, brfY, bacY, srY, csY, ccY, cpY, cwY, okY, osY, ocY, koY, ciY, kfY, cbY, goY, rsY, geY, keY) := by
  refine loop_0 (fun n i (_ : Unit) => wY_allFit_2 post opY soY coY ouY kyY liY diY cmY rrY wiY ceY oceY bceY maY omaY bmaY unY rqY bunY brqY rfY acY brfY bacY srY csY ccY cpY cwY okY osY ocY koY ciY kfY cbY goY rsY geY keY n (nI i)) (fun i _ => ∀ c, c < i → fi_t N D (U c) (R c) (T c) c) 9 () (fun q hq => absurd hq (Nat.not_lt_zero q)) ?_ ?_
  · intro n _ hI
    exact br_t (by decide) (h1 hI)
  · intro n i _ hi hI hn
    refine br_f (nI_ge (b := 9) hi (by decide)) (ym_fits hC hk hi (fun h => ?_) (fun h => ?_))
    · exact br_f (by decide) (nm_r (nI_1 i) (hn () (lt_s hI h)))
    · exact br_t rfl (h0 (fun z => h (z i hi)))
end
end
section
/-! the draft's methods, and reading -/
theorem rg_c (p : Int32) (n : Nat) (hn : n < 2 ^ 31) : (∀ j, j < n → p ≠ nI j) ∨ ∃ j, j < n ∧ p = nI j := by
  rcases pk_ix p hn with h | h | h
  · exact Or.inl (fun j hj e => nI_pos (by omega) (e ▸ h))
  · refine Or.inl (fun j hj e => ?_)
    rw [e] at h
    exact nI_ge hj hn h
  · exact Or.inr h
theorem rg_lt {p f : Int32} {A B : Prop} (n : Nat) (ha : (∀ j, j < n → p ≠ nI j) → A) (hb : ∀ j, j < n → p = nI j → B) (hf : f = nI n := by rfl) (hn : n < 2 ^ 31 := by omega) : (p < 0 → A) ∧ (¬ p < 0 → ((p < f → B) ∧ (¬ p < f → A))) := by
  subst hf
  refine br_c (fun h => ha (fun j hj e => nI_pos (by omega) (e ▸ h))) (fun h => ?_)
  obtain ⟨j, hj, rfl⟩ := nI_of h
  refine pk_lt j n (fun h => hb j h rfl) (fun h => ha (fun q hq e => ?_))
  rw [nI_eq hj (by omega)] at e
  omega
theorem rg_le {p f : Int32} {A B : Prop} (n : Nat) (ha : (∀ j, j < n + 1 → p ≠ nI j) → A) (hb : ∀ j, j < n + 1 → p = nI j → B) (hf : f = nI n := by rfl) (hn : n < 2 ^ 30 := by omega) : (p < 0 → A) ∧ (¬ p < 0 → ((p ≤ f → B) ∧ (¬ p ≤ f → A))) := by
  subst hf
  refine br_c (fun h => ha (fun j hj e => nI_pos (by omega) (e ▸ h))) (fun h => ?_)
  obtain ⟨j, hj, rfl⟩ := nI_of h
  refine pk_le j n (fun h => hb j (by omega) rfl) (fun h => ha (fun q hq e => ?_))
  rw [nI_eq hj (by omega)] at e
  omega
theorem rg_ge {p f : Int32} {A B : Prop} (n : Nat) (ha : (∀ j, j < n → p ≠ nI j) → A) (hb : ∀ j, j < n → p = nI j → B) (hf : f = nI n := by rfl) (hn : n < 2 ^ 31 := by omega) : (p < 0 → A) ∧ (¬ p < 0 → ((f ≤ p → A) ∧ (¬ f ≤ p → B))) := by
  subst hf
  refine br_c (fun h => ha (fun j hj e => nI_pos (by omega) (e ▸ h))) (fun h => ?_)
  obtain ⟨j, hj, rfl⟩ := nI_of h
  refine pk_le n j (fun h => ha (fun q hq e => ?_)) (fun h => hb j h rfl)
  rw [nI_eq hj (by omega)] at e
  omega
theorem rg_no {p : Int32} {n j : Nat} {P : Prop} (h : ∀ j, j < n → p ≠ nI j) (hj : j < n) (e : p = nI j) : P := absurd e (h j hj)
def ex_n (g : Nat → Nat) (n j : Nat) : Nat → Nat := fun s => if s = n then j else g s
theorem ex_s {g : Nat → Nat} {n j : Nat} : ex_n g n j n = j := if_pos rfl
theorem ex_o {g : Nat → Nat} {n j s : Nat} (h : s < n) : ex_n g n j s = g s := if_neg (by omega)
theorem ex_us {f : Nat → Int32} {n : Nat} {x : Int32} (hn : n < 2 ^ 31) : upd f (nI n).toNatClampNeg x n = x := by rw [nI_clamp hn]; exact pk_us
theorem ex_uo {f : Nat → Int32} {n s : Nat} {x : Int32} (hn : n < 2 ^ 31) (h : s < n) : upd f (nI n).toNatClampNeg x s = f s := by rw [nI_clamp hn]; exact pk_un (by omega)
theorem bz_b (v : Int32) : ∃ b, lw_bz v = bo_i b := by
  rcases lw_bz_01 v with h | h
  · exact ⟨false, h⟩
  · exact ⟨true, h⟩
section
variable {opY soY coY ouY kyY liY diY cmY rrY wiY : Int32} {ceY oceY bceY rsY : Nat → Int64} {maY omaY bmaY unY rqY bunY brqY rfY acY brfY bacY srY csY ccY cpY cwY okY osY ocY koY ciY kfY cbY goY geY keY : Nat → Int32} {post : Int32 → SY → Prop} {ns nc no nk : Nat}
theorem yv_source {p : Int32} (h3 : ns ≤ 3) (hb : (∀ j, j < 3 → p ≠ nI j) → post (-1) (opY, nI ns, coY, ouY, kyY, liY, diY, cmY, rrY, wiY, ceY, oceY, bceY, maY, omaY, bmaY, unY, rqY, bunY, brqY, rfY, acY, brfY, bacY, srY, csY, ccY, cpY, cwY, okY, osY, ocY, koY, ciY, kfY, cbY, goY, rsY, geY, keY)) (hf : ∀ j, j < 3 → p = nI j → ns = 3 → post (-2) (opY, nI ns, coY, ouY, kyY, liY, diY, cmY, rrY, wiY, ceY, oceY, bceY, maY, omaY, bmaY, unY, rqY, bunY, brqY, rfY, acY, brfY, bacY, srY, csY, ccY, cpY, cwY, okY, osY, ocY, koY, ciY, kfY, cbY, goY, rsY, geY, keY)) (hi : ∀ j, j < 3 → p = nI j → ns < 3 → post (nI (ns + 1) - 1) (opY, nI (ns + 1), coY, ouY, kyY, liY, diY, cmY, rrY, wiY, ceY, oceY, bceY, maY, omaY, bmaY, unY, rqY, bunY, brqY, rfY, acY, brfY, bacY, upd srY (nI ns).toNatClampNeg p, csY, ccY, cpY, cwY, okY, osY, ocY, koY, ciY, kfY, cbY, goY, rsY, geY, keY)) : wpY_source post (opY, nI ns, coY, ouY, kyY, liY, diY, cmY, rrY, wiY, ceY, oceY, bceY, maY, omaY, bmaY, unY, rqY, bunY, brqY, rfY, acY, brfY, bacY, srY, csY, ccY, cpY, cwY, okY, osY, ocY, koY, ciY, kfY, cbY, goY, rsY, geY, keY) p := by
  unfold wpY_source
  dsimp only
  refine ym_within (n := 3) (by decide) (fun h => br_t rfl (hb h)) (fun j hj e => br_f (by decide) ?_)
  refine pk_eq ns 3 (fun z => hf j hj e z) (fun z => ?_)
  exact nm_r (nI_1 ns) ⟨vp_in_nI (by omega) (by decide), nm_e (hi j hj e (by omega))⟩
theorem yv_condition {p1 p2 p3 p5 : Int32} {b : Bool} (h3 : ns ≤ 3) (hb : ((∀ j, j < ns → p1 ≠ nI j) ∨ (∀ j, j < 3 → p2 ≠ nI j) ∨ (∀ j, j < 6 → p3 ≠ nI j) ∨ (b = true ∧ ∀ w, w < 3 * ns → p5 ≠ nI w)) → post (-1) (opY, nI ns, coY, ouY, kyY, liY, diY, cmY, rrY, wiY, ceY, oceY, bceY, maY, omaY, bmaY, unY, rqY, bunY, brqY, rfY, acY, brfY, bacY, srY, csY, ccY, cpY, cwY, okY, osY, ocY, koY, ciY, kfY, cbY, goY, rsY, geY, keY))
    (hok : ∀ j1 j2 j3, j1 < ns → j2 < 3 → j3 < 6 → p1 = nI j1 → p2 = nI j2 → p3 = nI j3 → (b = true → ∃ w, p5 = nI w ∧ w < 3 * ns) → wY_condition_49 post p1 p2 p3 (bo_i b) p5 opY (nI ns) coY ouY kyY liY diY cmY rrY wiY ceY oceY bceY maY omaY bmaY unY rqY bunY brqY rfY acY brfY bacY srY csY ccY cpY cwY okY osY ocY koY ciY kfY cbY goY rsY geY keY) : wpY_condition post (opY, nI ns, coY, ouY, kyY, liY, diY, cmY, rrY, wiY, ceY, oceY, bceY, maY, omaY, bmaY, unY, rqY, bunY, brqY, rfY, acY, brfY, bacY, srY, csY, ccY, cpY, cwY, okY, osY, ocY, koY, ciY, kfY, cbY, goY, rsY, geY, keY) p1 p2 p3 (bo_i b) p5 := by
  unfold wpY_condition
  dsimp only
  refine ym_within (n := ns) (by omega) (fun h => br_t rfl (hb (Or.inl h))) (fun j1 h1 e1 => br_f (by decide) (ym_within (n := 3) (by decide) (fun h => br_t rfl (hb (Or.inr (Or.inl h)))) (fun j2 h2 e2 => br_f (by decide) (ym_within (n := 6) (by decide) (fun h => br_t rfl (hb (Or.inr (Or.inr (Or.inl h))))) (fun j3 h3 e3 => br_f (by decide) ?_)))))
  by_cases hbt : b = true
  · refine br_f (bo_n.mpr hbt) ?_
    rw [nz_3m]
    exact ym_within (n := 3 * ns) (by omega) (fun h => br_t rfl (hb (Or.inr (Or.inr (Or.inr ⟨hbt, h⟩))))) (fun w hw ew => br_f (by decide) (hok j1 j2 j3 h1 h2 h3 e1 e2 e3 (fun _ => ⟨w, ew, hw⟩)))
  · exact br_t (bo_0.mpr (by simpa using hbt)) (hok j1 j2 j3 h1 h2 h3 e1 e2 e3 (fun z => absurd z hbt))
theorem yv_output {p1 p2 p3 : Int32} (h3 : ns ≤ 3) (hb : ((∀ j, j < 7 → p1 ≠ nI j) ∨ (p1 ≠ 1 ∧ ((∀ j, j < ns → p2 ≠ nI j) ∨ ∀ j, j < 3 → p3 ≠ nI j))) → post (-1) (opY, nI ns, coY, ouY, kyY, liY, diY, cmY, rrY, wiY, ceY, oceY, bceY, maY, omaY, bmaY, unY, rqY, bunY, brqY, rfY, acY, brfY, bacY, srY, csY, ccY, cpY, cwY, okY, osY, ocY, koY, ciY, kfY, cbY, goY, rsY, geY, keY))
    (hok : (∃ j, j < 7 ∧ p1 = nI j) → (p1 ≠ 1 → (∃ j, j < ns ∧ p2 = nI j) ∧ ∃ j, j < 3 ∧ p3 = nI j) → wY_output_35 post p1 p2 p3 opY (nI ns) coY ouY kyY liY diY cmY rrY wiY ceY oceY bceY maY omaY bmaY unY rqY bunY brqY rfY acY brfY bacY srY csY ccY cpY cwY okY osY ocY koY ciY kfY cbY goY rsY geY keY) : wpY_output post (opY, nI ns, coY, ouY, kyY, liY, diY, cmY, rrY, wiY, ceY, oceY, bceY, maY, omaY, bmaY, unY, rqY, bunY, brqY, rfY, acY, brfY, bacY, srY, csY, ccY, cpY, cwY, okY, osY, ocY, koY, ciY, kfY, cbY, goY, rsY, geY, keY) p1 p2 p3 := by
  unfold wpY_output
  dsimp only
  refine ym_within (n := 7) (by decide) (fun h => br_t rfl (hb (Or.inl h))) (fun j1 h1 e1 => br_f (by decide) ?_)
  by_cases e : p1 = 1
  · exact br_t e (hok ⟨j1, h1, e1⟩ (fun z => absurd e z))
  · refine br_f e (ym_within (n := ns) (by omega) (fun h => br_t rfl (hb (Or.inr ⟨e, Or.inl h⟩))) (fun j2 h2 e2 => br_f (by decide) (ym_within (n := 3) (by decide) (fun h => br_t rfl (hb (Or.inr ⟨e, Or.inr h⟩))) (fun j3 h3 e3 => br_f (by decide) (hok ⟨j1, h1, e1⟩ (fun _ => ⟨⟨j2, h2, e2⟩, ⟨j3, h3, e3⟩⟩))))))
theorem yv_key {p : Int32} {f : Int32} (h4 : no ≤ 4) (h2 : nk ≤ 2) (hb : (∀ j, j < no → p ≠ nI j) → post (-1) (opY, soY, coY, nI no, nI nk, liY, diY, cmY, rrY, wiY, ceY, oceY, bceY, maY, omaY, bmaY, unY, rqY, bunY, brqY, rfY, acY, brfY, bacY, srY, csY, ccY, cpY, cwY, okY, osY, ocY, koY, ciY, kfY, cbY, goY, rsY, geY, keY)) (hf : ∀ j, j < no → p = nI j → nk = 2 → post (-2) (opY, soY, coY, nI no, nI nk, liY, diY, cmY, rrY, wiY, ceY, oceY, bceY, maY, omaY, bmaY, unY, rqY, bunY, brqY, rfY, acY, brfY, bacY, srY, csY, ccY, cpY, cwY, okY, osY, ocY, koY, ciY, kfY, cbY, goY, rsY, geY, keY)) (hi : ∀ j, j < no → p = nI j → nk < 2 → post (nI (nk + 1)) (opY, soY, coY, nI no, nI (nk + 1), liY, diY, cmY, rrY, wiY, ceY, oceY, bceY, maY, omaY, bmaY, unY, rqY, bunY, brqY, rfY, acY, brfY, bacY, srY, csY, ccY, cpY, cwY, okY, osY, ocY, upd koY (nI nk).toNatClampNeg p, ciY, upd kfY (nI nk).toNatClampNeg (vp_nar .boolean f), cbY, goY, rsY, geY, keY)) : wpY_key post (opY, soY, coY, nI no, nI nk, liY, diY, cmY, rrY, wiY, ceY, oceY, bceY, maY, omaY, bmaY, unY, rqY, bunY, brqY, rfY, acY, brfY, bacY, srY, csY, ccY, cpY, cwY, okY, osY, ocY, koY, ciY, kfY, cbY, goY, rsY, geY, keY) p f := by
  unfold wpY_key
  dsimp only
  refine ym_within (n := no) (by omega) (fun h => br_t rfl (hb h)) (fun j hj e => br_f (by decide) ?_)
  refine pk_eq nk 2 (fun z => hf j hj e z) (fun z => ?_)
  have hv : vp_in (nI nk) 2 := vp_in_nI (by omega) (by decide)
  refine ⟨hv, nm_e ⟨hv, nm_e (nm_r (nI_1 nk) ?_)⟩⟩
  rw [nI_1]
  exact hi j hj e (by omega)
end
section
variable {opY soY coY ouY kyY liY diY cmY rrY wiY : Int32} {ceY oceY bceY rsY : Nat → Int64} {maY omaY bmaY unY rqY bunY brqY rfY acY brfY bacY srY csY ccY cpY cwY okY osY ocY koY ciY kfY cbY goY geY keY : Nat → Int32} {post : Int64 → Prop} {nr w : Nat} {N : Nat → Nat} {D : Nat → Nat → Int64}
theorem yv_cell {p q : Int32} (h60 : nr ≤ 60) (h4 : 0 < nr → w ≤ 4 ∧ wiY = nI w) (hb : ((∀ j, j < nr → p ≠ nI j) ∨ ∀ j, j < w → q ≠ nI j) → post nu_l) (hi : ∀ i j, i < nr → j < w → p = nI i → q = nI j → post (rsY (4 * i + j))) : wpY_cell post (opY, soY, coY, ouY, kyY, liY, diY, cmY, nI nr, wiY, ceY, oceY, bceY, maY, omaY, bmaY, unY, rqY, bunY, brqY, rfY, acY, brfY, bacY, srY, csY, ccY, cpY, cwY, okY, osY, ocY, koY, ciY, kfY, cbY, goY, rsY, geY, keY) p q := by
  unfold wpY_cell
  dsimp only
  refine ym_within (n := nr) (by omega) (fun h => br_t rfl (hb (Or.inl h))) (fun i h1 e1 => br_f (by decide) ?_)
  obtain ⟨h4, rfl⟩ := h4 (by omega)
  refine ym_within (n := w) (by omega) (fun h => br_t rfl (hb (Or.inr h))) (fun j h2 e2 => br_f (by decide) ?_)
  have := hi i j h1 h2 e1 e2
  subst e1 e2
  rw [nz_4, nI_clamp (by omega)]
  exact ⟨vp_in_nI (by omega) (by decide), this⟩
theorem yv_value {p q r : Int32} (hC : db_yc N D ceY maY) (hb : ((∀ j, j < 3 → p ≠ nI j) ∨ (∀ j, j < 3 → r ≠ nI j) ∨ ∃ t, t < 3 ∧ p = nI t ∧ ∀ j, j < N t → q ≠ nI j) → post nu_l) (hi : ∀ t i c, t < 3 → c < 3 → i < N t → p = nI t → q = nI i → r = nI c → post (D (3 * t + c) i)) : wpY_value post (opY, soY, coY, ouY, kyY, liY, diY, cmY, rrY, wiY, ceY, oceY, bceY, maY, omaY, bmaY, unY, rqY, bunY, brqY, rfY, acY, brfY, bacY, srY, csY, ccY, cpY, cwY, okY, osY, ocY, koY, ciY, kfY, cbY, goY, rsY, geY, keY) p q r := by
  unfold wpY_value
  dsimp only
  refine ym_within (n := 3) (by decide) (fun h => br_t rfl (hb (Or.inl h))) (fun t h1 e1 => br_f (by decide) (ym_within (n := 3) (by decide) (fun h => br_t rfl (hb (Or.inr (Or.inl h)))) (fun c h3 e3 => br_f (by decide) ?_)))
  subst e1 e3
  obtain ⟨hm, hN⟩ := hC.1 t h1
  refine ⟨vp_in_nI h1 (by decide), ?_⟩
  rw [nI_clamp (by omega), hm]
  refine ym_within (n := N t) (by omega) (fun h => br_t rfl (hb (Or.inr (Or.inr ⟨t, h1, rfl, h⟩)))) (fun i h2 e2 => br_f (by decide) ?_)
  have := hi t i c h1 h3 h2 rfl e2 rfl
  subst e2
  rw [nz_48, nz_3m, nI_add, nI_add, nI_clamp (by omega)]
  have e := hC.2 (3 * t + c) i (by omega) (by rw [show (3 * t + c) / 3 = t by omega]; exact h2)
  rw [show (3 * t + c) / 3 = t by omega, show (3 * t + c) % 3 = c by omega] at e
  rw [e]
  exact ⟨vp_in_nI (by omega) (by decide), this⟩
end
theorem i_vc_source {k : Nat} {u : SX} {v : SY} (I : i_Rel k u v) (hk : k + 6 ≤ 3072) (v1 : Int32) : wpX_source (fun r u' => wpY_source (fun r' v' => r' = r ∧ i_Rel (k + 6) u' v') v v1) u v1 := by
  rcases u with ⟨toX, soX, coX, ouX, kyX, moX, diX, rrX, rwX, ceX, rcX, unX, rqX, taX, acX, sceX, srcX, sunX, srqX, staX, sacX, stX, cfX, cpX, chX, csX, okX, ocX, koX, kfX, cbX, mkX, fvX, ovX, rsX, rtX⟩
  rcases v with ⟨opY, soY, coY, ouY, kyY, liY, diY, cmY, rrY, wiY, ceY, oceY, bceY, maY, omaY, bmaY, unY, rqY, bunY, brqY, rfY, acY, brfY, bacY, srY, csY, ccY, cpY, cwY, okY, osY, ocY, koY, ciY, kfY, cbY, goY, rsY, geY, keY⟩
  obtain ⟨hdb, hsv, hdr, hli, hre⟩ := I
  have keep := hdr
  obtain ⟨ns, nc, no, nk, S, CS, CC, CO, CI, CW, OK, OS, OC, KO, ⟨rfl, rfl, rfl, rfl⟩, ⟨rfl, rfl, rfl, rfl⟩, hS, hc, ho, hq, hK⟩ := hdr
  have h3 := hK.1.1
  unfold wpX_source
  dsimp only
  refine xm_out v1 (fun hout => br_f (by decide) ?_) (fun j hj e => br_t rfl (pk_lt ns 3 (fun h => ?_) (fun h => ?_)))
  · exact yv_source h3 (fun _ => ⟨rfl, hdb, hsv, keep, hli, hre⟩) (fun j hj e => rg_no hout hj e) (fun j hj e => rg_no hout hj e)
  · refine ⟨vp_in_nI h (by decide), nm_e (nm_r (nI_1 ns) ?_)⟩
    refine yv_source h3 (fun z => rg_no z hj e) (fun _ _ _ z => absurd h (by omega)) (fun _ _ _ _ => ⟨rfl, hdb, hsv, ?_, hli, hre⟩)
    subst e
    refine ⟨ns + 1, nc, no, nk, ex_n S ns j, CS, CC, CO, CI, CW, OK, OS, OC, KO, ⟨rfl, rfl, rfl, rfl⟩, ⟨rfl, rfl, rfl, rfl⟩, lt_s (fun s hs => ?_) ?_, hc, ho, hq, ⟨⟨by omega, hK.1.2⟩, lt_s (fun s hs => ?_) ?_, fun k hk => ?_, fun k hk => ?_, hK.2.2.2.2⟩⟩
    · rw [ex_uo (by omega) hs, ex_uo (by omega) hs, ex_o hs]
      exact hS s hs
    · rw [ex_us (by omega), ex_us (by omega), ex_s]
      exact ⟨rfl, rfl⟩
    · rw [ex_o hs]
      exact hK.2.1 s hs
    · rw [ex_s]
      exact hj
    · obtain ⟨a, b, c, d⟩ := hK.2.2.1 k hk
      refine ⟨by omega, b, c, fun z => ?_⟩
      obtain ⟨w, e, hw⟩ := d z
      exact ⟨w, e, by omega⟩
    · obtain ⟨a, b, c⟩ := hK.2.2.2.1 k hk
      exact ⟨a, fun z => by have := b z; omega, c⟩
  · exact yv_source h3 (fun z => rg_no z hj e) (fun _ _ _ _ => ⟨rfl, hdb, hsv, keep, hli, hre⟩) (fun _ _ _ z => absurd h (by omega))
theorem i_vc_condition {k : Nat} {u : SX} {v : SY} (I : i_Rel k u v) (hk : k + 6 ≤ 3072) (v1 : Int32) (v2 : Int32) (v3 : Int32) (v4 : Int32) (v5 : Int32) : wpX_condition (fun r u' => wpY_condition (fun r' v' => r' = r ∧ i_Rel (k + 6) u' v') v v1 v2 v3 (lw_bz v4) v5) u v1 v2 v3 (lw_bz v4) v5 := by
  rcases u with ⟨toX, soX, coX, ouX, kyX, moX, diX, rrX, rwX, ceX, rcX, unX, rqX, taX, acX, sceX, srcX, sunX, srqX, staX, sacX, stX, cfX, cpX, chX, csX, okX, ocX, koX, kfX, cbX, mkX, fvX, ovX, rsX, rtX⟩
  rcases v with ⟨opY, soY, coY, ouY, kyY, liY, diY, cmY, rrY, wiY, ceY, oceY, bceY, maY, omaY, bmaY, unY, rqY, bunY, brqY, rfY, acY, brfY, bacY, srY, csY, ccY, cpY, cwY, okY, osY, ocY, koY, ciY, kfY, cbY, goY, rsY, geY, keY⟩
  obtain ⟨hdb, hsv, hdr, hli, hre⟩ := I
  have keep := hdr
  obtain ⟨ns, nc, no, nk, S, CS, CC, CO, CI, CW, OK, OS, OC, KO, ⟨rfl, rfl, rfl, rfl⟩, ⟨rfl, rfl, rfl, rfl⟩, hS, hc, ho, hq, hK⟩ := hdr
  have h3 := hK.1.1
  have h6 := hK.1.2.1
  obtain ⟨b, eb⟩ := bz_b v4
  rw [eb]
  have bad : ((∀ j, j < ns → v1 ≠ nI j) ∨ (∀ j, j < 3 → v2 ≠ nI j) ∨ (∀ j, j < 6 → v3 ≠ nI j) ∨ (b = true ∧ ∀ w, w < 3 * ns → v5 ≠ nI w)) → wpY_condition (fun r' v' => r' = -1 ∧ i_Rel (k + 6) (toX, nI ns, nI nc, nI no, nI nk, moX, diX, rrX, rwX, ceX, rcX, unX, rqX, taX, acX, sceX, srcX, sunX, srqX, staX, sacX, stX, cfX, cpX, chX, csX, okX, ocX, koX, kfX, cbX, mkX, fvX, ovX, rsX, rtX) v') (opY, nI ns, nI nc, nI no, nI nk, liY, diY, cmY, rrY, wiY, ceY, oceY, bceY, maY, omaY, bmaY, unY, rqY, bunY, brqY, rfY, acY, brfY, bacY, srY, csY, ccY, cpY, cwY, okY, osY, ocY, koY, ciY, kfY, cbY, goY, rsY, geY, keY) v1 v2 v3 (bo_i b) v5 := by
    intro hb
    refine yv_condition h3 (fun _ => ⟨rfl, hdb, hsv, keep, hli, hre⟩) (fun j1 j2 j3 h1 h2 h3 e1 e2 e3 hw => ?_)
    rcases hb with z | z | z | ⟨z1, z2⟩
    · exact rg_no z h1 e1
    · exact rg_no z h2 e2
    · exact rg_no z h3 e3
    · obtain ⟨w, e, hw⟩ := hw z1
      exact rg_no z2 hw e
  unfold wpX_condition wpX_isNoSource
  dsimp only
  refine rg_lt ns (fun hout => br_f (by decide) (bad (Or.inl hout))) (fun j1 hj1 e1 => br_t rfl (xm_out v2 (fun hout => br_f (by decide) (bad (Or.inr (Or.inl hout)))) (fun j2 hj2 e2 => br_t rfl (rg_le 5 (fun hout => bad (Or.inr (Or.inr (Or.inl hout)))) (fun j3 hj3 e3 => ?_)))))
  have fin : (b = true → ∃ w, v5 = nI w ∧ w < 3 * ns) → wX_condition_49 (fun r u' => wpY_condition (fun r' v' => r' = r ∧ i_Rel (k + 6) u' v') (opY, nI ns, nI nc, nI no, nI nk, liY, diY, cmY, rrY, wiY, ceY, oceY, bceY, maY, omaY, bmaY, unY, rqY, bunY, brqY, rfY, acY, brfY, bacY, srY, csY, ccY, cpY, cwY, okY, osY, ocY, koY, ciY, kfY, cbY, goY, rsY, geY, keY) v1 v2 v3 (bo_i b) v5) v1 v2 v3 (bo_i b) v5 toX (nI ns) (nI nc) (nI no) (nI nk) moX diX rrX rwX ceX rcX unX rqX taX acX sceX srcX sunX srqX staX sacX stX cfX cpX chX csX okX ocX koX kfX cbX mkX fvX ovX rsX rtX := by
    intro hw
    have nob : ∀ {P : Prop}, ((∀ j, j < ns → v1 ≠ nI j) ∨ (∀ j, j < 3 → v2 ≠ nI j) ∨ (∀ j, j < 6 → v3 ≠ nI j) ∨ (b = true ∧ ∀ w, w < 3 * ns → v5 ≠ nI w)) → P := by
      intro P z
      rcases z with z | z | z | ⟨z1, z2⟩
      · exact rg_no z hj1 e1
      · exact rg_no z hj2 e2
      · exact rg_no z hj3 e3
      · obtain ⟨w, e, hw⟩ := hw z1
        exact rg_no z2 hw e
    refine pk_lt nc 6 (fun h => ?_) (fun h => ?_)
    · have h6 : vp_in (nI nc) 6 := vp_in_nI h (by decide)
      refine ⟨h6, nm_e ⟨h6, nm_e ⟨h6, nm_e ⟨h6, nm_e (nm_r (nI_1 nc) ?_)⟩⟩⟩⟩
      refine yv_condition h3 nob (fun _ _ _ _ _ _ _ _ _ _ => pk_eq nc 6 (fun z => absurd z (by omega)) (fun _ => ?_))
      refine ⟨h6, nm_e ⟨h6, nm_e ⟨h6, nm_e ⟨h6, nm_e ⟨h6, nm_e (nm_r (nI_1 nc) ⟨nI_1 nc, hdb, hsv, ?_, hli, hre⟩)⟩⟩⟩⟩⟩
      subst e1 e2 e3
      refine ⟨ns, nc + 1, no, nk, S, ex_n CS nc j1, ex_n CC nc j2, ex_n CO nc j3, (fun s => if s = nc then b else CI s), (fun s => if s = nc then v5 else CW s), OK, OS, OC, KO, ⟨rfl, rfl, rfl, rfl⟩, ⟨rfl, rfl, rfl, rfl⟩, hS, lt_s (fun s hs => ?_) ?_, ho, hq, ⟨⟨hK.1.1, by omega, hK.1.2.2⟩, hK.2.1, lt_s (fun s hs => ?_) ?_, hK.2.2.2⟩⟩
      · have hne : s ≠ nc := by omega
        simp only [ex_uo (show nc < 2 ^ 31 by omega) hs, ex_o hs, if_neg hne]
        exact hc s hs
      · simp only [ex_us (show nc < 2 ^ 31 by omega), ex_s, if_true, bo_nar, nz_3]
        exact ⟨⟨trivial, trivial, trivial, trivial⟩, trivial, trivial, trivial, trivial, trivial⟩
      · have hne : s ≠ nc := by omega
        simp only [ex_o hs, if_neg hne]
        exact hK.2.2.1 s hs
      · simp only [ex_s, if_true]
        exact ⟨hj1, hj2, hj3, hw⟩
    · exact yv_condition h3 nob (fun _ _ _ _ _ _ _ _ _ _ => pk_eq nc 6 (fun _ => ⟨rfl, hdb, hsv, keep, hli, hre⟩) (fun z => absurd h6 (by omega)))
  by_cases hb : b = true
  · refine br_f (bo_n.mpr hb) ?_
    rw [nz_3m]
    exact rg_lt (3 * ns) (fun hout => bad (Or.inr (Or.inr (Or.inr ⟨hb, hout⟩)))) (fun w hw ew => fin (fun _ => ⟨w, ew, hw⟩))
  · exact br_t (bo_0.mpr (by simpa using hb)) (fin (fun z => absurd z hb))
theorem i_vc_output {k : Nat} {u : SX} {v : SY} (I : i_Rel k u v) (hk : k + 6 ≤ 3072) (v1 : Int32) (v2 : Int32) (v3 : Int32) : wpX_output (fun r u' => wpY_output (fun r' v' => r' = r ∧ i_Rel (k + 6) u' v') v v1 v2 v3) u v1 v2 v3 := by
  rcases u with ⟨toX, soX, coX, ouX, kyX, moX, diX, rrX, rwX, ceX, rcX, unX, rqX, taX, acX, sceX, srcX, sunX, srqX, staX, sacX, stX, cfX, cpX, chX, csX, okX, ocX, koX, kfX, cbX, mkX, fvX, ovX, rsX, rtX⟩
  rcases v with ⟨opY, soY, coY, ouY, kyY, liY, diY, cmY, rrY, wiY, ceY, oceY, bceY, maY, omaY, bmaY, unY, rqY, bunY, brqY, rfY, acY, brfY, bacY, srY, csY, ccY, cpY, cwY, okY, osY, ocY, koY, ciY, kfY, cbY, goY, rsY, geY, keY⟩
  obtain ⟨hdb, hsv, hdr, hli, hre⟩ := I
  have keep := hdr
  obtain ⟨ns, nc, no, nk, S, CS, CC, CO, CI, CW, OK, OS, OC, KO, ⟨rfl, rfl, rfl, rfl⟩, ⟨rfl, rfl, rfl, rfl⟩, hS, hc, ho, hq, hK⟩ := hdr
  have h3 := hK.1.1
  have h4 := hK.1.2.2.1
  have bad : ((∀ j, j < 7 → v1 ≠ nI j) ∨ (v1 ≠ 1 ∧ ((∀ j, j < ns → v2 ≠ nI j) ∨ ∀ j, j < 3 → v3 ≠ nI j))) → wpY_output (fun r' v' => r' = -1 ∧ i_Rel (k + 6) (toX, nI ns, nI nc, nI no, nI nk, moX, diX, rrX, rwX, ceX, rcX, unX, rqX, taX, acX, sceX, srcX, sunX, srqX, staX, sacX, stX, cfX, cpX, chX, csX, okX, ocX, koX, kfX, cbX, mkX, fvX, ovX, rsX, rtX) v') (opY, nI ns, nI nc, nI no, nI nk, liY, diY, cmY, rrY, wiY, ceY, oceY, bceY, maY, omaY, bmaY, unY, rqY, bunY, brqY, rfY, acY, brfY, bacY, srY, csY, ccY, cpY, cwY, okY, osY, ocY, koY, ciY, kfY, cbY, goY, rsY, geY, keY) v1 v2 v3 := by
    intro hb
    refine yv_output h3 (fun _ => ⟨rfl, hdb, hsv, keep, hli, hre⟩) (fun ⟨j, hj, e⟩ hw => ?_)
    rcases hb with z | ⟨z, z2⟩
    · exact rg_no z hj e
    · obtain ⟨⟨j2, hj2, e2⟩, ⟨j3, hj3, e3⟩⟩ := hw z
      rcases z2 with z | z
      · exact rg_no z hj2 e2
      · exact rg_no z hj3 e3
  have nxt : ∀ j1 a b, no < 4 → j1 < 7 → a < 3 → (j1 ≠ 1 → a < ns) → (j1 = 1 → a = 0 ∧ b = 0) → b < 3 → rl_dr (nI ns) (nI nc) (nI (no + 1)) (nI nk) stX cfX cpX chX csX (upd okX (nI no).toNatClampNeg (nI j1)) (upd ocX (nI no).toNatClampNeg (nI (3 * a + b))) koX kfX (nI ns) (nI nc) (nI (no + 1)) (nI nk) srY csY ccY cpY cwY (upd okY (nI no).toNatClampNeg (nI j1)) (upd osY (nI no).toNatClampNeg (nI a)) (upd ocY (nI no).toNatClampNeg (nI b)) koY ciY kfY := by
    intro j1 a b h hj1 ha hn1 h1 hb
    refine ⟨ns, nc, no + 1, nk, S, CS, CC, CO, CI, CW, ex_n OK no j1, ex_n OS no a, ex_n OC no b, KO, ⟨rfl, rfl, rfl, rfl⟩, ⟨rfl, rfl, rfl, rfl⟩, hS, hc, lt_s (fun s hs => ?_) ?_, hq, ⟨⟨hK.1.1, hK.1.2.1, by omega, hK.1.2.2.2⟩, hK.2.1, hK.2.2.1, lt_s (fun s hs => ?_) ?_, fun k hk => ?_⟩⟩
    · simp only [ex_uo (show no < 2 ^ 31 by omega) hs, ex_o hs]
      exact ho s hs
    · simp only [ex_us (show no < 2 ^ 31 by omega), ex_s]
      exact ⟨⟨trivial, trivial⟩, trivial, trivial, trivial⟩
    · simp only [ex_o hs]
      exact hK.2.2.2.1 s hs
    · simp only [ex_s]
      exact ⟨hj1, hn1, h1, hb⟩
    · have := hK.2.2.2.2 k hk
      omega
  unfold wpX_output wpX_isNoSource
  dsimp only
  refine rg_le 6 (fun hout => bad (Or.inl hout)) (fun j1 hj1 e1 => ?_)
  by_cases o1 : v1 = 1
  · have nob : ∀ {P : Prop}, ((∀ j, j < 7 → v1 ≠ nI j) ∨ (v1 ≠ 1 ∧ ((∀ j, j < ns → v2 ≠ nI j) ∨ ∀ j, j < 3 → v3 ≠ nI j))) → P := by
      intro P z
      rcases z with z | z
      · exact rg_no z hj1 e1
      · exact absurd o1 z.1
    refine br_t o1 (pk_lt no 4 (fun h => ?_) (fun h => ?_))
    · have hi : vp_in (nI no) 4 := vp_in_nI h (by decide)
      refine ⟨hi, nm_e (br_t o1 ⟨hi, nm_e (nm_r (nI_1 no) ?_)⟩)⟩
      refine yv_output h3 nob (fun _ _ => pk_eq no 4 (fun z => absurd z (by omega)) (fun _ => ?_))
      refine ⟨hi, nm_e (br_t o1 ⟨hi, nm_e (br_t o1 ⟨hi, nm_e (nm_r (nI_1 no) ⟨(nI_pred no).symm, hdb, hsv, ?_, hli, hre⟩)⟩)⟩)⟩
      subst o1
      exact nxt 1 0 0 h (by decide) (by decide) (fun z => absurd rfl z) (fun _ => ⟨rfl, rfl⟩) (by decide)
    · exact yv_output h3 nob (fun _ _ => pk_eq no 4 (fun _ => ⟨rfl, hdb, hsv, keep, hli, hre⟩) (fun z => absurd h4 (by omega)))
  · refine br_f o1 (rg_lt ns (fun hout => br_f (by decide) (bad (Or.inr ⟨o1, Or.inl hout⟩))) (fun j2 hj2 e2 => br_t rfl (xm_out v3 (fun hout => br_f (by decide) (bad (Or.inr ⟨o1, Or.inr hout⟩))) (fun j3 hj3 e3 => br_t rfl ?_))))
    have nob : ∀ {P : Prop}, ((∀ j, j < 7 → v1 ≠ nI j) ∨ (v1 ≠ 1 ∧ ((∀ j, j < ns → v2 ≠ nI j) ∨ ∀ j, j < 3 → v3 ≠ nI j))) → P := by
      intro P z
      rcases z with z | ⟨_, z | z⟩
      · exact rg_no z hj1 e1
      · exact rg_no z hj2 e2
      · exact rg_no z hj3 e3
    refine pk_lt no 4 (fun h => ?_) (fun h => ?_)
    · have hi : vp_in (nI no) 4 := vp_in_nI h (by decide)
      refine ⟨hi, nm_e (br_f o1 ⟨hi, nm_e (nm_r (nI_1 no) ?_)⟩)⟩
      refine yv_output h3 nob (fun _ _ => pk_eq no 4 (fun z => absurd z (by omega)) (fun _ => ?_))
      refine ⟨hi, nm_e (br_f o1 ⟨hi, nm_e (br_f o1 ⟨hi, nm_e (nm_r (nI_1 no) ⟨(nI_pred no).symm, hdb, hsv, ?_, hli, hre⟩)⟩)⟩)⟩
      subst e1 e2 e3
      rw [nz_3]
      exact nxt j1 j2 j3 h hj1 (by omega) (fun _ => hj2) (fun z => absurd (by rw [z]; rfl) o1) hj3
    · exact yv_output h3 nob (fun _ _ => pk_eq no 4 (fun _ => ⟨rfl, hdb, hsv, keep, hli, hre⟩) (fun z => absurd h4 (by omega)))
theorem i_vc_key {k : Nat} {u : SX} {v : SY} (I : i_Rel k u v) (hk : k + 6 ≤ 3072) (v1 : Int32) (v2 : Int32) : wpX_key (fun r u' => wpY_key (fun r' v' => r' = r ∧ i_Rel (k + 6) u' v') v v1 (lw_bz v2)) u v1 (lw_bz v2) := by
  rcases u with ⟨toX, soX, coX, ouX, kyX, moX, diX, rrX, rwX, ceX, rcX, unX, rqX, taX, acX, sceX, srcX, sunX, srqX, staX, sacX, stX, cfX, cpX, chX, csX, okX, ocX, koX, kfX, cbX, mkX, fvX, ovX, rsX, rtX⟩
  rcases v with ⟨opY, soY, coY, ouY, kyY, liY, diY, cmY, rrY, wiY, ceY, oceY, bceY, maY, omaY, bmaY, unY, rqY, bunY, brqY, rfY, acY, brfY, bacY, srY, csY, ccY, cpY, cwY, okY, osY, ocY, koY, ciY, kfY, cbY, goY, rsY, geY, keY⟩
  obtain ⟨hdb, hsv, hdr, hli, hre⟩ := I
  have keep := hdr
  obtain ⟨ns, nc, no, nk, S, CS, CC, CO, CI, CW, OK, OS, OC, KO, ⟨rfl, rfl, rfl, rfl⟩, ⟨rfl, rfl, rfl, rfl⟩, hS, hc, ho, hq, hK⟩ := hdr
  have h4 := hK.1.2.2.1
  have h2 := hK.1.2.2.2
  refine rg_lt no (fun hout => ?_) (fun j hj e => pk_lt nk 2 (fun h => ?_) (fun h => ?_))
  · exact yv_key h4 h2 (fun _ => ⟨rfl, hdb, hsv, keep, hli, hre⟩) (fun j hj e => rg_no hout hj e) (fun j hj e => rg_no hout hj e)
  · have hi : vp_in (nI nk) 2 := vp_in_nI h (by decide)
    refine ⟨hi, nm_e ⟨hi, nm_e (nm_r (nI_1 nk) ?_)⟩⟩
    refine yv_key h4 h2 (fun z => rg_no z hj e) (fun _ _ _ z => absurd h (by omega)) (fun _ _ _ _ => ⟨rfl, hdb, hsv, ?_, hli, hre⟩)
    subst e
    refine ⟨ns, nc, no, nk + 1, S, CS, CC, CO, CI, CW, OK, OS, OC, ex_n KO nk j, ⟨rfl, rfl, rfl, rfl⟩, ⟨rfl, rfl, rfl, rfl⟩, hS, hc, ho, lt_s (fun s hs => ?_) ?_, ⟨⟨hK.1.1, hK.1.2.1, hK.1.2.2.1, by omega⟩, hK.2.1, hK.2.2.1, hK.2.2.2.1, lt_s (fun s hs => ?_) ?_⟩⟩
    · simp only [ex_uo (show nk < 2 ^ 31 by omega) hs, ex_o hs]
      exact hq s hs
    · simp only [ex_us (show nk < 2 ^ 31 by omega), ex_s]
      exact ⟨trivial, trivial, trivial⟩
    · simp only [ex_o hs]
      exact hK.2.2.2.2 s hs
    · simp only [ex_s]
      exact hj
  · exact yv_key h4 h2 (fun z => rg_no z hj e) (fun _ _ _ _ => ⟨rfl, hdb, hsv, keep, hli, hre⟩) (fun _ _ _ z => absurd h (by omega))
theorem bz_f (v : Int32) : fits .boolean (.int (lw_bz v)) = true := by
  rcases lw_bz_01 v with h | h <;> rw [h] <;> rfl
theorem i_vc_limit {k : Nat} {u : SX} {v : SY} (I : i_Rel k u v) (hk : k + 6 ≤ 3072) (v1 : Int32) (v2 : Int32) : wpX_limit (fun r u' => wpY_limit (fun r' v' => r' = r ∧ i_Rel (k + 6) u' v') v v1 (lw_bz v2)) u v1 (lw_bz v2) := by
  rcases u with ⟨toX, soX, coX, ouX, kyX, moX, diX, rrX, rwX, ceX, rcX, unX, rqX, taX, acX, sceX, srcX, sunX, srqX, staX, sacX, stX, cfX, cpX, chX, csX, okX, ocX, koX, kfX, cbX, mkX, fvX, ovX, rsX, rtX⟩
  rcases v with ⟨opY, soY, coY, ouY, kyY, liY, diY, cmY, rrY, wiY, ceY, oceY, bceY, maY, omaY, bmaY, unY, rqY, bunY, brqY, rfY, acY, brfY, bacY, srY, csY, ccY, cpY, cwY, okY, osY, ocY, koY, ciY, kfY, cbY, goY, rsY, geY, keY⟩
  obtain ⟨hdb, hsv, hdr, hli, hre⟩ := I
  refine rg_le 60 (fun hout => ?_) (fun j hj e => ?_)
  · exact rg_le 60 (fun _ => ⟨rfl, hdb, hsv, hdr, hli, hre⟩) (fun j hj e => rg_no hout hj e)
  · subst e
    refine ⟨lw_bz_n v2, bz_f v2, rg_le 60 (fun z => rg_no z hj rfl) (fun _ _ _ => ⟨lw_bz_n v2, bz_f v2, rfl, hdb, hsv, hdr, ?_, hre⟩)⟩
    exact ⟨rfl, rfl, ⟨j, by omega, rfl⟩, bz_b v2⟩
theorem i_vc_wipe {k : Nat} {u : SX} {v : SY} (I : i_Rel k u v) (hk : k + 6 ≤ 3072) : wpX_wipe (fun r u' => wpY_wipe (fun r' v' => r' = r ∧ i_Rel (k + 6) u' v') v) u := by
  rcases u with ⟨toX, soX, coX, ouX, kyX, moX, diX, rrX, rwX, ceX, rcX, unX, rqX, taX, acX, sceX, srcX, sunX, srqX, staX, sacX, stX, cfX, cpX, chX, csX, okX, ocX, koX, kfX, cbX, mkX, fvX, ovX, rsX, rtX⟩
  rcases v with ⟨opY, soY, coY, ouY, kyY, liY, diY, cmY, rrY, wiY, ceY, oceY, bceY, maY, omaY, bmaY, unY, rqY, bunY, brqY, rfY, acY, brfY, bacY, srY, csY, ccY, cpY, cwY, okY, osY, ocY, koY, ciY, kfY, cbY, goY, rsY, geY, keY⟩
  obtain ⟨hdb, hsv, hdr, hli, hre⟩ := I
  obtain ⟨ns, nc, no, nk, S, CS, CC, CO, CI, CW, OK, OS, OC, KO, ⟨rfl, rfl, rfl, rfl⟩, ⟨rfl, rfl, rfl, rfl⟩, hS, hc, ho, hq, hK⟩ := hdr
  refine ⟨rfl, hdb, hsv, ?_, ⟨rfl, rfl, ⟨60, by decide, rfl⟩, false, rfl⟩, hre⟩
  exact ⟨0, 0, 0, 0, S, CS, CC, CO, CI, CW, OK, OS, OC, KO, ⟨rfl, rfl, rfl, rfl⟩, ⟨rfl, rfl, rfl, rfl⟩, lt_0, lt_0, lt_0, lt_0, ⟨by decide, by decide, by decide, by decide⟩, lt_0, lt_0, lt_0, lt_0⟩
theorem i_vc_cell {k : Nat} {u : SX} {v : SY} (I : i_Rel k u v) (hk : k + 6 ≤ 3072) (v1 : Int32) (v2 : Int32) : wpX_cell (fun r => wpY_cell (fun r' => r' = r ∧ i_Rel (k + 6) u v) v v1 v2) u v1 v2 := by
  have I2 : i_Rel (k + 6) u v := I
  rcases u with ⟨toX, soX, coX, ouX, kyX, moX, diX, rrX, rwX, ceX, rcX, unX, rqX, taX, acX, sceX, srcX, sunX, srqX, staX, sacX, stX, cfX, cpX, chX, csX, okX, ocX, koX, kfX, cbX, mkX, fvX, ovX, rsX, rtX⟩
  rcases v with ⟨opY, soY, coY, ouY, kyY, liY, diY, cmY, rrY, wiY, ceY, oceY, bceY, maY, omaY, bmaY, unY, rqY, bunY, brqY, rfY, acY, brfY, bacY, srY, csY, ccY, cpY, cwY, okY, osY, ocY, koY, ciY, kfY, cbY, goY, rsY, geY, keY⟩
  obtain ⟨hdb, hsv, hdr, hli, hre⟩ := I
  obtain ⟨nr, hnr, rfl, rfl, hw⟩ := hre
  rcases hw with hw | ⟨w, hw4, rfl, rfl, hw⟩
  · subst hw
    have bad : wpY_cell (fun r' => r' = nu_l ∧ i_Rel (k + 6) (toX, soX, coX, ouX, kyX, moX, diX, nI 0, rwX, ceX, rcX, unX, rqX, taX, acX, sceX, srcX, sunX, srqX, staX, sacX, stX, cfX, cpX, chX, csX, okX, ocX, koX, kfX, cbX, mkX, fvX, ovX, rsX, rtX) (opY, soY, coY, ouY, kyY, liY, diY, cmY, nI 0, wiY, ceY, oceY, bceY, maY, omaY, bmaY, unY, rqY, bunY, brqY, rfY, acY, brfY, bacY, srY, csY, ccY, cpY, cwY, okY, osY, ocY, koY, ciY, kfY, cbY, goY, rsY, geY, keY)) (opY, soY, coY, ouY, kyY, liY, diY, cmY, nI 0, wiY, ceY, oceY, bceY, maY, omaY, bmaY, unY, rqY, bunY, brqY, rfY, acY, brfY, bacY, srY, csY, ccY, cpY, cwY, okY, osY, ocY, koY, ciY, kfY, cbY, goY, rsY, geY, keY) v1 v2 := yv_cell (w := 0) (by decide) (fun z => absurd z (by decide)) (fun _ => ⟨rfl, I2⟩) (fun i j hi => absurd hi (by omega))
    exact rg_ge 0 (fun _ => bad) (fun j hj => absurd hj (by omega))
  · have bad : ((∀ j, j < nr → v1 ≠ nI j) ∨ ∀ j, j < w → v2 ≠ nI j) → wpY_cell (fun r' => r' = nu_l ∧ i_Rel (k + 6) (toX, soX, coX, ouX, kyX, moX, diX, nI nr, nI w, ceX, rcX, unX, rqX, taX, acX, sceX, srcX, sunX, srqX, staX, sacX, stX, cfX, cpX, chX, csX, okX, ocX, koX, kfX, cbX, mkX, fvX, ovX, rsX, rtX) (opY, soY, coY, ouY, kyY, liY, diY, cmY, nI nr, nI w, ceY, oceY, bceY, maY, omaY, bmaY, unY, rqY, bunY, brqY, rfY, acY, brfY, bacY, srY, csY, ccY, cpY, cwY, okY, osY, ocY, koY, ciY, kfY, cbY, goY, rsY, geY, keY)) (opY, soY, coY, ouY, kyY, liY, diY, cmY, nI nr, nI w, ceY, oceY, bceY, maY, omaY, bmaY, unY, rqY, bunY, brqY, rfY, acY, brfY, bacY, srY, csY, ccY, cpY, cwY, okY, osY, ocY, koY, ciY, kfY, cbY, goY, rsY, geY, keY) v1 v2 := by
      intro hb
      refine yv_cell (w := w) hnr (fun _ => ⟨hw4, rfl⟩) (fun _ => ⟨rfl, I2⟩) (fun i j hi hj e1 e2 => ?_)
      rcases hb with z | z
      · exact rg_no z hi e1
      · exact rg_no z hj e2
    refine rg_ge nr (fun hout => bad (Or.inl hout)) (fun i hi e => rg_lt w (fun hout => bad (Or.inr hout)) (fun q hq e2 => ?_))
    subst e e2
    rw [nz_4, nI_clamp (by omega)]
    refine ⟨vp_in_nI (by omega) (by decide), yv_cell (w := w) hnr (fun _ => ⟨hw4, rfl⟩) (fun z => ?_) (fun i' q' hi' hq' e1 e2 => ?_)⟩
    · rcases z with z | z
      · exact rg_no z hi rfl
      · exact rg_no z hq rfl
    · rw [nI_eq (by omega) (by omega)] at e1 e2
      subst e1 e2
      exact ⟨(hw i q hi hq).symm, I2⟩
theorem i_vc_rows {k : Nat} {u : SX} {v : SY} (I : i_Rel k u v) (hk : k + 6 ≤ 3072) (v1 : Int32) : wpX_rows (fun r => wpY_rows (fun r' => r' = r ∧ i_Rel (k + 6) u v) v v1) u v1 := by
  have I2 : i_Rel (k + 6) u v := I
  rcases u with ⟨toX, soX, coX, ouX, kyX, moX, diX, rrX, rwX, ceX, rcX, unX, rqX, taX, acX, sceX, srcX, sunX, srqX, staX, sacX, stX, cfX, cpX, chX, csX, okX, ocX, koX, kfX, cbX, mkX, fvX, ovX, rsX, rtX⟩
  rcases v with ⟨opY, soY, coY, ouY, kyY, liY, diY, cmY, rrY, wiY, ceY, oceY, bceY, maY, omaY, bmaY, unY, rqY, bunY, brqY, rfY, acY, brfY, bacY, srY, csY, ccY, cpY, cwY, okY, osY, ocY, koY, ciY, kfY, cbY, goY, rsY, geY, keY⟩
  obtain ⟨⟨N, D, U, R, T, A, hx, _, hy, _, _⟩, hsv, hdr, hli, hre⟩ := I
  unfold wpX_rows wpY_rows
  dsimp only
  refine xm_out v1 (fun hout => ?_) (fun j hj e => ?_)
  · exact br_f (by decide) (ym_within (n := 3) (by decide) (fun _ => br_t rfl ⟨rfl, I2⟩) (fun j hj e => rg_no hout hj e))
  · subst e
    refine br_t rfl ⟨vp_in_nI hj (by decide), ym_within (n := 3) (by decide) (fun z => rg_no z hj rfl) (fun _ _ _ => br_f (by decide) ⟨vp_in_nI hj (by decide), ?_, I2⟩)⟩
    rw [nI_clamp (by omega), (hx.1 j hj).1, (hy.1 j hj).1]
theorem i_vc_value {k : Nat} {u : SX} {v : SY} (I : i_Rel k u v) (hk : k + 6 ≤ 3072) (v1 : Int32) (v2 : Int32) (v3 : Int32) : wpX_value (fun r => wpY_value (fun r' => r' = r ∧ i_Rel (k + 6) u v) v v1 v2 v3) u v1 v2 v3 := by
  have I2 : i_Rel (k + 6) u v := I
  rcases u with ⟨toX, soX, coX, ouX, kyX, moX, diX, rrX, rwX, ceX, rcX, unX, rqX, taX, acX, sceX, srcX, sunX, srqX, staX, sacX, stX, cfX, cpX, chX, csX, okX, ocX, koX, kfX, cbX, mkX, fvX, ovX, rsX, rtX⟩
  rcases v with ⟨opY, soY, coY, ouY, kyY, liY, diY, cmY, rrY, wiY, ceY, oceY, bceY, maY, omaY, bmaY, unY, rqY, bunY, brqY, rfY, acY, brfY, bacY, srY, csY, ccY, cpY, cwY, okY, osY, ocY, koY, ciY, kfY, cbY, goY, rsY, geY, keY⟩
  obtain ⟨⟨N, D, U, R, T, A, hx, _, hy, _, _⟩, hsv, hdr, hli, hre⟩ := I
  have bad : ((∀ j, j < 3 → v1 ≠ nI j) ∨ (∀ j, j < 3 → v3 ≠ nI j) ∨ ∃ t, t < 3 ∧ v1 = nI t ∧ ∀ j, j < N t → v2 ≠ nI j) → wpY_value (fun r' => r' = nu_l ∧ i_Rel (k + 6) (toX, soX, coX, ouX, kyX, moX, diX, rrX, rwX, ceX, rcX, unX, rqX, taX, acX, sceX, srcX, sunX, srqX, staX, sacX, stX, cfX, cpX, chX, csX, okX, ocX, koX, kfX, cbX, mkX, fvX, ovX, rsX, rtX) (opY, soY, coY, ouY, kyY, liY, diY, cmY, rrY, wiY, ceY, oceY, bceY, maY, omaY, bmaY, unY, rqY, bunY, brqY, rfY, acY, brfY, bacY, srY, csY, ccY, cpY, cwY, okY, osY, ocY, koY, ciY, kfY, cbY, goY, rsY, geY, keY)) (opY, soY, coY, ouY, kyY, liY, diY, cmY, rrY, wiY, ceY, oceY, bceY, maY, omaY, bmaY, unY, rqY, bunY, brqY, rfY, acY, brfY, bacY, srY, csY, ccY, cpY, cwY, okY, osY, ocY, koY, ciY, kfY, cbY, goY, rsY, geY, keY) v1 v2 v3 := by
    intro hb
    refine yv_value hy (fun _ => ⟨rfl, I2⟩) (fun t i c ht hc hi e1 e2 e3 => ?_)
    rcases hb with z | z | ⟨t', ht', e, z⟩
    · exact rg_no z ht e1
    · exact rg_no z hc e3
    · rw [e, nI_eq (by omega) (by omega)] at e1
      subst e1
      exact rg_no z hi e2
  unfold wpX_value
  dsimp only
  refine xm_out v1 (fun hout => br_f (by decide) (bad (Or.inl hout))) (fun j1 hj1 e1 => br_t rfl (xm_out v3 (fun hout => br_f (by decide) (bad (Or.inr (Or.inl hout)))) (fun j3 hj3 e3 => br_t rfl ?_)))
  obtain ⟨hn, hN⟩ := hx.1 j1 hj1
  refine br_c (fun h => bad (Or.inr (Or.inr ⟨j1, hj1, e1, fun j hj e => ?_⟩))) (fun h => ?_)
  · rw [e] at h
    exact nI_pos (by omega) h
  · obtain ⟨j2, hj2, e2⟩ := nI_of h
    subst e1 e2 e3
    refine ⟨vp_in_nI hj1 (by decide), ?_⟩
    rw [nI_clamp (by omega), hn]
    refine pk_lt j2 (N j1) (fun hl => ?_) (fun hl => bad (Or.inr (Or.inr ⟨j1, hj1, rfl, fun j hj e => ?_⟩)))
    · rw [nz_3, nz_16, nI_clamp (by omega), hx.2 (3 * j1 + j3) j2 (by omega) (by rw [show (3 * j1 + j3) / 3 = j1 by omega]; exact hl)]
      refine ⟨vp_in_nI (by omega) (by decide), yv_value hy (fun z => ?_) (fun t i c ht hc hi e1 e2 e3 => ?_)⟩
      · rcases z with z | z | ⟨t', ht', e, z⟩
        · exact rg_no z hj1 rfl
        · exact rg_no z hj3 rfl
        · rw [nI_eq (by omega) (by omega)] at e
          subst e
          exact rg_no z hl rfl
      · rw [nI_eq (by omega) (by omega)] at e1 e3
        subst e1 e3
        have := (hy.1 j1 ht).2
        rw [nI_eq (by omega) (by omega)] at e2
        subst e2
        exact ⟨rfl, I2⟩
    · rw [nI_eq hj2 (by omega)] at e
      omega
end
section
section
variable {toX soX coX ouX kyX moX diX rrX rwX : Int32} {ceX sceX fvX ovX rsX : Nat → Int64} {rcX unX rqX taX acX srcX sunX srqX staX sacX stX cfX cpX chX csX okX ocX koX kfX cbX mkX rtX : Nat → Int32} {opY soY coY ouY kyY liY diY cmY rrY wiY : Int32} {ceY oceY bceY rsY : Nat → Int64} {maY omaY bmaY unY rqY bunY brqY rfY acY brfY bacY srY csY ccY cpY cwY okY osY ocY koY ciY kfY cbY goY geY keY : Nat → Int32} {N : Nat → Nat} {D : Nat → Nat → Int64} {U R : Nat → Bool} {T A : Nat → Nat}
def ub_n (g : Nat → Bool) (n : Nat) (b : Bool) : Nat → Bool := fun s => if s = n then b else g s
theorem dk_mod {U' R' : Nat → Bool} {T' A' : Nat → Nat} {un rq ta ac un' rq' ta' ac' : Nat → Int32} {c : Nat} (hk : db_k U R T A un rq ta ac)
    (hq : ∀ q, q ≠ c → (U' q = U q ∧ R' q = R q ∧ T' q = T q ∧ A' q = A q) ∧ un' q = un q ∧ rq' q = rq q ∧ ta' q = ta q ∧ ac' q = ac q)
    (hc : un' c = bo_i (U' c) ∧ rq' c = bo_i (R' c) ∧ ta' c = ta_i (T' c) ∧ ac' c = nI (A' c)) : db_k U' R' T' A' un' rq' ta' ac' := by
  intro q hq9
  by_cases e : q = c
  · rw [e]
    exact hc
  · obtain ⟨⟨a1, a2, a3, a4⟩, b1, b2, b3, b4⟩ := hq q e
    rw [a1, a2, a3, a4, b1, b2, b3, b4]
    exact hk q hq9
theorem dk_un (c : Nat) {un rq ta ac : Nat → Int32} (hc : c < 9) (hk : db_k U R T A un rq ta ac) : db_k (ub_n U c true) R T A (upd un (nI c).toNatClampNeg (vp_nar .boolean 1)) rq ta ac := by
  rw [nI_clamp (by omega)]
  refine dk_mod (c := c) hk (fun q hq => ⟨⟨if_neg hq, rfl, rfl, rfl⟩, pk_un hq, rfl, rfl, rfl⟩) ?_
  obtain ⟨a, b, d, e⟩ := hk c hc
  refine ⟨?_, b, d, e⟩
  rw [pk_us, ub_n, if_pos rfl, bo_nar1]
theorem dk_rq (c : Nat) {un rq ta ac : Nat → Int32} (hc : c < 9) (hk : db_k U R T A un rq ta ac) : db_k U (ub_n R c true) T A un (upd rq (nI c).toNatClampNeg (vp_nar .boolean 1)) ta ac := by
  rw [nI_clamp (by omega)]
  refine dk_mod (c := c) hk (fun q hq => ⟨⟨rfl, if_neg hq, rfl, rfl⟩, rfl, pk_un hq, rfl, rfl⟩) ?_
  obtain ⟨a, b, d, e⟩ := hk c hc
  refine ⟨a, ?_, d, e⟩
  rw [pk_us, ub_n, if_pos rfl, bo_nar1]
theorem dk_ta (c t w : Nat) {un rq ta ac : Nat → Int32} (hc : c < 9) (ht : t < 9) (hk : db_k U R T A un rq ta ac) : db_k U R (ex_n T c t) (ex_n A c w) un rq (upd ta (nI c).toNatClampNeg (nI t)) (upd ac (nI c).toNatClampNeg (nI w)) := by
  rw [nI_clamp (by omega)]
  refine dk_mod (c := c) hk (fun q hq => ⟨⟨rfl, rfl, if_neg hq, if_neg hq⟩, rfl, rfl, pk_un hq, pk_un hq⟩) ?_
  obtain ⟨a, b, d, e⟩ := hk c hc
  refine ⟨a, b, ?_, ?_⟩
  · rw [pk_us, ex_s, ta_lt ht]
  · rw [pk_us, ex_s]
theorem dk_fr (c : Nat) {un rq ta ac : Nat → Int32} (hc : c < 9) (hk : db_k U R T A un rq ta ac) : db_k (ub_n U c false) (ub_n R c false) (ex_n T c 9) A (upd un (nI c).toNatClampNeg (vp_nar .boolean 0)) (upd rq (nI c).toNatClampNeg (vp_nar .boolean 0)) (upd ta (nI c).toNatClampNeg (-1)) ac := by
  rw [nI_clamp (by omega)]
  refine dk_mod (c := c) hk (fun q hq => ⟨⟨if_neg hq, if_neg hq, if_neg hq, rfl⟩, pk_un hq, pk_un hq, pk_un hq, rfl⟩) ?_
  obtain ⟨a, b, d, e⟩ := hk c hc
  refine ⟨?_, ?_, ?_, e⟩
  · rw [pk_us, ub_n, if_pos rfl, bo_nar0]
  · rw [pk_us, ub_n, if_pos rfl, bo_nar0]
  · rw [pk_us, ex_s]
    rfl
theorem dk_back {un rq ta ac un' rq' ta' ac' : Nat → Int32} {c : Nat} (hc : c < 9) (hk : db_k U R T A un rq ta ac) (hq : ∀ q, q ≠ c → un' q = un q ∧ rq' q = rq q ∧ ta' q = ta q ∧ ac' q = ac q) :
    db_k U R T A (upd un' (nI c).toNatClampNeg (vp_nar .boolean (un c))) (upd rq' (nI c).toNatClampNeg (vp_nar .boolean (rq c))) (upd ta' (nI c).toNatClampNeg (ta c)) (upd ac' (nI c).toNatClampNeg (ac c)) := by
  rw [nI_clamp (by omega)]
  refine dk_mod (c := c) hk (fun q h => ?_) ?_
  · obtain ⟨a, b, d, e⟩ := hq q h
    rw [pk_un h, pk_un h, pk_un h, pk_un h]
    exact ⟨⟨rfl, rfl, rfl, rfl⟩, a, b, d, e⟩
  · obtain ⟨a, b, d, e⟩ := hk c hc
    rw [pk_us, pk_us, pk_us, pk_us, a, b, bo_nar, bo_nar]
    exact ⟨rfl, rfl, d, e⟩
/-! the data stay consistent under the new constraints -/
theorem dK_un {c : Nat} (h : db_K N D U R T A) (hu : fi_u N D c) : db_K N D (ub_n U c true) R T A := by
  refine ⟨fun q hq => ?_, h.2⟩
  obtain ⟨a, b, f⟩ := h.1 q hq
  refine ⟨a, fun z => ⟨(b z).1, ?_⟩, ?_⟩
  · by_cases e : T q = c
    · rw [e]; exact if_pos rfl
    · exact (if_neg e).trans (b z).2
  · by_cases e : q = c
    · subst e
      exact ⟨fun _ => hu, f.2⟩
    · rw [show ub_n U c true q = U q from if_neg e]
      exact f
theorem dK_rq {c : Nat} (h : db_K N D U R T A) (hu : fi_r N D c) : db_K N D U (ub_n R c true) T A := by
  refine ⟨fun q hq => ?_, h.2⟩
  obtain ⟨a, b, f⟩ := h.1 q hq
  refine ⟨a, b, f.1, fun z => ?_, f.2.2⟩
  by_cases e : q = c
  · subst e
    exact hu
  · rw [show ub_n R c true q = R q from if_neg e] at z
    exact f.2.1 z
theorem dK_ta {c t w : Nat} (h : db_K N D U R T A) (hw : w ≤ 2) (hne : t ≠ c) (hu : U t = true) (hs : fi_s N D t c) : db_K N D U R (ex_n T c t) (ex_n A c w) := by
  refine ⟨fun q hq => ?_, h.2⟩
  obtain ⟨a, b, f⟩ := h.1 q hq
  by_cases e : q = c
  · subst e
    rw [ex_s, ex_s]
    exact ⟨hw, fun _ => ⟨hne, hu⟩, f.1, f.2.1, fun _ => hs⟩
  · rw [show ex_n T c t q = T q from if_neg e, show ex_n A c w q = A q from if_neg e]
    exact ⟨a, b, f⟩
theorem dK_fr {c : Nat} (h : db_K N D U R T A) (hn : ∀ q, q < 9 → T q ≠ c) : db_K N D (ub_n U c false) (ub_n R c false) (ex_n T c 9) A := by
  refine ⟨fun q hq => ?_, h.2⟩
  obtain ⟨a, b, f⟩ := h.1 q hq
  by_cases e : q = c
  · subst e
    rw [ex_s]
    refine ⟨a, fun z => absurd z (by decide), fun z => ?_, fun z => ?_, fun z => absurd z (by decide)⟩
    · rw [show ub_n U q false q = false from if_pos rfl] at z
      exact absurd z (by decide)
    · rw [show ub_n R q false q = false from if_pos rfl] at z
      exact absurd z (by decide)
  · rw [show ex_n T c 9 q = T q from if_neg e, show ub_n U c false q = U q from if_neg e, show ub_n R c false q = R q from if_neg e]
    refine ⟨a, fun z => ⟨(b z).1, ?_⟩, f⟩
    exact (if_neg (hn q hq)).trans (b z).2
/-! X -/
theorem xm_makeUnique {post : Int32 → SX → Prop} (hC : db_xc N D ceX rcX) {c : Nat} (hc : c < 9) (h1 : fi_u N D c → post 0 (toX, soX, coX, ouX, kyX, moX, diX, rrX, rwX, ceX, rcX, upd unX (nI c).toNatClampNeg (vp_nar .boolean 1), rqX, taX, acX, sceX, srcX, sunX, srqX, staX, sacX, stX, cfX, cpX, chX, csX, okX, ocX, koX, kfX, cbX, mkX, fvX, ovX, rsX, rtX)) (h0 : ¬ fi_u N D c → post (-3) (toX, soX, coX, ouX, kyX, moX, diX, rrX, rwX, ceX, rcX, unX, rqX, taX, acX, sceX, srcX, sunX, srqX, staX, sacX, stX, cfX, cpX, chX, csX, okX, ocX, koX, kfX, cbX, mkX, fvX, ovX, rsX, rtX)) : wpX_makeUnique post (toX, soX, coX, ouX, kyX, moX, diX, rrX, rwX, ceX, rcX, unX, rqX, taX, acX, sceX, srcX, sunX, srqX, staX, sacX, stX, cfX, cpX, chX, csX, okX, ocX, koX, kfX, cbX, mkX, fvX, ovX, rsX, rtX) (nI c) := by
  refine xm_hasRepeated hC hc (fun h => ?_) (fun h => ?_)
  · exact br_f (by decide) (h0 h)
  · exact br_t rfl ⟨vp_in_nI hc (by decide), nm_e (h1 h)⟩
theorem xm_makeRequired {post : Int32 → SX → Prop} (hC : db_xc N D ceX rcX) {c : Nat} (hc : c < 9) (h1 : fi_r N D c → post 0 (toX, soX, coX, ouX, kyX, moX, diX, rrX, rwX, ceX, rcX, unX, upd rqX (nI c).toNatClampNeg (vp_nar .boolean 1), taX, acX, sceX, srcX, sunX, srqX, staX, sacX, stX, cfX, cpX, chX, csX, okX, ocX, koX, kfX, cbX, mkX, fvX, ovX, rsX, rtX)) (h0 : ¬ fi_r N D c → post (-3) (toX, soX, coX, ouX, kyX, moX, diX, rrX, rwX, ceX, rcX, unX, rqX, taX, acX, sceX, srcX, sunX, srqX, staX, sacX, stX, cfX, cpX, chX, csX, okX, ocX, koX, kfX, cbX, mkX, fvX, ovX, rsX, rtX)) : wpX_makeRequired post (toX, soX, coX, ouX, kyX, moX, diX, rrX, rwX, ceX, rcX, unX, rqX, taX, acX, sceX, srcX, sunX, srqX, staX, sacX, stX, cfX, cpX, chX, csX, okX, ocX, koX, kfX, cbX, mkX, fvX, ovX, rsX, rtX) (nI c) := by
  unfold wpX_makeRequired
  dsimp only
  refine xm_hasNull hC hc (fun h => ?_) (fun h => ?_)
  · exact br_f (by decide) (h0 h)
  · exact br_t rfl ⟨vp_in_nI hc (by decide), nm_e (h1 h)⟩
theorem xm_makeReference {post : Int32 → SX → Prop} (hC : db_xc N D ceX rcX) (hk : db_k U R T A unX rqX taX acX) {c t : Nat} (hc : c < 9) (ht : t < 9) {w : Int32} (hb : (t = c ∨ U t = false) → post (-1) (toX, soX, coX, ouX, kyX, moX, diX, rrX, rwX, ceX, rcX, unX, rqX, taX, acX, sceX, srcX, sunX, srqX, staX, sacX, stX, cfX, cpX, chX, csX, okX, ocX, koX, kfX, cbX, mkX, fvX, ovX, rsX, rtX)) (h1 : t ≠ c → U t = true → fi_s N D t c → post 0 (toX, soX, coX, ouX, kyX, moX, diX, rrX, rwX, ceX, rcX, unX, rqX, upd taX (nI c).toNatClampNeg (nI t), upd acX (nI c).toNatClampNeg w, sceX, srcX, sunX, srqX, staX, sacX, stX, cfX, cpX, chX, csX, okX, ocX, koX, kfX, cbX, mkX, fvX, ovX, rsX, rtX)) (h0 : t ≠ c → U t = true → ¬ fi_s N D t c → post (-3) (toX, soX, coX, ouX, kyX, moX, diX, rrX, rwX, ceX, rcX, unX, rqX, taX, acX, sceX, srcX, sunX, srqX, staX, sacX, stX, cfX, cpX, chX, csX, okX, ocX, koX, kfX, cbX, mkX, fvX, ovX, rsX, rtX)) : wpX_makeReference post (toX, soX, coX, ouX, kyX, moX, diX, rrX, rwX, ceX, rcX, unX, rqX, taX, acX, sceX, srcX, sunX, srqX, staX, sacX, stX, cfX, cpX, chX, csX, okX, ocX, koX, kfX, cbX, mkX, fvX, ovX, rsX, rtX) (nI c) (nI t) w := by
  refine pk_eq t c (fun e => hb (Or.inl e)) (fun e => ⟨vp_in_nI ht (by decide), ?_⟩)
  rw [nI_clamp (by omega), (hk t ht).1]
  by_cases hu : U t = true
  · refine br_f (bo_n.mpr hu) (xm_hasStray hC hc ht (fun h => ?_) (fun h => ?_))
    · exact br_f (by decide) (h0 e hu h)
    · exact br_t rfl ⟨vp_in_nI hc (by decide), nm_e ⟨vp_in_nI hc (by decide), nm_e (h1 e hu h)⟩⟩
  · exact br_t (bo_0.mpr (by simpa using hu)) (hb (Or.inr (by simpa using hu)))
theorem xm_makeFree {post : Int32 → SX → Prop} (hk : db_k U R T A unX rqX taX acX) {c : Nat} (hc : c < 9) (h1 : (∃ q, q < 9 ∧ T q = c) → post (-1) (toX, soX, coX, ouX, kyX, moX, diX, rrX, rwX, ceX, rcX, unX, rqX, taX, acX, sceX, srcX, sunX, srqX, staX, sacX, stX, cfX, cpX, chX, csX, okX, ocX, koX, kfX, cbX, mkX, fvX, ovX, rsX, rtX)) (h0 : (∀ q, q < 9 → T q ≠ c) → post 0 (toX, soX, coX, ouX, kyX, moX, diX, rrX, rwX, ceX, rcX, upd unX (nI c).toNatClampNeg (vp_nar .boolean 0), upd rqX (nI c).toNatClampNeg (vp_nar .boolean 0), upd taX (nI c).toNatClampNeg (-1), acX, sceX, srcX, sunX, srqX, staX, sacX, stX, cfX, cpX, chX, csX, okX, ocX, koX, kfX, cbX, mkX, fvX, ovX, rsX, rtX)) : wpX_makeFree post (toX, soX, coX, ouX, kyX, moX, diX, rrX, rwX, ceX, rcX, unX, rqX, taX, acX, sceX, srcX, sunX, srqX, staX, sacX, stX, cfX, cpX, chX, csX, okX, ocX, koX, kfX, cbX, mkX, fvX, ovX, rsX, rtX) (nI c) := by
  have hi9 : vp_in (nI c) 9 := vp_in_nI hc (by decide)
  refine loop_0 (fun n i (_ : Unit) => wX_makeFree_2 post (nI c) toX soX coX ouX kyX moX diX rrX rwX ceX rcX unX rqX taX acX sceX srcX sunX srqX staX sacX stX cfX cpX chX csX okX ocX koX kfX cbX mkX fvX ovX rsX rtX n (nI i)) (fun i _ => ∀ q, q < i → T q ≠ c) 9 () (fun q hq => absurd hq (Nat.not_lt_zero q)) ?_ ?_
  · intro n _ hI
    exact br_t (by decide) ⟨hi9, nm_e ⟨hi9, nm_e ⟨hi9, nm_e (h0 hI)⟩⟩⟩
  · intro n i _ hi hI hn
    refine br_f (nI_ge (b := 9) hi (by decide)) ⟨vp_in_nI hi (by decide), ?_⟩
    rw [nI_clamp (by omega), (hk i hi).2.2.1]
    by_cases e : T i = c
    · exact br_t ((ta_eq hc).mpr e) (h1 ⟨i, hi, e⟩)
    · exact br_f (fun z => e ((ta_eq hc).mp z)) (nm_r (nI_1 i) (hn () (lt_s hI e)))
/-! Y -/
theorem ym_clear {post : Int32 → SY → Prop} (hk : db_k U R T A unY rqY rfY acY) {c : Nat} (hc : c < 9) (h1 : (∃ q, q < 9 ∧ T q = c) → post (-1) (opY, soY, coY, ouY, kyY, liY, diY, cmY, rrY, wiY, ceY, oceY, bceY, maY, omaY, bmaY, unY, rqY, bunY, brqY, rfY, acY, brfY, bacY, srY, csY, ccY, cpY, cwY, okY, osY, ocY, koY, ciY, kfY, cbY, goY, rsY, geY, keY)) (h0 : (∀ q, q < 9 → T q ≠ c) → post 0 (opY, soY, coY, ouY, kyY, liY, diY, cmY, rrY, wiY, ceY, oceY, bceY, maY, omaY, bmaY, upd unY (nI c).toNatClampNeg (vp_nar .boolean 0), upd rqY (nI c).toNatClampNeg (vp_nar .boolean 0), bunY, brqY, upd rfY (nI c).toNatClampNeg (-1), acY, brfY, bacY, srY, csY, ccY, cpY, cwY, okY, osY, ocY, koY, ciY, kfY, cbY, goY, rsY, geY, keY)) : wpY_clear post (opY, soY, coY, ouY, kyY, liY, diY, cmY, rrY, wiY, ceY, oceY, bceY, maY, omaY, bmaY, unY, rqY, bunY, brqY, rfY, acY, brfY, bacY, srY, csY, ccY, cpY, cwY, okY, osY, ocY, koY, ciY, kfY, cbY, goY, rsY, geY, keY) (nI c) := by
  have hi9 : vp_in (nI c) 9 := vp_in_nI hc (by decide)
  refine loop_0 (fun n i (_ : Unit) => wY_clear_2 post (nI c) opY soY coY ouY kyY liY diY cmY rrY wiY ceY oceY bceY maY omaY bmaY unY rqY bunY brqY rfY acY brfY bacY srY csY ccY cpY cwY okY osY ocY koY ciY kfY cbY goY rsY geY keY n (nI i)) (fun i _ => ∀ q, q < i → T q ≠ c) 9 () (fun q hq => absurd hq (Nat.not_lt_zero q)) ?_ ?_
  · intro n _ hI
    exact br_t (by decide) ⟨hi9, nm_e ⟨hi9, nm_e ⟨hi9, nm_e (h0 hI)⟩⟩⟩
  · intro n i _ hi hI hn
    refine br_f (nI_ge (b := 9) hi (by decide)) ⟨vp_in_nI hi (by decide), ?_⟩
    rw [nI_clamp (by omega), (hk i hi).2.2.1]
    by_cases e : T i = c
    · exact br_t ((ta_eq hc).mpr e) (h1 ⟨i, hi, e⟩)
    · exact br_f (fun z => e ((ta_eq hc).mp z)) (nm_r (nI_1 i) (hn () (lt_s hI e)))
theorem ym_con184 {post : Int32 → SY → Prop} {U' R' : Nat → Bool} {T' A' : Nat → Nat} (hC : db_yc N D ceY maY) (hk : db_k U' R' T' A' unY rqY rfY acY) {c : Nat} (hc : c < 9) {x7 x8 x9 x10 : Int32} (h1 : fi_t N D (U' c) (R' c) (T' c) c → post 0 (opY, soY, coY, ouY, kyY, liY, diY, cmY, rrY, wiY, ceY, oceY, bceY, maY, omaY, bmaY, unY, rqY, bunY, brqY, rfY, acY, brfY, bacY, srY, csY, ccY, cpY, cwY, okY, osY, ocY, koY, ciY, kfY, cbY, goY, rsY, geY, keY)) (h0 : ¬ fi_t N D (U' c) (R' c) (T' c) c → post (-3) (opY, soY, coY, ouY, kyY, liY, diY, cmY, rrY, wiY, ceY, oceY, bceY, maY, omaY, bmaY, upd unY (nI c).toNatClampNeg (vp_nar .boolean x7), upd rqY (nI c).toNatClampNeg (vp_nar .boolean x8), bunY, brqY, upd rfY (nI c).toNatClampNeg x9, upd acY (nI c).toNatClampNeg x10, brfY, bacY, srY, csY, ccY, cpY, cwY, okY, osY, ocY, koY, ciY, kfY, cbY, goY, rsY, geY, keY)) : wY_constrain_184 post (nI c) x7 x8 x9 x10 opY soY coY ouY kyY liY diY cmY rrY wiY ceY oceY bceY maY omaY bmaY unY rqY bunY brqY rfY acY brfY bacY srY csY ccY cpY cwY okY osY ocY koY ciY kfY cbY goY rsY geY keY := by
  have hi9 : vp_in (nI c) 9 := vp_in_nI hc (by decide)
  refine ym_fits hC hk hc (fun h => ?_) (fun h => ?_)
  · exact br_f (by decide) (h1 h)
  · exact br_t rfl ⟨hi9, nm_e ⟨hi9, nm_e ⟨hi9, nm_e ⟨hi9, nm_e (h0 h)⟩⟩⟩⟩
theorem ym_con {post : Int32 → SY → Prop} (hC : db_yc N D ceY maY) (hk : db_k U R T A unY rqY rfY acY) (hK : db_K N D U R T A) {j1 j2 j3 : Nat} {v4 v5 : Int32} (h1 : j1 < 3) (h2 : j2 < 3) (h3 : j3 < 6)
    (p0 : j3 = 0 → fi_u N D (3 * j1 + j2) → post 0 (opY, soY, coY, ouY, kyY, liY, diY, cmY, rrY, wiY, ceY, oceY, bceY, maY, omaY, bmaY, upd unY (nI (3 * j1 + j2)).toNatClampNeg (vp_nar .boolean 1), rqY, bunY, brqY, rfY, acY, brfY, bacY, srY, csY, ccY, cpY, cwY, okY, osY, ocY, koY, ciY, kfY, cbY, goY, rsY, geY, keY))
    (p1 : j3 = 1 → fi_r N D (3 * j1 + j2) → post 0 (opY, soY, coY, ouY, kyY, liY, diY, cmY, rrY, wiY, ceY, oceY, bceY, maY, omaY, bmaY, unY, upd rqY (nI (3 * j1 + j2)).toNatClampNeg (vp_nar .boolean 1), bunY, brqY, rfY, acY, brfY, bacY, srY, csY, ccY, cpY, cwY, okY, osY, ocY, koY, ciY, kfY, cbY, goY, rsY, geY, keY))
    (pv : (j3 = 0 → ¬ fi_u N D (3 * j1 + j2)) → (j3 = 1 → ¬ fi_r N D (3 * j1 + j2)) → j3 ≠ 5 → (1 < j3 → ∃ j4 j5, j4 < 3 ∧ j5 < 3 ∧ v4 = nI j4 ∧ v5 = nI j5 ∧ 3 * j4 + j5 ≠ 3 * j1 + j2 ∧ U (3 * j4 + j5) = true ∧ ¬ fi_s N D (3 * j4 + j5) (3 * j1 + j2)) → ∀ un' rq' rf' ac', db_k U R T A un' rq' rf' ac' → post (-3) (opY, soY, coY, ouY, kyY, liY, diY, cmY, rrY, wiY, ceY, oceY, bceY, maY, omaY, bmaY, un', rq', bunY, brqY, rf', ac', brfY, bacY, srY, csY, ccY, cpY, cwY, okY, osY, ocY, koY, ciY, kfY, cbY, goY, rsY, geY, keY))
    (p2 : 1 < j3 → j3 ≠ 5 → ∀ j4 j5, j4 < 3 → j5 < 3 → v4 = nI j4 → v5 = nI j5 → 3 * j4 + j5 ≠ 3 * j1 + j2 → U (3 * j4 + j5) = true → fi_s N D (3 * j4 + j5) (3 * j1 + j2) → post 0 (opY, soY, coY, ouY, kyY, liY, diY, cmY, rrY, wiY, ceY, oceY, bceY, maY, omaY, bmaY, unY, rqY, bunY, brqY, upd rfY (nI (3 * j1 + j2)).toNatClampNeg (nI (3 * j4 + j5)), upd acY (nI (3 * j1 + j2)).toNatClampNeg (nI (j3 - 2)), brfY, bacY, srY, csY, ccY, cpY, cwY, okY, osY, ocY, koY, ciY, kfY, cbY, goY, rsY, geY, keY))
    (pb : 1 < j3 → j3 ≠ 5 → ((∀ j, j < 3 → v4 ≠ nI j) ∨ (∀ j, j < 3 → v5 ≠ nI j) ∨ ∃ j4 j5, j4 < 3 ∧ j5 < 3 ∧ v4 = nI j4 ∧ v5 = nI j5 ∧ (3 * j4 + j5 = 3 * j1 + j2 ∨ U (3 * j4 + j5) = false)) → post (-1) (opY, soY, coY, ouY, kyY, liY, diY, cmY, rrY, wiY, ceY, oceY, bceY, maY, omaY, bmaY, unY, rqY, bunY, brqY, rfY, acY, brfY, bacY, srY, csY, ccY, cpY, cwY, okY, osY, ocY, koY, ciY, kfY, cbY, goY, rsY, geY, keY))
    (p5 : j3 = 5 → (∃ q, q < 9 ∧ T q = 3 * j1 + j2) → post (-1) (opY, soY, coY, ouY, kyY, liY, diY, cmY, rrY, wiY, ceY, oceY, bceY, maY, omaY, bmaY, unY, rqY, bunY, brqY, rfY, acY, brfY, bacY, srY, csY, ccY, cpY, cwY, okY, osY, ocY, koY, ciY, kfY, cbY, goY, rsY, geY, keY))
    (p6 : j3 = 5 → (∀ q, q < 9 → T q ≠ 3 * j1 + j2) → post 0 (opY, soY, coY, ouY, kyY, liY, diY, cmY, rrY, wiY, ceY, oceY, bceY, maY, omaY, bmaY, upd unY (nI (3 * j1 + j2)).toNatClampNeg (vp_nar .boolean 0), upd rqY (nI (3 * j1 + j2)).toNatClampNeg (vp_nar .boolean 0), bunY, brqY, upd rfY (nI (3 * j1 + j2)).toNatClampNeg (-1), acY, brfY, bacY, srY, csY, ccY, cpY, cwY, okY, osY, ocY, koY, ciY, kfY, cbY, goY, rsY, geY, keY)) :
    wpY_constrain post (opY, soY, coY, ouY, kyY, liY, diY, cmY, rrY, wiY, ceY, oceY, bceY, maY, omaY, bmaY, unY, rqY, bunY, brqY, rfY, acY, brfY, bacY, srY, csY, ccY, cpY, cwY, okY, osY, ocY, koY, ciY, kfY, cbY, goY, rsY, geY, keY) (nI j1) (nI j2) (nI j3) v4 v5 := by
  unfold wpY_constrain
  dsimp only
  refine ym_within (n := 3) (by decide) (fun z => rg_no z h1 rfl) (fun _ _ _ => br_f (by decide) (ym_within (n := 3) (by decide) (fun z => rg_no z h2 rfl) (fun _ _ _ => br_f (by decide) (ym_within (n := 6) (by decide) (fun z => rg_no z h3 rfl) (fun _ _ _ => br_f (by decide) (nm_r (nz_3 j1 j2) ?_))))))
  have hc : 3 * j1 + j2 < 9 := by omega
  generalize 3 * j1 + j2 = c at *
  have hi9 : vp_in (nI c) 9 := vp_in_nI hc (by decide)
  have ec : (nI c).toNatClampNeg = c := nI_clamp (by omega)
  obtain ⟨_, _, ff⟩ := hK.1 c hc
  refine pk_eq j3 5 (fun e => ?_) (fun ne5 => ?_)
  · exact ym_clear hk hc (fun h => p5 e h) (fun h => p6 e h)
  · refine ⟨hi9, nm_e ⟨hi9, nm_e ⟨hi9, nm_e ⟨hi9, nm_e ?_⟩⟩⟩⟩
    rw [show unY (nI c).toNatClampNeg = unY c by rw [ec], show rqY (nI c).toNatClampNeg = rqY c by rw [ec], show rfY (nI c).toNatClampNeg = rfY c by rw [ec], show acY (nI c).toNatClampNeg = acY c by rw [ec]]
    refine pk_le j3 1 (fun h => pk_eq j3 0 (fun e => ?_) (fun ne0 => ?_)) (fun h => ?_)
    · refine ⟨hi9, nm_e (ym_con184 hC (dk_un c hc hk) hc (fun z => ?_) (fun z => ?_))⟩
      · rw [show ub_n U c true c = true from if_pos rfl] at z
        exact p0 e (z.1 rfl)
      · rw [show ub_n U c true c = true from if_pos rfl] at z
        refine pv (fun _ w => z ⟨fun _ => w, ff.2⟩) (fun e1 => absurd e1 (by omega)) ne5 (fun z => absurd z (by omega)) _ _ _ _ (dk_back hc hk (fun q hq => ⟨?_, rfl, rfl, rfl⟩))
        rw [ec]
        exact pk_un hq
    · refine ⟨hi9, nm_e (ym_con184 hC (dk_rq c hc hk) hc (fun z => ?_) (fun z => ?_))⟩
      · rw [show ub_n R c true c = true from if_pos rfl] at z
        exact p1 (by omega) (z.2.1 rfl)
      · rw [show ub_n R c true c = true from if_pos rfl] at z
        refine pv (fun e1 => absurd e1 ne0) (fun _ w => z ⟨ff.1, fun _ => w, ff.2.2⟩) ne5 (fun z => absurd z (by omega)) _ _ _ _ (dk_back hc hk (fun q hq => ⟨rfl, ?_, rfl, rfl⟩))
        rw [ec]
        exact pk_un hq
    · refine ym_within (n := 3) (by decide) (fun z => br_t rfl (pb h ne5 (Or.inl z))) (fun j4 h4 e4 => br_f (by decide) (ym_within (n := 3) (by decide) (fun z => br_t rfl (pb h ne5 (Or.inr (Or.inl z)))) (fun j5 h5 e5 => br_f (by decide) ?_)))
      subst e4 e5
      rw [nz_3]
      refine pk_eq (3 * j4 + j5) c (fun e => pb h ne5 (Or.inr (Or.inr ⟨j4, j5, h4, h5, rfl, rfl, Or.inl e⟩))) (fun nec => ⟨vp_in_nI (by omega) (by decide), ?_⟩)
      rw [show unY (nI (3 * j4 + j5)).toNatClampNeg = bo_i (U (3 * j4 + j5)) by rw [nI_clamp (by omega)]; exact (hk _ (by omega)).1]
      by_cases hu : U (3 * j4 + j5) = true
      · refine br_f (bo_n.mpr hu) ⟨hi9, nm_e ⟨hi9, nm_r (congrArg (upd acY _) (show nI j3 - 2 = nI (j3 - 2) from pk_sub (b := 2) h)) (ym_con184 hC (dk_ta c (3 * j4 + j5) (j3 - 2) hc (by omega) hk) hc (fun z => ?_) (fun z => ?_))⟩⟩
        · rw [ex_s] at z
          exact p2 h ne5 j4 j5 h4 h5 rfl rfl nec hu (z.2.2 (by omega))
        · rw [ex_s] at z
          refine pv (fun e1 => absurd e1 (by omega)) (fun e1 => absurd e1 (by omega)) ne5 (fun _ => ⟨j4, j5, h4, h5, rfl, rfl, nec, hu, fun w => z ⟨ff.1, ff.2.1, fun _ => w⟩⟩) _ _ _ _ (dk_back hc hk (fun q hq => ⟨rfl, rfl, ?_, ?_⟩))
          · rw [ec]
            exact pk_un hq
          · rw [ec]
            exact pk_un hq
      · exact br_t (bo_0.mpr (by simpa using hu)) (pb h ne5 (Or.inr (Or.inr ⟨j4, j5, h4, h5, rfl, rfl, Or.inr (by simpa using hu)⟩)))
end
end
section
theorem i_vc_constrain {k : Nat} {u : SX} {v : SY} (I : i_Rel k u v) (hk : k + 6 ≤ 3072) (v1 : Int32) (v2 : Int32) (v3 : Int32) (v4 : Int32) (v5 : Int32) : wpX_constrain (fun r u' => wpY_constrain (fun r' v' => r' = r ∧ i_Rel (k + 6) u' v') v v1 v2 v3 v4 v5) u v1 v2 v3 v4 v5 := by
  rcases u with ⟨toX, soX, coX, ouX, kyX, moX, diX, rrX, rwX, ceX, rcX, unX, rqX, taX, acX, sceX, srcX, sunX, srqX, staX, sacX, stX, cfX, cpX, chX, csX, okX, ocX, koX, kfX, cbX, mkX, fvX, ovX, rsX, rtX⟩
  rcases v with ⟨opY, soY, coY, ouY, kyY, liY, diY, cmY, rrY, wiY, ceY, oceY, bceY, maY, omaY, bmaY, unY, rqY, bunY, brqY, rfY, acY, brfY, bacY, srY, csY, ccY, cpY, cwY, okY, osY, ocY, koY, ciY, kfY, cbY, goY, rsY, geY, keY⟩
  obtain ⟨hdb, hsv, hdr, hli, hre⟩ := I
  have keep := hdb
  obtain ⟨N, D, U, R, T, A, hx, hxk, hy, hyk, hK⟩ := hdb
  have bad : ((∀ j, j < 3 → v1 ≠ nI j) ∨ (∀ j, j < 3 → v2 ≠ nI j) ∨ (∀ j, j < 6 → v3 ≠ nI j)) → wpY_constrain (fun r' v' => r' = -1 ∧ i_Rel (k + 6) (toX, soX, coX, ouX, kyX, moX, diX, rrX, rwX, ceX, rcX, unX, rqX, taX, acX, sceX, srcX, sunX, srqX, staX, sacX, stX, cfX, cpX, chX, csX, okX, ocX, koX, kfX, cbX, mkX, fvX, ovX, rsX, rtX) v') (opY, soY, coY, ouY, kyY, liY, diY, cmY, rrY, wiY, ceY, oceY, bceY, maY, omaY, bmaY, unY, rqY, bunY, brqY, rfY, acY, brfY, bacY, srY, csY, ccY, cpY, cwY, okY, osY, ocY, koY, ciY, kfY, cbY, goY, rsY, geY, keY) v1 v2 v3 v4 v5 := by
    intro hb
    unfold wpY_constrain
    dsimp only
    refine ym_within (n := 3) (by decide) (fun h => br_t rfl ⟨rfl, keep, hsv, hdr, hli, hre⟩) (fun j1 h1 e1 => br_f (by decide) (ym_within (n := 3) (by decide) (fun h => br_t rfl ⟨rfl, keep, hsv, hdr, hli, hre⟩) (fun j2 h2 e2 => br_f (by decide) (ym_within (n := 6) (by decide) (fun h => br_t rfl ⟨rfl, keep, hsv, hdr, hli, hre⟩) (fun j3 h3 e3 => ?_)))))
    rcases hb with z | z | z
    · exact rg_no z h1 e1
    · exact rg_no z h2 e2
    · exact rg_no z h3 e3
  unfold wpX_constrain
  dsimp only
  refine xm_out v1 (fun hout => br_f (by decide) (bad (Or.inl hout))) (fun j1 h1 e1 => br_t rfl (xm_out v2 (fun hout => br_f (by decide) (bad (Or.inr (Or.inl hout)))) (fun j2 h2 e2 => br_t rfl ?_)))
  rcases rg_c v3 6 (by decide) with hout | ⟨j3, h3, e3⟩
  · refine nm_e (br_c (fun _ => bad (Or.inr (Or.inr hout))) (fun hp => br_c (fun _ => bad (Or.inr (Or.inr hout))) (fun h5 => ?_)))
    obtain ⟨j, hj, e⟩ := nI_of2 (M := 5) (n := 5) (by decide) hp (Int32.not_lt.mp h5)
    exact rg_no hout (j := j) (by omega) e
  subst e1 e2 e3
  refine nm_r (nz_3 j1 j2) ?_
  have hc : 3 * j1 + j2 < 9 := by omega
  refine br_f (nI_pos (by omega)) (br_f (nI_nlt (a := 5) (b := j3) (by omega) (by decide) : ¬ (5 : Int32) < nI j3) ?_)
  -- the outcomes on Y's side
  have rOK : ∀ {U' R' : Nat → Bool} {T' A' : Nat → Nat} {un rq ta ac unY' rqY' rfY' acY' : Nat → Int32}, db_k U' R' T' A' un rq ta ac → db_k U' R' T' A' unY' rqY' rfY' acY' → db_K N D U' R' T' A' → ∀ r : Int32, r = r ∧ i_Rel (k + 6) (toX, soX, coX, ouX, kyX, moX, diX, rrX, rwX, ceX, rcX, un, rq, ta, ac, sceX, srcX, sunX, srqX, staX, sacX, stX, cfX, cpX, chX, csX, okX, ocX, koX, kfX, cbX, mkX, fvX, ovX, rsX, rtX) (opY, soY, coY, ouY, kyY, liY, diY, cmY, rrY, wiY, ceY, oceY, bceY, maY, omaY, bmaY, unY', rqY', bunY, brqY, rfY', acY', brfY, bacY, srY, csY, ccY, cpY, cwY, okY, osY, ocY, koY, ciY, kfY, cbY, goY, rsY, geY, keY) :=
    fun a b c r => ⟨rfl, ⟨N, D, _, _, _, _, hx, a, hy, b, c⟩, hsv, hdr, hli, hre⟩
  by_cases k0 : j3 = 0
  · subst k0
    refine br_t rfl (xm_makeUnique hx hc (fun hu => ?_) (fun hu => ?_))
    · exact ym_con hy hyk hK h1 h2 h3 (fun _ _ => rOK (dk_un _ hc hxk) (dk_un _ hc hyk) (dK_un hK hu) 0) (fun z => absurd z (by decide)) (fun z => absurd hu (z rfl)) (fun z => absurd z (by decide)) (fun z => absurd z (by decide)) (fun z => absurd z (by decide)) (fun z => absurd z (by decide))
    · exact ym_con hy hyk hK h1 h2 h3 (fun _ z => absurd z hu) (fun z => absurd z (by decide)) (fun _ _ _ _ _ _ _ _ b => rOK hxk b hK _) (fun z => absurd z (by decide)) (fun z => absurd z (by decide)) (fun z => absurd z (by decide)) (fun z => absurd z (by decide))
  refine br_f (nI_ne0 (by omega) (by omega)) ?_
  by_cases k1 : j3 = 1
  · subst k1
    refine br_t rfl (xm_makeRequired hx hc (fun hu => ?_) (fun hu => ?_))
    · exact ym_con hy hyk hK h1 h2 h3 (fun z => absurd z (by decide)) (fun _ _ => rOK (dk_rq _ hc hxk) (dk_rq _ hc hyk) (dK_rq hK hu) 0) (fun _ z => absurd hu (z rfl)) (fun z => absurd z (by decide)) (fun z => absurd z (by decide)) (fun z => absurd z (by decide)) (fun z => absurd z (by decide))
    · exact ym_con hy hyk hK h1 h2 h3 (fun z => absurd z (by decide)) (fun _ z => absurd z hu) (fun _ _ _ _ _ _ _ _ b => rOK hxk b hK _) (fun z => absurd z (by decide)) (fun z => absurd z (by decide)) (fun z => absurd z (by decide)) (fun z => absurd z (by decide))
  refine br_f (fun z => k1 ((nI_eq (b := 1) (by omega) (by decide)).mp z)) ?_
  by_cases k5 : j3 = 5
  · subst k5
    refine br_f (by decide) (br_f (by decide) (br_f (by decide) (br_t rfl (xm_makeFree hxk hc (fun hu => ?_) (fun hu => ?_)))))
    · exact ym_con hy hyk hK h1 h2 h3 (fun z => absurd z (by decide)) (fun z => absurd z (by decide)) (fun _ _ z => absurd rfl z) (fun _ z => absurd rfl z) (fun _ z => absurd rfl z) (fun _ _ => rOK hxk hyk hK _) (fun _ z => absurd hu (fun ⟨q, hq, e⟩ => z q hq e))
    · exact ym_con hy hyk hK h1 h2 h3 (fun z => absurd z (by decide)) (fun z => absurd z (by decide)) (fun _ _ z => absurd rfl z) (fun _ z => absurd rfl z) (fun _ z => absurd rfl z) (fun _ ⟨q, hq, e⟩ => absurd e (hu q hq)) (fun _ _ => rOK (dk_fr _ hc hxk) (dk_fr _ hc hyk) (dK_fr hK hu) _)
  have h1j : 1 < j3 := by omega
  have main : wX_constrain_78 (fun r u' => wpY_constrain (fun r' v' => r' = r ∧ i_Rel (k + 6) u' v') (opY, soY, coY, ouY, kyY, liY, diY, cmY, rrY, wiY, ceY, oceY, bceY, maY, omaY, bmaY, unY, rqY, bunY, brqY, rfY, acY, brfY, bacY, srY, csY, ccY, cpY, cwY, okY, osY, ocY, koY, ciY, kfY, cbY, goY, rsY, geY, keY) (nI j1) (nI j2) (nI j3) v4 v5) (nI j3) v4 v5 (nI (3 * j1 + j2)) toX soX coX ouX kyX moX diX rrX rwX ceX rcX unX rqX taX acX sceX srcX sunX srqX staX sacX stX cfX cpX chX csX okX ocX koX kfX cbX mkX fvX ovX rsX rtX := by
    unfold wX_constrain_78
    refine xm_out v4 (fun hout => br_f (by decide) ?_) (fun j4 h4 e4 => br_t rfl (xm_out v5 (fun hout => br_f (by decide) ?_) (fun j5 h5 e5 => br_t rfl ?_)))
    · exact ym_con hy hyk hK h1 h2 h3 (fun z => absurd z k0) (fun z => absurd z k1) (fun _ _ _ z => by obtain ⟨j4, j5, h4, h5, e4, _⟩ := z h1j; exact rg_no hout h4 e4) (fun _ _ _ _ h4 _ e4 => rg_no hout h4 e4) (fun _ _ _ => rOK hxk hyk hK _) (fun z => absurd z k5) (fun z => absurd z k5)
    · exact ym_con hy hyk hK h1 h2 h3 (fun z => absurd z k0) (fun z => absurd z k1) (fun _ _ _ z => by obtain ⟨j4, j5, h4, h5, e4, e5, _⟩ := z h1j; exact rg_no hout h5 e5) (fun _ _ _ _ _ h5 _ e5 => rg_no hout h5 e5) (fun _ _ _ => rOK hxk hyk hK _) (fun z => absurd z k5) (fun z => absurd z k5)
    · subst e4 e5
      have un : ∀ {a b : Nat}, a < 3 → b < 3 → nI j4 = nI a → nI j5 = nI b → a = j4 ∧ b = j5 := by
        intro a b ha hb ea eb
        rw [nI_eq (by omega) (by omega)] at ea eb
        exact ⟨ea.symm, eb.symm⟩
      rw [nz_3, show nI j3 - 2 = nI (j3 - 2) from pk_sub (b := 2) h1j]
      refine xm_makeReference hx hxk hc (by omega) (fun hb => ?_) (fun hne hu hs => ?_) (fun hne hu hs => ?_)
      · refine ym_con hy hyk hK h1 h2 h3 (fun z => absurd z k0) (fun z => absurd z k1) (fun _ _ _ z => ?_) (fun _ _ a b ha hb' ea eb hne hu _ => ?_) (fun _ _ _ => rOK hxk hyk hK _) (fun z => absurd z k5) (fun z => absurd z k5)
        · obtain ⟨a, b, ha, hb', ea, eb, hne, hu, _⟩ := z h1j
          obtain ⟨rfl, rfl⟩ := un ha hb' ea eb
          rcases hb with z | z
          · exact absurd z hne
          · rw [hu] at z
            exact absurd z (by decide)
        · obtain ⟨rfl, rfl⟩ := un ha hb' ea eb
          rcases hb with z | z
          · exact absurd z hne
          · rw [hu] at z
            exact absurd z (by decide)
      · refine ym_con hy hyk hK h1 h2 h3 (fun z => absurd z k0) (fun z => absurd z k1) (fun _ _ _ z => ?_) (fun _ _ a b ha hb' ea eb hne hu _ => ?_) (fun _ _ z => ?_) (fun z => absurd z k5) (fun z => absurd z k5)
        · obtain ⟨a, b, ha, hb', ea, eb, _, _, hs'⟩ := z h1j
          obtain ⟨rfl, rfl⟩ := un ha hb' ea eb
          exact absurd hs hs'
        · obtain ⟨rfl, rfl⟩ := un ha hb' ea eb
          exact rOK (dk_ta _ _ _ hc (by omega) hxk) (dk_ta _ _ _ hc (by omega) hyk) (dK_ta hK (by omega) hne hu hs) _
        · rcases z with z | z | ⟨a, b, ha, hb', ea, eb, z⟩
          · exact rg_no z h4 rfl
          · exact rg_no z h5 rfl
          · obtain ⟨rfl, rfl⟩ := un ha hb' ea eb
            rcases z with z | z
            · exact absurd z hne
            · rw [hu] at z
              exact absurd z (by decide)
      · refine ym_con hy hyk hK h1 h2 h3 (fun z => absurd z k0) (fun z => absurd z k1) (fun _ _ _ _ _ _ _ _ b => rOK hxk b hK _) (fun _ _ a b ha hb' ea eb hne hu hs' => ?_) (fun _ _ z => ?_) (fun z => absurd z k5) (fun z => absurd z k5)
        · obtain ⟨rfl, rfl⟩ := un ha hb' ea eb
          exact absurd hs' hs
        · rcases z with z | z | ⟨a, b, ha, hb', ea, eb, z⟩
          · exact rg_no z h4 rfl
          · exact rg_no z h5 rfl
          · obtain ⟨rfl, rfl⟩ := un ha hb' ea eb
            rcases z with z | z
            · exact absurd z hne
            · rw [hu] at z
              exact absurd z (by decide)
  by_cases k2 : j3 = 2
  · subst k2
    exact br_t rfl main
  refine br_f (fun z => k2 ((nI_eq (b := 2) (by omega) (by decide)).mp z)) ?_
  by_cases k3 : j3 = 3
  · subst k3
    exact br_t rfl main
  refine br_f (fun z => k3 ((nI_eq (b := 3) (by omega) (by decide)).mp z)) ?_
  have k4 : j3 = 4 := by omega
  subst k4
  exact br_t rfl main
end
section
section
variable {toX soX coX ouX kyX moX diX rrX rwX : Int32} {ceX sceX fvX ovX rsX : Nat → Int64} {rcX unX rqX taX acX srcX sunX srqX staX sacX stX cfX cpX chX csX okX ocX koX kfX cbX mkX rtX : Nat → Int32} {opY soY coY ouY kyY liY diY cmY rrY wiY : Int32} {ceY oceY bceY rsY : Nat → Int64} {maY omaY bmaY unY rqY bunY brqY rfY acY brfY bacY srY csY ccY cpY cwY okY osY ocY koY ciY kfY cbY goY geY keY : Nat → Int32} {N : Nat → Nat} {D : Nat → Nat → Int64} {U R : Nat → Bool} {T A : Nat → Nat}
theorem dy_ext {ce ce' : Nat → Int64} {ma ma' : Nat → Int32} (h : db_yc N D ce ma) (h1 : ∀ i, i < 144 → ce' i = ce i) (h2 : ∀ t, t < 3 → ma' t = ma t) : db_yc N D ce' ma' := by
  refine ⟨fun t ht => ?_, fun c r hc hr => ?_⟩
  · rw [h2 t ht]
    exact h.1 t ht
  · have := (h.1 (c / 3) (by omega)).2
    rw [h1 _ (by omega)]
    exact h.2 c r hc hr
theorem ul_step {s f : Nat → Int64} {i : Nat} (hi : i < 2 ^ 31) (h : ∀ j, j < i → s j = f j) : ∀ j, j < i + 1 → vp_updL s (nI i).toNatClampNeg (f (nI i).toNatClampNeg) j = f j := by
  rw [nI_clamp hi]
  refine lt_s (fun j hj => ?_) ?_
  · rw [pk_uLn (by omega)]
    exact h j hj
  · exact pk_uLs
theorem ui_step {s f : Nat → Int32} {i : Nat} (hi : i < 2 ^ 31) (h : ∀ j, j < i → s j = f j) : ∀ j, j < i + 1 → upd s (nI i).toNatClampNeg (f (nI i).toNatClampNeg) j = f j := by
  rw [nI_clamp hi]
  refine lt_s (fun j hj => ?_) ?_
  · rw [pk_un (by omega)]
    exact h j hj
  · exact pk_us
theorem ym_save {post : SY → Prop} (h : ∀ oce oma, (∀ i, i < 144 → oce i = ceY i) → (∀ t, t < 3 → oma t = maY t) → post (opY, soY, coY, ouY, kyY, liY, diY, cmY, rrY, wiY, ceY, oce, bceY, maY, oma, bmaY, unY, rqY, bunY, brqY, rfY, acY, brfY, bacY, srY, csY, ccY, cpY, cwY, okY, osY, ocY, koY, ciY, kfY, cbY, goY, rsY, geY, keY)) : wpY_save post (opY, soY, coY, ouY, kyY, liY, diY, cmY, rrY, wiY, ceY, oceY, bceY, maY, omaY, bmaY, unY, rqY, bunY, brqY, rfY, acY, brfY, bacY, srY, csY, ccY, cpY, cwY, okY, osY, ocY, koY, ciY, kfY, cbY, goY, rsY, geY, keY) := by
  refine loop_0 (fun n i s => wY_save_2 post opY soY coY ouY kyY liY diY cmY rrY wiY n (nI i) ceY s bceY maY omaY bmaY unY rqY bunY brqY rfY acY brfY bacY srY csY ccY cpY cwY okY osY ocY koY ciY kfY cbY goY rsY geY keY) (fun i s => ∀ j, j < i → s j = ceY j) 144 oceY lt_0 ?_ ?_
  · intro n s hI
    refine br_t (by decide) (loop_0 (fun n i s' => wY_save_29 post opY soY coY ouY kyY liY diY cmY rrY wiY n (nI i) ceY s bceY maY s' bmaY unY rqY bunY brqY rfY acY brfY bacY srY csY ccY cpY cwY okY osY ocY koY ciY kfY cbY goY rsY geY keY) (fun i s' => ∀ j, j < i → s' j = maY j) 3 omaY lt_0 ?_ ?_)
    · intro n s' hI'
      exact br_t (by decide) (h s s' hI hI')
    · intro n i s' hi hI' hn
      exact br_f (nI_ge (b := 3) hi (by decide)) ⟨vp_in_nI hi (by decide), vp_in_nI hi (by decide), nm_e (nm_r (nI_1 i) (hn _ (ui_step (by omega) hI')))⟩
  · intro n i s hi hI hn
    exact br_f (nI_ge (b := 144) hi (by decide)) ⟨vp_in_nI hi (by decide), vp_in_nI hi (by decide), nm_e (nm_r (nI_1 i) (hn _ (ul_step (by omega) hI)))⟩
theorem ym_settle {post : Int32 → SY → Prop} {N' : Nat → Nat} {D' : Nat → Nat → Int64} (hC : db_yc N' D' ceY maY) (hk : db_k U R T A unY rqY rfY acY) {p : Int32} (h1 : (∀ c, c < 9 → fi_t N' D' (U c) (R c) (T c) c) → post p (opY, soY, coY, ouY, kyY, liY, diY, cmY, rrY, wiY, ceY, oceY, bceY, maY, omaY, bmaY, unY, rqY, bunY, brqY, rfY, acY, brfY, bacY, srY, csY, ccY, cpY, cwY, okY, osY, ocY, koY, ciY, kfY, cbY, goY, rsY, geY, keY)) (h0 : (¬ ∀ c, c < 9 → fi_t N' D' (U c) (R c) (T c) c) → ∀ ce ma, (∀ i, i < 144 → ce i = oceY i) → (∀ t, t < 3 → ma t = omaY t) → post (-3) (opY, soY, coY, ouY, kyY, liY, diY, cmY, rrY, wiY, ce, oceY, bceY, ma, omaY, bmaY, unY, rqY, bunY, brqY, rfY, acY, brfY, bacY, srY, csY, ccY, cpY, cwY, okY, osY, ocY, koY, ciY, kfY, cbY, goY, rsY, geY, keY)) : wpY_settle post (opY, soY, coY, ouY, kyY, liY, diY, cmY, rrY, wiY, ceY, oceY, bceY, maY, omaY, bmaY, unY, rqY, bunY, brqY, rfY, acY, brfY, bacY, srY, csY, ccY, cpY, cwY, okY, osY, ocY, koY, ciY, kfY, cbY, goY, rsY, geY, keY) p := by
  unfold wpY_settle
  dsimp only
  refine ym_allFit hC hk (fun hf => ?_) (fun hf => ?_)
  · exact br_f (by decide) (h1 hf)
  · refine br_t rfl ?_
    refine loop_0 (fun n i s => wY_settle_11 post opY soY coY ouY kyY liY diY cmY rrY wiY n (nI i) s oceY bceY maY omaY bmaY unY rqY bunY brqY rfY acY brfY bacY srY csY ccY cpY cwY okY osY ocY koY ciY kfY cbY goY rsY geY keY) (fun i s => ∀ j, j < i → s j = oceY j) 144 ceY lt_0 ?_ ?_
    · intro n s hI
      refine br_t (by decide) (loop_0 (fun n i s' => wY_settle_38 post opY soY coY ouY kyY liY diY cmY rrY wiY n (nI i) s oceY bceY s' omaY bmaY unY rqY bunY brqY rfY acY brfY bacY srY csY ccY cpY cwY okY osY ocY koY ciY kfY cbY goY rsY geY keY) (fun i s' => ∀ j, j < i → s' j = omaY j) 3 maY lt_0 ?_ ?_)
      · intro n s' hI'
        exact br_t (by decide) (h0 hf s s' hI hI')
      · intro n i s' hi hI' hn
        exact br_f (nI_ge (b := 3) hi (by decide)) ⟨vp_in_nI hi (by decide), vp_in_nI hi (by decide), nm_e (nm_r (nI_1 i) (hn _ (ui_step (by omega) hI')))⟩
    · intro n i s hi hI hn
      exact br_f (nI_ge (b := 144) hi (by decide)) ⟨vp_in_nI hi (by decide), vp_in_nI hi (by decide), nm_e (nm_r (nI_1 i) (hn _ (ul_step (by omega) hI)))⟩
/-! the inserted row -/
def in_v (p1 p2 p3 : Int32) (m : Nat) (c : Nat) : Int64 :=
  if c = 0 then (if m % 2 = 0 then p1.toInt64 else nu_l) else if c = 1 then (if m / 2 % 2 = 0 then p2.toInt64 else nu_l) else (if m / 4 % 2 = 0 then p3.toInt64 else nu_l)
def in_D (N : Nat → Nat) (D : Nat → Nat → Int64) (t : Nat) (w : Nat → Int64) : Nat → Nat → Int64 := fun c r => if c / 3 = t ∧ r = N t then w (c % 3) else D c r
theorem br_if {α : Type} (P : α → Prop) {c d : Prop} [Decidable d] {x y : α} (e : c ↔ d) (h : P (if d then x else y)) : (c → P x) ∧ (¬ c → P y) := by
  by_cases hd : d
  · rw [if_pos hd] at h
    exact br_t (e.mpr hd) h
  · rw [if_neg hd] at h
    exact br_f (fun z => hd (e.mp z)) h
theorem br_ifn {α : Type} (P : α → Prop) {c d : Prop} [Decidable d] {x y : α} (e : ¬ c ↔ d) (h : P (if d then x else y)) : (c → P y) ∧ (¬ c → P x) := by
  by_cases hd : d
  · rw [if_pos hd] at h
    exact br_f (e.mpr hd) h
  · rw [if_neg hd] at h
    exact ⟨fun _ => h, fun z => absurd (e.mp z) hd⟩
theorem nb_x : ∀ m, m < 8 → ((nI m &&& 1) = 0 ↔ m % 2 = 0) ∧ ((nI m &&& 2) = 0 ↔ m / 2 % 2 = 0) ∧ ((nI m &&& 4) = 0 ↔ m / 4 % 2 = 0) := by decide +kernel
theorem nb_y : ∀ m, m < 8 → (¬ (nI m &&& 1) = 1 ↔ m % 2 = 0) ∧ (¬ ((nI m >>> ((1 : Int32) &&& 31)) &&& 1) = 1 ↔ m / 2 % 2 = 0) ∧ (¬ ((nI m >>> ((2 : Int32) &&& 31)) &&& 1) = 1 ↔ m / 4 % 2 = 0) := by decide +kernel
theorem dx_ins {t : Nat} (ht : t < 3) (hN : N t < 16) {ce : Nat → Int64} {rc : Nat → Int32} (h : db_xc N D ce rc) (w : Nat → Int64) : db_xc (ex_n N t (N t + 1)) (in_D N D t w) (vp_updL (vp_updL (vp_updL ce (16 * (3 * t) + N t) (w 0)) (16 * (3 * t + 1) + N t) (w 1)) (16 * (3 * t + 2) + N t) (w 2)) (upd rc t (nI (N t + 1))) := by
  refine ⟨fun q hq => ?_, fun c r hc hr => ?_⟩
  · by_cases e : q = t
    · subst e
      rw [pk_us, ex_s]
      exact ⟨rfl, by omega⟩
    · rw [pk_un e, show ex_n N t (N t + 1) q = N q from if_neg e]
      exact h.1 q hq
  · have h16 := (h.1 (c / 3) (by omega)).2
    by_cases e : c / 3 = t
    · rw [e, ex_s] at hr
      by_cases e2 : r = N t
      · subst e2
        rw [show in_D N D t w c (N t) = w (c % 3) from if_pos ⟨e, rfl⟩]
        have h3 : c = 3 * t ∨ c = 3 * t + 1 ∨ c = 3 * t + 2 := by omega
        rcases h3 with z | z | z
        · subst z
          rw [pk_uLn (by omega), pk_uLn (by omega), pk_uLs, show 3 * t % 3 = 0 by omega]
        · subst z
          rw [pk_uLn (by omega), pk_uLs, show (3 * t + 1) % 3 = 1 by omega]
        · subst z
          rw [pk_uLs, show (3 * t + 2) % 3 = 2 by omega]
      · rw [show in_D N D t w c r = D c r from if_neg (fun z => e2 z.2), pk_uLn (by omega), pk_uLn (by omega), pk_uLn (by omega)]
        exact h.2 c r hc (by rw [e]; omega)
    · rw [show ex_n N t (N t + 1) (c / 3) = N (c / 3) from if_neg e] at hr
      rw [show in_D N D t w c r = D c r from if_neg (fun z => e z.1), pk_uLn (by omega), pk_uLn (by omega), pk_uLn (by omega)]
      exact h.2 c r hc hr
theorem dx_ins0 {t : Nat} (ht : t < 3) (hN : N t < 16) {ce : Nat → Int64} {rc : Nat → Int32} (h : db_xc N D ce rc) (w0 w1 w2 : Int64) : db_xc N D (vp_updL (vp_updL (vp_updL ce (16 * (3 * t) + N t) w0) (16 * (3 * t + 1) + N t) w1) (16 * (3 * t + 2) + N t) w2) (upd (upd rc t (nI (N t + 1))) t (nI (N t))) := by
  refine ⟨fun q hq => ?_, fun c r hc hr => ?_⟩
  · by_cases e : q = t
    · subst e
      rw [pk_us]
      exact ⟨rfl, by omega⟩
    · rw [pk_un e, pk_un e]
      exact h.1 q hq
  · have h16 := (h.1 (c / 3) (by omega)).2
    have hne : c / 3 = t → r ≠ N t := by
      intro e
      rw [e] at hr
      omega
    have a0 : ∀ d, d < 3 → 16 * c + r ≠ 16 * (3 * t + d) + N t := by
      intro d hd z
      have : c = 3 * t + d := by omega
      exact hne (by omega) (by omega)
    rw [pk_uLn (a0 2 (by decide)), pk_uLn (a0 1 (by decide)), pk_uLn (show 16 * c + r ≠ 16 * (3 * t) + N t from a0 0 (by decide))]
    exact h.2 c r hc hr
theorem dy_ins {t : Nat} (ht : t < 3) (hN : N t < 16) {ce : Nat → Int64} {ma : Nat → Int32} (h : db_yc N D ce ma) (w : Nat → Int64) : db_yc (ex_n N t (N t + 1)) (in_D N D t w) (vp_updL (vp_updL (vp_updL ce (48 * t + 3 * N t) (w 0)) (48 * t + 3 * N t + 1) (w 1)) (48 * t + 3 * N t + 2) (w 2)) (upd ma t (nI (N t + 1))) := by
  refine ⟨fun q hq => ?_, fun c r hc hr => ?_⟩
  · by_cases e : q = t
    · subst e
      rw [pk_us, ex_s]
      exact ⟨rfl, by omega⟩
    · rw [pk_un e, show ex_n N t (N t + 1) q = N q from if_neg e]
      exact h.1 q hq
  · have h16 := (h.1 (c / 3) (by omega)).2
    by_cases e : c / 3 = t
    · rw [e, ex_s] at hr
      rw [e]
      by_cases e2 : r = N t
      · subst e2
        rw [show in_D N D t w c (N t) = w (c % 3) from if_pos ⟨e, rfl⟩]
        have h3 : c % 3 = 0 ∨ c % 3 = 1 ∨ c % 3 = 2 := by omega
        rcases h3 with z | z | z
        · rw [z, pk_uLn (by omega), pk_uLn (by omega)]
          exact pk_uLs
        · rw [z, pk_uLn (by omega)]
          exact pk_uLs
        · rw [z]
          exact pk_uLs
      · rw [show in_D N D t w c r = D c r from if_neg (fun z => e2 z.2), pk_uLn (by omega), pk_uLn (by omega), pk_uLn (by omega)]
        have := h.2 c r hc (by rw [e]; omega)
        rw [e] at this
        exact this
    · rw [show ex_n N t (N t + 1) (c / 3) = N (c / 3) from if_neg e] at hr
      have hr16 : r < 16 := by omega
      have a0 : ∀ d, d < 3 → 48 * (c / 3) + 3 * r + c % 3 ≠ 48 * t + 3 * N t + d := by
        intro d hd z
        exact e (by omega)
      rw [show in_D N D t w c r = D c r from if_neg (fun z => e z.1), pk_uLn (a0 2 (by decide)), pk_uLn (a0 1 (by decide)), pk_uLn (show 48 * (c / 3) + 3 * r + c % 3 ≠ 48 * t + 3 * N t from a0 0 (by decide))]
      exact h.2 c r hc hr
end
end
section
section
variable {toX soX coX ouX kyX moX diX rrX rwX : Int32} {ceX sceX fvX ovX rsX : Nat → Int64} {rcX unX rqX taX acX srcX sunX srqX staX sacX stX cfX cpX chX csX okX ocX koX kfX cbX mkX rtX : Nat → Int32} {opY soY coY ouY kyY liY diY cmY rrY wiY : Int32} {ceY oceY bceY rsY : Nat → Int64} {maY omaY bmaY unY rqY bunY brqY rfY acY brfY bacY srY csY ccY cpY cwY okY osY ocY koY ciY kfY cbY goY geY keY : Nat → Int32} {N : Nat → Nat} {D : Nat → Nat → Int64} {U R : Nat → Bool} {T A : Nat → Nat}
theorem xm_ins132 {post : Int32 → SX → Prop} (hk : db_k U R T A unX rqX taX acX) {N' : Nat → Nat} {D' : Nat → Nat → Int64} {t i z1 : Nat} {z0 : Int64} (ht : t < 3) (hz : z1 < 144) (hC : db_xc N' D' (vp_updL ceX z1 z0) (upd rcX t (nI (i + 1))))
    (h1 : (∀ d, d < 3 → fi_t N' D' (U (3 * t + d)) (R (3 * t + d)) (T (3 * t + d)) (3 * t + d)) → post (nI (i + 1)) (toX, soX, coX, ouX, kyX, moX, diX, rrX, rwX, vp_updL ceX z1 z0, upd rcX t (nI (i + 1)), unX, rqX, taX, acX, sceX, srcX, sunX, srqX, staX, sacX, stX, cfX, cpX, chX, csX, okX, ocX, koX, kfX, cbX, mkX, fvX, ovX, rsX, rtX))
    (h0 : (¬ ∀ d, d < 3 → fi_t N' D' (U (3 * t + d)) (R (3 * t + d)) (T (3 * t + d)) (3 * t + d)) → post (-3) (toX, soX, coX, ouX, kyX, moX, diX, rrX, rwX, vp_updL ceX z1 z0, upd (upd rcX t (nI (i + 1))) t (nI i), unX, rqX, taX, acX, sceX, srcX, sunX, srqX, staX, sacX, stX, cfX, cpX, chX, csX, okX, ocX, koX, kfX, cbX, mkX, fvX, ovX, rsX, rtX)) : wX_insert_132 post (nI t) (nI i) (nI (3 * t)) z0 (nI z1) toX soX coX ouX kyX moX diX rrX rwX ceX rcX unX rqX taX acX sceX srcX sunX srqX staX sacX stX cfX cpX chX csX okX ocX koX kfX cbX mkX fvX ovX rsX rtX := by
  have et : (nI t).toNatClampNeg = t := nI_clamp (by omega)
  have hi3 : vp_in (nI t) 3 := vp_in_nI ht (by decide)
  refine ⟨vp_in_nI hz (by decide), nm_r (congrArg (fun q => vp_updL ceX q z0) (nI_clamp (by omega))) ⟨hi3, nm_r (e' := upd rcX t (nI (i + 1))) (by rw [et, nI_1]) ?_⟩⟩
  refine xm_fits hC hk (c := 3 * t) (by omega) (fun f0 => br_f (by decide) ?_) (fun f0 => br_t rfl ⟨hi3, nm_r (congrArg (fun q => upd _ q (nI i)) et) (h0 (fun z => f0 (z 0 (by decide))))⟩)
  rw [show nI (3 * t) + 1 = nI (3 * t + 1) from nI_1 _]
  refine xm_fits hC hk (c := 3 * t + 1) (by omega) (fun f1 => br_f (by decide) ?_) (fun f1 => br_t rfl ⟨hi3, nm_r (congrArg (fun q => upd _ q (nI i)) et) (h0 (fun z => f1 (z 1 (by decide))))⟩)
  rw [show nI (3 * t) + 2 = nI (3 * t + 2) from nI_add _ 2]
  refine xm_fits hC hk (c := 3 * t + 2) (by omega) (fun f2 => br_f (by decide) ?_) (fun f2 => br_t rfl ⟨hi3, nm_r (congrArg (fun q => upd _ q (nI i)) et) (h0 (fun z => f2 (z 2 (by decide))))⟩)
  rw [nI_1]
  refine h1 (fun d hd => ?_)
  have : d = 0 ∨ d = 1 ∨ d = 2 := by omega
  rcases this with z | z | z
  · subst z; exact f0
  · subst z; exact f1
  · subst z; exact f2
theorem xv_insert {post : Int32 → SX → Prop} (hC : db_xc N D ceX rcX) (hk : db_k U R T A unX rqX taX acX) {p0 p1 p2 p3 p4 : Int32}
    (hb : ((∀ j, j < 3 → p0 ≠ nI j) ∨ (∀ j, j < 8 → p4 ≠ nI j)) → post (-1) (toX, soX, coX, ouX, kyX, moX, diX, rrX, rwX, ceX, rcX, unX, rqX, taX, acX, sceX, srcX, sunX, srqX, staX, sacX, stX, cfX, cpX, chX, csX, okX, ocX, koX, kfX, cbX, mkX, fvX, ovX, rsX, rtX))
    (hf : ∀ t m, t < 3 → m < 8 → p0 = nI t → p4 = nI m → N t = 16 → post (-2) (toX, soX, coX, ouX, kyX, moX, diX, rrX, rwX, ceX, rcX, unX, rqX, taX, acX, sceX, srcX, sunX, srqX, staX, sacX, stX, cfX, cpX, chX, csX, okX, ocX, koX, kfX, cbX, mkX, fvX, ovX, rsX, rtX))
    (hi : ∀ t m, t < 3 → m < 8 → p0 = nI t → p4 = nI m → N t < 16 → (∀ d, d < 3 → fi_t (ex_n N t (N t + 1)) (in_D N D t (in_v p1 p2 p3 m)) (U (3 * t + d)) (R (3 * t + d)) (T (3 * t + d)) (3 * t + d)) → ∀ ce rc, db_xc (ex_n N t (N t + 1)) (in_D N D t (in_v p1 p2 p3 m)) ce rc → post (nI (N t + 1)) (toX, soX, coX, ouX, kyX, moX, diX, rrX, rwX, ce, rc, unX, rqX, taX, acX, sceX, srcX, sunX, srqX, staX, sacX, stX, cfX, cpX, chX, csX, okX, ocX, koX, kfX, cbX, mkX, fvX, ovX, rsX, rtX))
    (hv : ∀ t m, t < 3 → m < 8 → p0 = nI t → p4 = nI m → N t < 16 → (¬ ∀ d, d < 3 → fi_t (ex_n N t (N t + 1)) (in_D N D t (in_v p1 p2 p3 m)) (U (3 * t + d)) (R (3 * t + d)) (T (3 * t + d)) (3 * t + d)) → ∀ ce rc, db_xc N D ce rc → post (-3) (toX, soX, coX, ouX, kyX, moX, diX, rrX, rwX, ce, rc, unX, rqX, taX, acX, sceX, srcX, sunX, srqX, staX, sacX, stX, cfX, cpX, chX, csX, okX, ocX, koX, kfX, cbX, mkX, fvX, ovX, rsX, rtX)) : wpX_insert post (toX, soX, coX, ouX, kyX, moX, diX, rrX, rwX, ceX, rcX, unX, rqX, taX, acX, sceX, srcX, sunX, srqX, staX, sacX, stX, cfX, cpX, chX, csX, okX, ocX, koX, kfX, cbX, mkX, fvX, ovX, rsX, rtX) p0 p1 p2 p3 p4 := by
  unfold wpX_insert
  dsimp only
  refine xm_out p0 (fun hout => br_f (by decide) (hb (Or.inl hout))) (fun t ht e0 => br_t rfl (rg_le 7 (fun hout => hb (Or.inr hout)) (fun m hm e4 => ?_)))
  obtain ⟨hn, h16⟩ := hC.1 t ht
  have hf' := hf t m ht hm e0 e4
  have hi' := hi t m ht hm e0 e4
  have hv' := hv t m ht hm e0 e4
  subst e0 e4
  refine ⟨vp_in_nI ht (by decide), nm_r (e' := nI (N t)) (by rw [nI_clamp (by omega)]; exact hn) (pk_lt (N t) 16 (fun h => ?_) (fun h => hf' (by omega)))⟩
  refine nm_r (nz_3m t) ?_
  rw [nz_16]
  obtain ⟨b0, b1, b2⟩ := nb_x m hm
  refine br_if (fun z => wX_insert_71 post (nI t) p2 p3 (nI m) (nI (N t)) (nI (3 * t)) z (nI (16 * (3 * t) + N t)) toX soX coX ouX kyX moX diX rrX rwX ceX rcX unX rqX taX acX sceX srcX sunX srqX staX sacX stX cfX cpX chX csX okX ocX koX kfX cbX mkX fvX ovX rsX rtX) b0 ?_
  refine ⟨vp_in_nI (by omega) (by decide), nm_r (congrArg (fun q => vp_updL ceX q _) (nI_clamp (by omega))) ?_⟩
  rw [show nI (3 * t) + 1 = nI (3 * t + 1) from nI_1 _, nz_16]
  refine br_if (fun z => wX_insert_101 post (nI t) p3 (nI m) (nI (N t)) (nI (3 * t)) z (nI (16 * (3 * t + 1) + N t)) toX soX coX ouX kyX moX diX rrX rwX (vp_updL ceX (16 * (3 * t) + N t) (if m % 2 = 0 then p1.toInt64 else nu_l)) rcX unX rqX taX acX sceX srcX sunX srqX staX sacX stX cfX cpX chX csX okX ocX koX kfX cbX mkX fvX ovX rsX rtX) b1 ?_
  refine ⟨vp_in_nI (by omega) (by decide), nm_r (congrArg (fun q => vp_updL _ q _) (nI_clamp (by omega))) ?_⟩
  rw [show nI (3 * t) + 2 = nI (3 * t + 2) from nI_add _ 2, nz_16]
  refine br_if (fun z => wX_insert_132 post (nI t) (nI (N t)) (nI (3 * t)) z (nI (16 * (3 * t + 2) + N t)) toX soX coX ouX kyX moX diX rrX rwX (vp_updL (vp_updL ceX (16 * (3 * t) + N t) (if m % 2 = 0 then p1.toInt64 else nu_l)) (16 * (3 * t + 1) + N t) (if m / 2 % 2 = 0 then p2.toInt64 else nu_l)) rcX unX rqX taX acX sceX srcX sunX srqX staX sacX stX cfX cpX chX csX okX ocX koX kfX cbX mkX fvX ovX rsX rtX) b2 ?_
  exact xm_ins132 hk ht (by omega) (dx_ins ht h hC (in_v p1 p2 p3 m)) (fun f => hi' h f _ _ (dx_ins ht h hC (in_v p1 p2 p3 m))) (fun f => hv' h f _ _ (dx_ins0 ht h hC _ _ _))
theorem yv_insert {post : Int32 → SY → Prop} (hC : db_yc N D ceY maY) (hk : db_k U R T A unY rqY rfY acY) {p0 p1 p2 p3 p4 : Int32}
    (hb : ((∀ j, j < 3 → p0 ≠ nI j) ∨ (∀ j, j < 8 → p4 ≠ nI j)) → post (-1) (opY, soY, coY, ouY, kyY, liY, diY, cmY, rrY, wiY, ceY, oceY, bceY, maY, omaY, bmaY, unY, rqY, bunY, brqY, rfY, acY, brfY, bacY, srY, csY, ccY, cpY, cwY, okY, osY, ocY, koY, ciY, kfY, cbY, goY, rsY, geY, keY))
    (hf : ∀ t m, t < 3 → m < 8 → p0 = nI t → p4 = nI m → N t = 16 → post (-2) (opY, soY, coY, ouY, kyY, liY, diY, cmY, rrY, wiY, ceY, oceY, bceY, maY, omaY, bmaY, unY, rqY, bunY, brqY, rfY, acY, brfY, bacY, srY, csY, ccY, cpY, cwY, okY, osY, ocY, koY, ciY, kfY, cbY, goY, rsY, geY, keY))
    (hi : ∀ t m, t < 3 → m < 8 → p0 = nI t → p4 = nI m → N t < 16 → (∀ c, c < 9 → fi_t (ex_n N t (N t + 1)) (in_D N D t (in_v p1 p2 p3 m)) (U c) (R c) (T c) c) → ∀ ce ma oce oma, db_yc (ex_n N t (N t + 1)) (in_D N D t (in_v p1 p2 p3 m)) ce ma → post (nI (N t + 1)) (opY, soY, coY, ouY, kyY, liY, diY, cmY, rrY, wiY, ce, oce, bceY, ma, oma, bmaY, unY, rqY, bunY, brqY, rfY, acY, brfY, bacY, srY, csY, ccY, cpY, cwY, okY, osY, ocY, koY, ciY, kfY, cbY, goY, rsY, geY, keY))
    (hv : ∀ t m, t < 3 → m < 8 → p0 = nI t → p4 = nI m → N t < 16 → (¬ ∀ c, c < 9 → fi_t (ex_n N t (N t + 1)) (in_D N D t (in_v p1 p2 p3 m)) (U c) (R c) (T c) c) → ∀ ce ma oce oma, db_yc N D ce ma → post (-3) (opY, soY, coY, ouY, kyY, liY, diY, cmY, rrY, wiY, ce, oce, bceY, ma, oma, bmaY, unY, rqY, bunY, brqY, rfY, acY, brfY, bacY, srY, csY, ccY, cpY, cwY, okY, osY, ocY, koY, ciY, kfY, cbY, goY, rsY, geY, keY)) : wpY_insert post (opY, soY, coY, ouY, kyY, liY, diY, cmY, rrY, wiY, ceY, oceY, bceY, maY, omaY, bmaY, unY, rqY, bunY, brqY, rfY, acY, brfY, bacY, srY, csY, ccY, cpY, cwY, okY, osY, ocY, koY, ciY, kfY, cbY, goY, rsY, geY, keY) p0 p1 p2 p3 p4 := by
  unfold wpY_insert
  dsimp only
  refine ym_within (n := 3) (by decide) (fun hout => br_t rfl (hb (Or.inl hout))) (fun t ht e0 => br_f (by decide) (ym_within (n := 8) (by decide) (fun hout => br_t rfl (hb (Or.inr hout))) (fun m hm e4 => br_f (by decide) ?_)))
  obtain ⟨hn, h16⟩ := hC.1 t ht
  have hf' := hf t m ht hm e0 e4
  have hi' := hi t m ht hm e0 e4
  have hv' := hv t m ht hm e0 e4
  subst e0 e4
  have hi3 : vp_in (nI t) 3 := vp_in_nI ht (by decide)
  refine ⟨hi3, ?_⟩
  rw [nI_clamp (show t < 2 ^ 31 by omega), hn]
  refine pk_eq (N t) 16 (fun h => hf' h) (fun h => ym_save (fun oce oma h1 h2 => ⟨hi3, ?_⟩))
  have hl : N t < 16 := by omega
  dsimp only
  rw [hn, nz_3m, nz_48, nI_add]
  refine nm_e ?_
  obtain ⟨b0, b1, b2⟩ := nb_y m hm
  refine br_ifn (fun z => wY_insert_75 post (nI t) p2 p3 (nI m) (nI (48 * t + 3 * N t)) z (nI (48 * t + 3 * N t)) opY soY coY ouY kyY liY diY cmY rrY wiY ceY oce bceY maY oma bmaY unY rqY bunY brqY rfY acY brfY bacY srY csY ccY cpY cwY okY osY ocY koY ciY kfY cbY goY rsY geY keY) b0 ?_
  refine ⟨vp_in_nI (by omega) (by decide), nm_r (congrArg (fun q => vp_updL ceY q _) (nI_clamp (by omega))) ?_⟩
  rw [nI_1]
  refine br_ifn (fun z => wY_insert_102 post (nI t) p3 (nI m) (nI (48 * t + 3 * N t)) z (nI (48 * t + 3 * N t + 1)) opY soY coY ouY kyY liY diY cmY rrY wiY (vp_updL ceY (48 * t + 3 * N t) (if m % 2 = 0 then p1.toInt64 else nu_l)) oce bceY maY oma bmaY unY rqY bunY brqY rfY acY brfY bacY srY csY ccY cpY cwY okY osY ocY koY ciY kfY cbY goY rsY geY keY) b1 ?_
  refine ⟨vp_in_nI (by omega) (by decide), nm_r (congrArg (fun q => vp_updL _ q _) (nI_clamp (by omega))) ?_⟩
  rw [show nI (48 * t + 3 * N t) + 2 = nI (48 * t + 3 * N t + 2) from nI_add _ 2]
  refine br_ifn (fun z => wY_insert_130 post (nI t) z (nI (48 * t + 3 * N t + 2)) opY soY coY ouY kyY liY diY cmY rrY wiY (vp_updL (vp_updL ceY (48 * t + 3 * N t) (if m % 2 = 0 then p1.toInt64 else nu_l)) (48 * t + 3 * N t + 1) (if m / 2 % 2 = 0 then p2.toInt64 else nu_l)) oce bceY maY oma bmaY unY rqY bunY brqY rfY acY brfY bacY srY csY ccY cpY cwY okY osY ocY koY ciY kfY cbY goY rsY geY keY) b2 ?_
  refine ⟨vp_in_nI (by omega) (by decide), nm_r (congrArg (fun q => vp_updL _ q _) (nI_clamp (by omega))) ⟨hi3, hi3, nm_r (e' := upd maY t (nI (N t + 1))) (by rw [nI_clamp (by omega), hn, nI_1]) ⟨hi3, ?_⟩⟩⟩
  rw [show upd maY t (nI (N t + 1)) (nI t).toNatClampNeg = nI (N t + 1) by rw [nI_clamp (by omega)]; exact pk_us]
  have hC' := dy_ins ht hl hC (in_v p1 p2 p3 m)
  refine ym_settle hC' hk (fun f => hi' hl f _ _ _ _ hC') (fun f ce ma g1 g2 => hv' hl f _ _ _ _ (dy_ext hC (fun i hi => (g1 i hi).trans (h1 i hi)) (fun i hi => (g2 i hi).trans (h2 i hi))))
theorem in_oth {t : Nat} {w : Nat → Int64} (hK : db_K N D U R T A) {c : Nat} (hc : c < 9) (hne : c / 3 ≠ t) : fi_t (ex_n N t (N t + 1)) (in_D N D t w) (U c) (R c) (T c) c := by
  obtain ⟨_, hT, f1, f2, f3⟩ := hK.1 c hc
  have en : ex_n N t (N t + 1) (c / 3) = N (c / 3) := if_neg hne
  have ed : ∀ r, in_D N D t w c r = D c r := fun r => if_neg (fun z => hne z.1)
  refine ⟨fun hu i j hj hi hv => ?_, fun hr i hi => ?_, fun ht i hi hv => ?_⟩
  · rw [en] at hi
    rw [ed] at hv ⊢
    rw [ed]
    exact f1 hu i j hj hi hv
  · rw [en] at hi
    rw [ed]
    exact f2 hr i hi
  · rw [en] at hi
    rw [ed] at hv ⊢
    obtain ⟨j, hj, e⟩ := f3 ht i hi hv
    by_cases e2 : T c / 3 = t
    · refine ⟨j, ?_, ?_⟩
      · rw [e2, ex_s]
        rw [e2] at hj
        omega
      · rw [show in_D N D t w (T c) j = D (T c) j from if_neg (fun z => by have := z.2; rw [e2] at hj; omega)]
        exact e
    · refine ⟨j, ?_, ?_⟩
      · rw [show ex_n N t (N t + 1) (T c / 3) = N (T c / 3) from if_neg e2]
        exact hj
      · rw [show in_D N D t w (T c) j = D (T c) j from if_neg (fun z => e2 z.1)]
        exact e
theorem in_all {t : Nat} {w : Nat → Int64} (hK : db_K N D U R T A) (ht : t < 3) : (∀ d, d < 3 → fi_t (ex_n N t (N t + 1)) (in_D N D t w) (U (3 * t + d)) (R (3 * t + d)) (T (3 * t + d)) (3 * t + d)) ↔ ∀ c, c < 9 → fi_t (ex_n N t (N t + 1)) (in_D N D t w) (U c) (R c) (T c) c := by
  constructor
  · intro h c hc
    by_cases e : c / 3 = t
    · have : c = 3 * t + c % 3 := by omega
      rw [this]
      exact h (c % 3) (by omega)
    · exact in_oth hK hc e
  · intro h d hd
    exact h _ (by omega)
theorem in_val (p1 p2 p3 : Int32) (m c : Nat) : in_v p1 p2 p3 m c = nu_l ∨ ∃ z : Int32, in_v p1 p2 p3 m c = z.toInt64 := by
  unfold in_v
  split
  · split
    · exact Or.inr ⟨_, rfl⟩
    · exact Or.inl rfl
  · split
    · split
      · exact Or.inr ⟨_, rfl⟩
      · exact Or.inl rfl
    · split
      · exact Or.inr ⟨_, rfl⟩
      · exact Or.inl rfl
theorem in_K {t m : Nat} {p1 p2 p3 : Int32} (hK : db_K N D U R T A) (h : ∀ c, c < 9 → fi_t (ex_n N t (N t + 1)) (in_D N D t (in_v p1 p2 p3 m)) (U c) (R c) (T c) c) : db_K (ex_n N t (N t + 1)) (in_D N D t (in_v p1 p2 p3 m)) U R T A := by
  refine ⟨fun c hc => ⟨(hK.1 c hc).1, (hK.1 c hc).2.1, h c hc⟩, fun c r hc hr => ?_⟩
  by_cases e : c / 3 = t ∧ r = N t
  · rw [show in_D N D t (in_v p1 p2 p3 m) c r = in_v p1 p2 p3 m (c % 3) from if_pos e]
    exact in_val _ _ _ _ _
  · rw [show in_D N D t (in_v p1 p2 p3 m) c r = D c r from if_neg e]
    refine hK.2 c r hc ?_
    by_cases e2 : c / 3 = t
    · rw [e2, ex_s] at hr
      have : r ≠ N t := fun z => e ⟨e2, z⟩
      rw [e2]
      omega
    · rw [show ex_n N t (N t + 1) (c / 3) = N (c / 3) from if_neg e2] at hr
      exact hr
end
theorem i_vc_insert {k : Nat} {u : SX} {v : SY} (I : i_Rel k u v) (hk : k + 6 ≤ 3072) (v1 : Int32) (v2 : Int32) (v3 : Int32) (v4 : Int32) (v5 : Int32) : wpX_insert (fun r u' => wpY_insert (fun r' v' => r' = r ∧ i_Rel (k + 6) u' v') v v1 v2 v3 v4 v5) u v1 v2 v3 v4 v5 := by
  rcases u with ⟨toX, soX, coX, ouX, kyX, moX, diX, rrX, rwX, ceX, rcX, unX, rqX, taX, acX, sceX, srcX, sunX, srqX, staX, sacX, stX, cfX, cpX, chX, csX, okX, ocX, koX, kfX, cbX, mkX, fvX, ovX, rsX, rtX⟩
  rcases v with ⟨opY, soY, coY, ouY, kyY, liY, diY, cmY, rrY, wiY, ceY, oceY, bceY, maY, omaY, bmaY, unY, rqY, bunY, brqY, rfY, acY, brfY, bacY, srY, csY, ccY, cpY, cwY, okY, osY, ocY, koY, ciY, kfY, cbY, goY, rsY, geY, keY⟩
  obtain ⟨hdb, hsv, hdr, hli, hre⟩ := I
  have keep := hdb
  obtain ⟨N, D, U, R, T, A, hx, hxk, hy, hyk, hK⟩ := hdb
  have un : ∀ {a b c d : Nat}, a < 3 → b < 8 → c < 3 → d < 8 → v1 = nI a → v5 = nI b → v1 = nI c → v5 = nI d → c = a ∧ d = b := by
    intro a b c d ha hb hc hd ea eb ec ed
    rw [ea, nI_eq (by omega) (by omega)] at ec
    rw [eb, nI_eq (by omega) (by omega)] at ed
    exact ⟨ec.symm, ed.symm⟩
  refine xv_insert hx hxk (fun hb => ?_) (fun t m ht hm et em hN => ?_) (fun t m ht hm et em hN f ce rc hx' => ?_) (fun t m ht hm et em hN f ce rc hx' => ?_)
  · have no : ∀ {P : Prop} {a b : Nat}, a < 3 → b < 8 → v1 = nI a → v5 = nI b → P := by
      intro P a b ha hb' ea eb
      rcases hb with z | z
      · exact rg_no z ha ea
      · exact rg_no z hb' eb
    exact yv_insert hy hyk (fun _ => ⟨rfl, keep, hsv, hdr, hli, hre⟩) (fun _ _ a b ea eb => no a b ea eb) (fun _ _ a b ea eb => no a b ea eb) (fun _ _ a b ea eb => no a b ea eb)
  · refine yv_insert hy hyk (fun hb => ?_) (fun _ _ _ _ _ _ _ => ⟨rfl, keep, hsv, hdr, hli, hre⟩) (fun t' m' ht' hm' et' em' hN' => ?_) (fun t' m' ht' hm' et' em' hN' => ?_)
    · rcases hb with z | z
      · exact rg_no z ht et
      · exact rg_no z hm em
    · obtain ⟨rfl, rfl⟩ := un ht hm ht' hm' et em et' em'
      omega
    · obtain ⟨rfl, rfl⟩ := un ht hm ht' hm' et em et' em'
      omega
  · refine yv_insert hy hyk (fun hb => ?_) (fun t' m' ht' hm' et' em' hN' => ?_) (fun t' m' ht' hm' et' em' hN' f' ce' ma' oce' oma' hy' => ?_) (fun t' m' ht' hm' et' em' hN' f' => ?_)
    · rcases hb with z | z
      · exact rg_no z ht et
      · exact rg_no z hm em
    · obtain ⟨rfl, rfl⟩ := un ht hm ht' hm' et em et' em'
      omega
    · obtain ⟨rfl, rfl⟩ := un ht hm ht' hm' et em et' em'
      exact ⟨rfl, ⟨_, _, U, R, T, A, hx', hxk, hy', hyk, in_K hK f'⟩, hsv, hdr, hli, hre⟩
    · obtain ⟨rfl, rfl⟩ := un ht hm ht' hm' et em et' em'
      exact absurd ((in_all hK ht).mp f) f'
  · refine yv_insert hy hyk (fun hb => ?_) (fun t' m' ht' hm' et' em' hN' => ?_) (fun t' m' ht' hm' et' em' hN' f' => ?_) (fun t' m' ht' hm' et' em' hN' f' ce' ma' oce' oma' hy' => ⟨rfl, ⟨N, D, U, R, T, A, hx', hxk, hy', hyk, hK⟩, hsv, hdr, hli, hre⟩)
    · rcases hb with z | z
      · exact rg_no z ht et
      · exact rg_no z hm em
    · obtain ⟨rfl, rfl⟩ := un ht hm ht' hm' et em et' em'
      omega
    · obtain ⟨rfl, rfl⟩ := un ht hm ht' hm' et em et' em'
      exact absurd ((in_all hK ht).mpr f') f
end
section
section
variable {toX soX coX ouX kyX moX diX rrX rwX : Int32} {ceX sceX fvX ovX rsX : Nat → Int64} {rcX unX rqX taX acX srcX sunX srqX staX sacX stX cfX cpX chX csX okX ocX koX kfX cbX mkX rtX : Nat → Int32} {opY soY coY ouY kyY liY diY cmY rrY wiY : Int32} {ceY oceY bceY rsY : Nat → Int64} {maY omaY bmaY unY rqY bunY brqY rfY acY brfY bacY srY csY ccY cpY cwY okY osY ocY koY ciY kfY cbY goY geY keY : Nat → Int32} {N : Nat → Nat} {D : Nat → Nat → Int64} {U R : Nat → Bool} {T A : Nat → Nat}
theorem dx_ext {ce ce' : Nat → Int64} {rc rc' : Nat → Int32} (h : db_xc N D ce rc) (h1 : ∀ i, i < 144 → ce' i = ce i) (h2 : ∀ t, t < 3 → rc' t = rc t) : db_xc N D ce' rc' := by
  refine ⟨fun t ht => ?_, fun c r hc hr => ?_⟩
  · rw [h2 t ht]
    exact h.1 t ht
  · have := (h.1 (c / 3) (by omega)).2
    rw [h1 _ (by omega)]
    exact h.2 c r hc hr
theorem dk_ext {un rq ta ac un' rq' ta' ac' : Nat → Int32} (h : db_k U R T A un rq ta ac) (h1 : ∀ c, c < 9 → un' c = vp_nar .boolean (un c) ∧ rq' c = vp_nar .boolean (rq c) ∧ ta' c = ta c ∧ ac' c = ac c) : db_k U R T A un' rq' ta' ac' := by
  intro c hc
  obtain ⟨a, b, d, e⟩ := h1 c hc
  obtain ⟨a', b', d', e'⟩ := h c hc
  rw [a, b, d, e, a', b', bo_nar, bo_nar]
  exact ⟨rfl, rfl, d', e'⟩
theorem k4_step {un rq ta ac : Nat → Int32} {s : (Nat → Int32) × (Nat → Int32) × (Nat → Int32) × (Nat → Int32)} {i : Nat} (hi : i < 2 ^ 31)
    (h : ∀ c, c < i → s.1 c = vp_nar .boolean (un c) ∧ s.2.1 c = vp_nar .boolean (rq c) ∧ s.2.2.1 c = ta c ∧ s.2.2.2 c = ac c) :
    ∀ c, c < i + 1 → upd s.1 (nI i).toNatClampNeg (vp_nar .boolean (un (nI i).toNatClampNeg)) c = vp_nar .boolean (un c) ∧ upd s.2.1 (nI i).toNatClampNeg (vp_nar .boolean (rq (nI i).toNatClampNeg)) c = vp_nar .boolean (rq c) ∧ upd s.2.2.1 (nI i).toNatClampNeg (ta (nI i).toNatClampNeg) c = ta c ∧ upd s.2.2.2 (nI i).toNatClampNeg (ac (nI i).toNatClampNeg) c = ac c := by
  rw [nI_clamp hi]
  refine lt_s (fun j hj => ?_) ⟨pk_us, pk_us, pk_us, pk_us⟩
  have hne : j ≠ i := by omega
  rw [pk_un hne, pk_un hne, pk_un hne, pk_un hne]
  exact h j hj
theorem xm_save {post : SX → Prop} (h : ∀ ce rc un rq ta ac, (∀ i, i < 144 → ce i = ceX i) → (∀ t, t < 3 → rc t = rcX t) → (∀ c, c < 9 → un c = vp_nar .boolean (unX c) ∧ rq c = vp_nar .boolean (rqX c) ∧ ta c = taX c ∧ ac c = acX c) → post (toX, soX, coX, ouX, kyX, moX, diX, rrX, rwX, ceX, rcX, unX, rqX, taX, acX, ce, rc, un, rq, ta, ac, stX, cfX, cpX, chX, csX, okX, ocX, koX, kfX, cbX, mkX, fvX, ovX, rsX, rtX)) : wpX_saveTables post (toX, soX, coX, ouX, kyX, moX, diX, rrX, rwX, ceX, rcX, unX, rqX, taX, acX, sceX, srcX, sunX, srqX, staX, sacX, stX, cfX, cpX, chX, csX, okX, ocX, koX, kfX, cbX, mkX, fvX, ovX, rsX, rtX) := by
  refine loop_0 (fun n i s => wX_saveTables_2 post toX soX coX ouX kyX moX diX rrX rwX n (nI i) ceX rcX unX rqX taX acX s srcX sunX srqX staX sacX stX cfX cpX chX csX okX ocX koX kfX cbX mkX fvX ovX rsX rtX) (fun i s => ∀ j, j < i → s j = ceX j) 144 sceX lt_0 ?_ ?_
  · intro n s1 hI1
    refine br_t (by decide) (loop_0 (fun n i s => wX_saveTables_29 post toX soX coX ouX kyX moX diX rrX rwX n (nI i) ceX rcX unX rqX taX acX s1 s sunX srqX staX sacX stX cfX cpX chX csX okX ocX koX kfX cbX mkX fvX ovX rsX rtX) (fun i s => ∀ j, j < i → s j = rcX j) 3 srcX lt_0 ?_ ?_)
    · intro n s2 hI2
      refine br_t (by decide) (loop_0 (fun n i (s : (Nat → Int32) × (Nat → Int32) × (Nat → Int32) × (Nat → Int32)) => wX_saveTables_54 post toX soX coX ouX kyX moX diX rrX rwX n (nI i) ceX rcX unX rqX taX acX s1 s2 s.1 s.2.1 s.2.2.1 s.2.2.2 stX cfX cpX chX csX okX ocX koX kfX cbX mkX fvX ovX rsX rtX) (fun i s => ∀ c, c < i → s.1 c = vp_nar .boolean (unX c) ∧ s.2.1 c = vp_nar .boolean (rqX c) ∧ s.2.2.1 c = taX c ∧ s.2.2.2 c = acX c) 9 (sunX, srqX, staX, sacX) lt_0 ?_ ?_)
      · intro n s hI
        exact br_t (by decide) (h _ _ _ _ _ _ hI1 hI2 hI)
      · intro n i s hi hI hn
        have v : vp_in (nI i) 9 := vp_in_nI hi (by decide)
        exact br_f (nI_ge (b := 9) hi (by decide)) ⟨v, v, nm_e ⟨v, v, nm_e ⟨v, v, nm_e ⟨v, v, nm_e (nm_r (nI_1 i) (hn (_, _, _, _) (k4_step (by omega) hI)))⟩⟩⟩⟩
    · intro n i s hi hI hn
      exact br_f (nI_ge (b := 3) hi (by decide)) ⟨vp_in_nI hi (by decide), vp_in_nI hi (by decide), nm_e (nm_r (nI_1 i) (hn _ (ui_step (by omega) hI)))⟩
  · intro n i s hi hI hn
    exact br_f (nI_ge (b := 144) hi (by decide)) ⟨vp_in_nI hi (by decide), vp_in_nI hi (by decide), nm_e (nm_r (nI_1 i) (hn _ (ul_step (by omega) hI)))⟩
theorem xm_restore {post : SX → Prop} (h : ∀ ce rc un rq ta ac, (∀ i, i < 144 → ce i = sceX i) → (∀ t, t < 3 → rc t = srcX t) → (∀ c, c < 9 → un c = vp_nar .boolean (sunX c) ∧ rq c = vp_nar .boolean (srqX c) ∧ ta c = staX c ∧ ac c = sacX c) → post (toX, soX, coX, ouX, kyX, moX, diX, rrX, rwX, ce, rc, un, rq, ta, ac, sceX, srcX, sunX, srqX, staX, sacX, stX, cfX, cpX, chX, csX, okX, ocX, koX, kfX, cbX, mkX, fvX, ovX, rsX, rtX)) : wpX_restoreTables post (toX, soX, coX, ouX, kyX, moX, diX, rrX, rwX, ceX, rcX, unX, rqX, taX, acX, sceX, srcX, sunX, srqX, staX, sacX, stX, cfX, cpX, chX, csX, okX, ocX, koX, kfX, cbX, mkX, fvX, ovX, rsX, rtX) := by
  refine loop_0 (fun n i s => wX_restoreTables_2 post toX soX coX ouX kyX moX diX rrX rwX n (nI i) s rcX unX rqX taX acX sceX srcX sunX srqX staX sacX stX cfX cpX chX csX okX ocX koX kfX cbX mkX fvX ovX rsX rtX) (fun i s => ∀ j, j < i → s j = sceX j) 144 ceX lt_0 ?_ ?_
  · intro n s1 hI1
    refine br_t (by decide) (loop_0 (fun n i s => wX_restoreTables_29 post toX soX coX ouX kyX moX diX rrX rwX n (nI i) s1 s unX rqX taX acX sceX srcX sunX srqX staX sacX stX cfX cpX chX csX okX ocX koX kfX cbX mkX fvX ovX rsX rtX) (fun i s => ∀ j, j < i → s j = srcX j) 3 rcX lt_0 ?_ ?_)
    · intro n s2 hI2
      refine br_t (by decide) (loop_0 (fun n i (s : (Nat → Int32) × (Nat → Int32) × (Nat → Int32) × (Nat → Int32)) => wX_restoreTables_54 post toX soX coX ouX kyX moX diX rrX rwX n (nI i) s1 s2 s.1 s.2.1 s.2.2.1 s.2.2.2 sceX srcX sunX srqX staX sacX stX cfX cpX chX csX okX ocX koX kfX cbX mkX fvX ovX rsX rtX) (fun i s => ∀ c, c < i → s.1 c = vp_nar .boolean (sunX c) ∧ s.2.1 c = vp_nar .boolean (srqX c) ∧ s.2.2.1 c = staX c ∧ s.2.2.2 c = sacX c) 9 (unX, rqX, taX, acX) lt_0 ?_ ?_)
      · intro n s hI
        exact br_t (by decide) (h _ _ _ _ _ _ hI1 hI2 hI)
      · intro n i s hi hI hn
        have v : vp_in (nI i) 9 := vp_in_nI hi (by decide)
        exact br_f (nI_ge (b := 9) hi (by decide)) ⟨v, v, nm_e ⟨v, v, nm_e ⟨v, v, nm_e ⟨v, v, nm_e (nm_r (nI_1 i) (hn (_, _, _, _) (k4_step (by omega) hI)))⟩⟩⟩⟩
    · intro n i s hi hI hn
      exact br_f (nI_ge (b := 3) hi (by decide)) ⟨vp_in_nI hi (by decide), vp_in_nI hi (by decide), nm_e (nm_r (nI_1 i) (hn _ (ui_step (by omega) hI)))⟩
  · intro n i s hi hI hn
    exact br_f (nI_ge (b := 144) hi (by decide)) ⟨vp_in_nI hi (by decide), vp_in_nI hi (by decide), nm_e (nm_r (nI_1 i) (hn _ (ul_step (by omega) hI)))⟩
theorem yv_begin {post : Int32 → SY → Prop} (h0 : ¬ opY = 0 → post 0 (opY, soY, coY, ouY, kyY, liY, diY, cmY, rrY, wiY, ceY, oceY, bceY, maY, omaY, bmaY, unY, rqY, bunY, brqY, rfY, acY, brfY, bacY, srY, csY, ccY, cpY, cwY, okY, osY, ocY, koY, ciY, kfY, cbY, goY, rsY, geY, keY)) (h : opY = 0 → ∀ ce ma un rq rf ac, (∀ i, i < 144 → ce i = ceY i) → (∀ t, t < 3 → ma t = maY t) → (∀ c, c < 9 → un c = vp_nar .boolean (unY c) ∧ rq c = vp_nar .boolean (rqY c) ∧ rf c = rfY c ∧ ac c = acY c) → post 1 (1, soY, coY, ouY, kyY, liY, diY, cmY, rrY, wiY, ceY, oceY, ce, maY, omaY, ma, unY, rqY, un, rq, rfY, acY, rf, ac, srY, csY, ccY, cpY, cwY, okY, osY, ocY, koY, ciY, kfY, cbY, goY, rsY, geY, keY)) : wpY_begin post (opY, soY, coY, ouY, kyY, liY, diY, cmY, rrY, wiY, ceY, oceY, bceY, maY, omaY, bmaY, unY, rqY, bunY, brqY, rfY, acY, brfY, bacY, srY, csY, ccY, cpY, cwY, okY, osY, ocY, koY, ciY, kfY, cbY, goY, rsY, geY, keY) := by
  refine br_c (fun z => ?_) (fun z => h0 z)
  have h := h z
  refine loop_0 (fun n i s => wY_begin_16 post 1 soY coY ouY kyY liY diY cmY rrY wiY n (nI i) ceY oceY s maY omaY bmaY unY rqY bunY brqY rfY acY brfY bacY srY csY ccY cpY cwY okY osY ocY koY ciY kfY cbY goY rsY geY keY) (fun i s => ∀ j, j < i → s j = ceY j) 144 bceY lt_0 ?_ ?_
  · intro n s1 hI1
    refine br_t (by decide) (loop_0 (fun n i s => wY_begin_43 post 1 soY coY ouY kyY liY diY cmY rrY wiY n (nI i) ceY oceY s1 maY omaY s unY rqY bunY brqY rfY acY brfY bacY srY csY ccY cpY cwY okY osY ocY koY ciY kfY cbY goY rsY geY keY) (fun i s => ∀ j, j < i → s j = maY j) 3 bmaY lt_0 ?_ ?_)
    · intro n s2 hI2
      refine br_t (by decide) (loop_0 (fun n i (s : (Nat → Int32) × (Nat → Int32) × (Nat → Int32) × (Nat → Int32)) => wY_begin_68 post 1 soY coY ouY kyY liY diY cmY rrY wiY n (nI i) ceY oceY s1 maY omaY s2 unY rqY s.1 s.2.1 rfY acY s.2.2.1 s.2.2.2 srY csY ccY cpY cwY okY osY ocY koY ciY kfY cbY goY rsY geY keY) (fun i s => ∀ c, c < i → s.1 c = vp_nar .boolean (unY c) ∧ s.2.1 c = vp_nar .boolean (rqY c) ∧ s.2.2.1 c = rfY c ∧ s.2.2.2 c = acY c) 9 (bunY, brqY, brfY, bacY) lt_0 ?_ ?_)
      · intro n s hI
        exact br_t (by decide) (h _ _ _ _ _ _ hI1 hI2 hI)
      · intro n i s hi hI hn
        have v : vp_in (nI i) 9 := vp_in_nI hi (by decide)
        exact br_f (nI_ge (b := 9) hi (by decide)) ⟨v, v, nm_e ⟨v, v, nm_e ⟨v, v, nm_e ⟨v, v, nm_e (nm_r (nI_1 i) (hn (_, _, _, _) (k4_step (by omega) hI)))⟩⟩⟩⟩
    · intro n i s hi hI hn
      exact br_f (nI_ge (b := 3) hi (by decide)) ⟨vp_in_nI hi (by decide), vp_in_nI hi (by decide), nm_e (nm_r (nI_1 i) (hn _ (ui_step (by omega) hI)))⟩
  · intro n i s hi hI hn
    exact br_f (nI_ge (b := 144) hi (by decide)) ⟨vp_in_nI hi (by decide), vp_in_nI hi (by decide), nm_e (nm_r (nI_1 i) (hn _ (ul_step (by omega) hI)))⟩
theorem yv_end {post : Int32 → SY → Prop} {p : Int32} (h0 : opY = 0 → post 0 (opY, soY, coY, ouY, kyY, liY, diY, cmY, rrY, wiY, ceY, oceY, bceY, maY, omaY, bmaY, unY, rqY, bunY, brqY, rfY, acY, brfY, bacY, srY, csY, ccY, cpY, cwY, okY, osY, ocY, koY, ciY, kfY, cbY, goY, rsY, geY, keY)) (h1 : ¬ opY = 0 → ¬ p = 0 → post 1 (0, soY, coY, ouY, kyY, liY, diY, cmY, rrY, wiY, ceY, oceY, bceY, maY, omaY, bmaY, unY, rqY, bunY, brqY, rfY, acY, brfY, bacY, srY, csY, ccY, cpY, cwY, okY, osY, ocY, koY, ciY, kfY, cbY, goY, rsY, geY, keY)) (h : ¬ opY = 0 → p = 0 → ∀ ce ma un rq rf ac, (∀ i, i < 144 → ce i = bceY i) → (∀ t, t < 3 → ma t = bmaY t) → (∀ c, c < 9 → un c = vp_nar .boolean (bunY c) ∧ rq c = vp_nar .boolean (brqY c) ∧ rf c = brfY c ∧ ac c = bacY c) → post 1 (0, soY, coY, ouY, kyY, liY, diY, cmY, rrY, wiY, ce, oceY, bceY, ma, omaY, bmaY, un, rq, bunY, brqY, rf, ac, brfY, bacY, srY, csY, ccY, cpY, cwY, okY, osY, ocY, koY, ciY, kfY, cbY, goY, rsY, geY, keY)) : wpY_end post (opY, soY, coY, ouY, kyY, liY, diY, cmY, rrY, wiY, ceY, oceY, bceY, maY, omaY, bmaY, unY, rqY, bunY, brqY, rfY, acY, brfY, bacY, srY, csY, ccY, cpY, cwY, okY, osY, ocY, koY, ciY, kfY, cbY, goY, rsY, geY, keY) p := by
  refine br_c (fun z => h0 z) (fun z => br_c (fun hp => ?_) (fun hp => h1 z hp))
  have h := h z hp
  refine loop_0 (fun n i s => wY_end_22 post 0 soY coY ouY kyY liY diY cmY rrY wiY n (nI i) s oceY bceY maY omaY bmaY unY rqY bunY brqY rfY acY brfY bacY srY csY ccY cpY cwY okY osY ocY koY ciY kfY cbY goY rsY geY keY) (fun i s => ∀ j, j < i → s j = bceY j) 144 ceY lt_0 ?_ ?_
  · intro n s1 hI1
    refine br_t (by decide) (loop_0 (fun n i s => wY_end_49 post 0 soY coY ouY kyY liY diY cmY rrY wiY n (nI i) s1 oceY bceY s omaY bmaY unY rqY bunY brqY rfY acY brfY bacY srY csY ccY cpY cwY okY osY ocY koY ciY kfY cbY goY rsY geY keY) (fun i s => ∀ j, j < i → s j = bmaY j) 3 maY lt_0 ?_ ?_)
    · intro n s2 hI2
      refine br_t (by decide) (loop_0 (fun n i (s : (Nat → Int32) × (Nat → Int32) × (Nat → Int32) × (Nat → Int32)) => wY_end_74 post 0 soY coY ouY kyY liY diY cmY rrY wiY n (nI i) s1 oceY bceY s2 omaY bmaY s.1 s.2.1 bunY brqY s.2.2.1 s.2.2.2 brfY bacY srY csY ccY cpY cwY okY osY ocY koY ciY kfY cbY goY rsY geY keY) (fun i s => ∀ c, c < i → s.1 c = vp_nar .boolean (bunY c) ∧ s.2.1 c = vp_nar .boolean (brqY c) ∧ s.2.2.1 c = brfY c ∧ s.2.2.2 c = bacY c) 9 (unY, rqY, rfY, acY) lt_0 ?_ ?_)
      · intro n s hI
        exact br_t (by decide) (h _ _ _ _ _ _ hI1 hI2 hI)
      · intro n i s hi hI hn
        have v : vp_in (nI i) 9 := vp_in_nI hi (by decide)
        exact br_f (nI_ge (b := 9) hi (by decide)) ⟨v, v, nm_e ⟨v, v, nm_e ⟨v, v, nm_e ⟨v, v, nm_e (nm_r (nI_1 i) (hn (_, _, _, _) (k4_step (by omega) hI)))⟩⟩⟩⟩
    · intro n i s hi hI hn
      exact br_f (nI_ge (b := 3) hi (by decide)) ⟨vp_in_nI hi (by decide), vp_in_nI hi (by decide), nm_e (nm_r (nI_1 i) (hn _ (ui_step (by omega) hI)))⟩
  · intro n i s hi hI hn
    exact br_f (nI_ge (b := 144) hi (by decide)) ⟨vp_in_nI hi (by decide), vp_in_nI hi (by decide), nm_e (nm_r (nI_1 i) (hn _ (ul_step (by omega) hI)))⟩
theorem rl_ext {ce ceY ce' ceY' : Nat → Int64} {rc un rq ta ac maY unY rqY rfY acY rc' un' rq' ta' ac' maY' unY' rqY' rfY' acY' : Nat → Int32} (h : rl_db ce rc un rq ta ac ceY maY unY rqY rfY acY)
    (a1 : ∀ i, i < 144 → ce' i = ce i) (a2 : ∀ t, t < 3 → rc' t = rc t) (a3 : ∀ c, c < 9 → un' c = vp_nar .boolean (un c) ∧ rq' c = vp_nar .boolean (rq c) ∧ ta' c = ta c ∧ ac' c = ac c)
    (b1 : ∀ i, i < 144 → ceY' i = ceY i) (b2 : ∀ t, t < 3 → maY' t = maY t) (b3 : ∀ c, c < 9 → unY' c = vp_nar .boolean (unY c) ∧ rqY' c = vp_nar .boolean (rqY c) ∧ rfY' c = rfY c ∧ acY' c = acY c) : rl_db ce' rc' un' rq' ta' ac' ceY' maY' unY' rqY' rfY' acY' := by
  obtain ⟨N, D, U, R, T, A, hx, hxk, hy, hyk, hK⟩ := h
  exact ⟨N, D, U, R, T, A, dx_ext hx a1 a2, dk_ext hxk a3, dy_ext hy b1 b2, dk_ext hyk b3, hK⟩
end
theorem i_vc_begin {k : Nat} {u : SX} {v : SY} (I : i_Rel k u v) (hk : k + 6 ≤ 3072) : wpX_begin (fun r u' => wpY_begin (fun r' v' => r' = r ∧ i_Rel (k + 6) u' v') v) u := by
  rcases u with ⟨toX, soX, coX, ouX, kyX, moX, diX, rrX, rwX, ceX, rcX, unX, rqX, taX, acX, sceX, srcX, sunX, srqX, staX, sacX, stX, cfX, cpX, chX, csX, okX, ocX, koX, kfX, cbX, mkX, fvX, ovX, rsX, rtX⟩
  rcases v with ⟨opY, soY, coY, ouY, kyY, liY, diY, cmY, rrY, wiY, ceY, oceY, bceY, maY, omaY, bmaY, unY, rqY, bunY, brqY, rfY, acY, brfY, bacY, srY, csY, ccY, cpY, cwY, okY, osY, ocY, koY, ciY, kfY, cbY, goY, rsY, geY, keY⟩
  obtain ⟨hdb, hsv, hdr, hli, hre⟩ := I
  have e := hsv.1
  refine br_c (fun z => xm_save (fun ce rc un rq ta ac a1 a2 a3 => ?_)) (fun z => ?_)
  · exact yv_begin (fun w => absurd (e ▸ z) w) (fun _ ce' ma' un' rq' rf' ac' b1 b2 b3 => ⟨rfl, hdb, ⟨rfl, Or.inr ⟨rfl, rl_ext hdb a1 a2 a3 b1 b2 b3⟩⟩, hdr, hli, hre⟩)
  · exact yv_begin (fun w => ⟨rfl, hdb, hsv, hdr, hli, hre⟩) (fun w => absurd (e.trans w) z)
theorem i_vc_end {k : Nat} {u : SX} {v : SY} (I : i_Rel k u v) (hk : k + 6 ≤ 3072) (v1 : Int32) : wpX_end (fun r u' => wpY_end (fun r' v' => r' = r ∧ i_Rel (k + 6) u' v') v (lw_bz v1)) u (lw_bz v1) := by
  rcases u with ⟨toX, soX, coX, ouX, kyX, moX, diX, rrX, rwX, ceX, rcX, unX, rqX, taX, acX, sceX, srcX, sunX, srqX, staX, sacX, stX, cfX, cpX, chX, csX, okX, ocX, koX, kfX, cbX, mkX, fvX, ovX, rsX, rtX⟩
  rcases v with ⟨opY, soY, coY, ouY, kyY, liY, diY, cmY, rrY, wiY, ceY, oceY, bceY, maY, omaY, bmaY, unY, rqY, bunY, brqY, rfY, acY, brfY, bacY, srY, csY, ccY, cpY, cwY, okY, osY, ocY, koY, ciY, kfY, cbY, goY, rsY, geY, keY⟩
  obtain ⟨hdb, hsv, hdr, hli, hre⟩ := I
  obtain ⟨e, hs⟩ := hsv
  refine br_c (fun z => ?_) (fun z => br_c (fun hp => xm_restore (fun ce rc un rq ta ac a1 a2 a3 => ?_)) (fun hp => ?_))
  · exact yv_end (fun w => ⟨rfl, hdb, ⟨e, hs⟩, hdr, hli, hre⟩) (fun w => absurd (e ▸ z) w) (fun w => absurd (e ▸ z) w)
  · have hs : rl_db sceX srcX sunX srqX staX sacX bceY bmaY bunY brqY brfY bacY := by
      rcases hs with hs | hs
      · exact absurd hs z
      · exact hs.2
    exact yv_end (fun w => absurd (e.trans w) z) (fun _ w => absurd hp w) (fun _ _ ce' ma' un' rq' rf' ac' b1 b2 b3 => ⟨rfl, rl_ext hs a1 a2 a3 b1 b2 b3, ⟨rfl, Or.inl rfl⟩, hdr, hli, hre⟩)
  · exact yv_end (fun w => absurd (e.trans w) z) (fun _ w => ⟨rfl, hdb, ⟨rfl, Or.inl rfl⟩, hdr, hli, hre⟩) (fun _ w => absurd w hp)
theorem i_vc0 : wpX_init (fun u => wpY_init (fun v => i_Rel 0 u v)) := by
  refine loop_0 (fun n i s => wX_init_263 _ 0 0 0 0 0 60 0 0 0 n (nI i) (fun _ => 0) (fun _ => 0) (fun _ => 0) (fun _ => 0) s (fun _ => 0) (fun _ => 0) (fun _ => 0) (fun _ => 0) (fun _ => 0) (fun _ => 0) (fun _ => 0) (fun _ => 0) (fun _ => 0) (fun _ => 0) (fun _ => 0) (fun _ => 0) (fun _ => 0) (fun _ => 0) (fun _ => 0) (fun _ => 0) (fun _ => 0) (fun _ => 0) (fun _ => 0) (fun _ => 0) (fun _ => 0) (fun _ => 0)) (fun i s => ∀ j, j < i → s j = -1) 9 (fun _ => 0) lt_0 ?_ ?_
  · intro n s hI
    refine br_t (by decide) ?_
    refine loop_0 (fun n i s' => wY_init_250 _ 0 0 0 0 0 60 0 0 0 0 n (nI i) (fun _ => 0) (fun _ => 0) (fun _ => 0) (fun _ => 0) (fun _ => 0) (fun _ => 0) (fun _ => 0) (fun _ => 0) (fun _ => 0) (fun _ => 0) s' (fun _ => 0) (fun _ => 0) (fun _ => 0) (fun _ => 0) (fun _ => 0) (fun _ => 0) (fun _ => 0) (fun _ => 0) (fun _ => 0) (fun _ => 0) (fun _ => 0) (fun _ => 0) (fun _ => 0) (fun _ => 0) (fun _ => 0) (fun _ => 0) (fun _ => 0) (fun _ => 0) (fun _ => 0)) (fun i s' => ∀ j, j < i → s' j = -1) 9 (fun _ => 0) lt_0 ?_ ?_
    · intro n s' hI'
      refine br_t (by decide) ?_
      refine ⟨⟨fun _ => 0, fun _ _ => 0, fun _ => false, fun _ => false, fun _ => 9, fun _ => 0, ⟨fun t ht => ⟨rfl, Nat.zero_le _⟩, fun c r _ hr => absurd hr (Nat.not_lt_zero _)⟩, fun c hc => ⟨rfl, rfl, hI c hc, rfl⟩, ⟨fun t ht => ⟨rfl, Nat.zero_le _⟩, fun c r _ hr => absurd hr (Nat.not_lt_zero _)⟩, fun c hc => ⟨rfl, rfl, hI' c hc, rfl⟩, ⟨fun c hc => ⟨Nat.zero_le _, fun z => absurd z (Nat.lt_irrefl 9), fun z => absurd z Bool.false_ne_true, fun z => absurd z Bool.false_ne_true, fun z => absurd z (Nat.lt_irrefl 9)⟩, fun c r _ hr => absurd hr (Nat.not_lt_zero _)⟩⟩, ⟨rfl, Or.inl rfl⟩, ?_, ⟨rfl, rfl, ⟨60, by decide, rfl⟩, false, rfl⟩, 0, by decide, rfl, rfl, Or.inl rfl⟩
      exact ⟨0, 0, 0, 0, fun _ => 0, fun _ => 0, fun _ => 0, fun _ => 0, fun _ => false, fun _ => 0, fun _ => 0, fun _ => 0, fun _ => 0, fun _ => 0, ⟨rfl, rfl, rfl, rfl⟩, ⟨rfl, rfl, rfl, rfl⟩, lt_0, lt_0, lt_0, lt_0, ⟨by decide, by decide, by decide, by decide⟩, lt_0, lt_0, lt_0, lt_0⟩
    · intro n i s' hi hI' hn
      refine br_f (nI_ge (b := 9) hi (by decide)) ⟨vp_in_nI hi (by decide), nm_e (nm_r (nI_1 i) (hn _ ?_))⟩
      rw [nI_clamp (by omega)]
      exact lt_s (fun j hj => by rw [pk_un (by omega)]; exact hI' j hj) pk_us
  · intro n i s hi hI hn
    refine br_f (nI_ge (b := 9) hi (by decide)) ⟨vp_in_nI hi (by decide), nm_e (nm_r (nI_1 i) (hn _ ?_))⟩
    rw [nI_clamp (by omega)]
    exact lt_s (fun j hj => by rw [pk_un (by omega)]; exact hI j hj) pk_us
end
section
/-! when a combination holds -/
def co_v (D : Nat → Nat → Int64) (S ρ : Nat → Nat) (s c : Nat) : Int64 := D (3 * S s + c) (ρ s)
def co_t (op : Nat) (x y : Int64) : Prop :=
  if op = 4 then x = nu_l else if op = 5 then x ≠ nu_l else x ≠ nu_l ∧ y ≠ nu_l ∧ (if op = 0 then x = y else if op = 1 then x ≠ y else if op = 2 then x < y else x ≤ y)
def co_y (D : Nat → Nat → Int64) (S ρ : Nat → Nat) (b : Bool) (w : Int32) : Int64 := if b = true then co_v D S ρ (w.toNatClampNeg / 3) (w.toNatClampNeg % 3) else w.toInt64
def co_k (D : Nat → Nat → Int64) (S ρ CS CC CO : Nat → Nat) (CI : Nat → Bool) (CW : Nat → Int32) (k : Nat) : Prop := co_t (CO k) (co_v D S ρ (CS k) (CC k)) (co_y D S ρ (CI k) (CW k))
def co_h (D : Nat → Nat → Int64) (S ρ CS CC CO : Nat → Nat) (CI : Nat → Bool) (CW : Nat → Int32) (nc : Nat) : Prop := ∀ k, k < nc → co_k D S ρ CS CC CO CI CW k
def cx_c (nc : Nat) (CS CC CO : Nat → Nat) (CI : Nat → Bool) (CW : Nat → Int32) (cf cp ch cs : Nat → Int32) : Prop := ∀ k, k < nc → cf k = nI (3 * CS k + CC k) ∧ cp k = nI (CO k) ∧ ch k = bo_i (CI k) ∧ cs k = CW k
def cy_c (nc : Nat) (CS CC CO : Nat → Nat) (CI : Nat → Bool) (CW : Nat → Int32) (csY ccY cpY ciY cwY : Nat → Int32) : Prop := ∀ k, k < nc → csY k = nI (CS k) ∧ ccY k = nI (CC k) ∧ cpY k = nI (CO k) ∧ ciY k = bo_i (CI k) ∧ cwY k = CW k
def ck_c (ns nc : Nat) (S CS CC CO : Nat → Nat) (CI : Nat → Bool) (CW : Nat → Int32) : Prop := ns ≤ 3 ∧ nc ≤ 6 ∧ (∀ s, s < ns → S s < 3) ∧ ∀ k, k < nc → CS k < ns ∧ CC k < 3 ∧ CO k < 6 ∧ (CI k = true → ∃ w, CW k = nI w ∧ w < 3 * ns)
def ro_w (q s : Nat) : Nat := if s = 0 then q / 256 % 16 else if s = 1 then q / 16 % 16 else q % 16
section
variable {toX soX coX ouX kyX moX diX rrX rwX : Int32} {ceX sceX fvX ovX rsX : Nat → Int64} {rcX unX rqX taX acX srcX sunX srqX staX sacX stX cfX cpX chX csX okX ocX koX kfX cbX mkX rtX : Nat → Int32} {opY soY coY ouY kyY liY diY cmY rrY wiY : Int32} {ceY oceY bceY rsY : Nat → Int64} {maY omaY bmaY unY rqY bunY brqY rfY acY brfY bacY srY csY ccY cpY cwY okY osY ocY koY ciY kfY cbY goY geY keY : Nat → Int32} {N : Nat → Nat} {D : Nat → Nat → Int64} {ns nc : Nat} {S ρ CS CC CO : Nat → Nat} {CI : Nat → Bool} {CW : Nat → Int32} {post : Int32 → Prop}
theorem xm_val {post : Int64 → Prop} (hC : db_xc N D ceX rcX) (h3 : ns ≤ 3) (hS : ∀ s, s < ns → S s < 3) (hst : ∀ s, s < ns → stX s = nI (S s)) (hcb : ∀ s, s < ns → cbX s = nI (ρ s) ∧ ρ s < N (S s)) {s c : Nat} (hs : s < ns) (hc : c < 3) (h : post (co_v D S ρ s c)) : wpX_valueInCombination post (toX, soX, coX, ouX, kyX, moX, diX, rrX, rwX, ceX, rcX, unX, rqX, taX, acX, sceX, srcX, sunX, srqX, staX, sacX, stX, cfX, cpX, chX, csX, okX, ocX, koX, kfX, cbX, mkX, fvX, ovX, rsX, rtX) (nI (3 * s + c)) := by
  have e1 : nI (3 * s + c) / 3 = nI s := by
    rw [nz_d3 (by omega)]
    exact congrArg nI (by omega)
  have e2 : nI (3 * s + c) - nI (3 * s + c) / 3 * 3 = nI c := by
    rw [nz_r3 (by omega)]
    exact congrArg nI (by omega)
  have es : (nI s).toNatClampNeg = s := nI_clamp (by omega)
  have hs3 := hS s hs
  obtain ⟨ecb, hr⟩ := hcb s hs
  have h16 := (hC.1 (S s) hs3).2
  have hi3 : vp_in (nI s) 3 := vp_in_nI (by omega) (by decide)
  refine ⟨nz_3ne, nm_r e1 ⟨hi3, nz_3ne, nm_r (e' := nI (3 * S s + c)) (by rw [es, hst s hs, e2, nz_3]) ⟨hi3, ?_⟩⟩⟩
  rw [es, ecb, nz_16, nI_clamp (by omega), hC.2 (3 * S s + c) (ρ s) (by omega) (by rw [show (3 * S s + c) / 3 = S s by omega]; exact hr)]
  exact ⟨vp_in_nI (by omega) (by decide), h⟩
theorem op_ne {a b : Nat} (ha : a < 2 ^ 31) (hb : b < 2 ^ 31) (h : a ≠ b) : ¬ nI a = nI b := fun z => h ((nI_eq ha hb).mp z)
theorem lt_le {x y : Int64} : ¬ y < x ↔ x ≤ y := Int64.not_lt
theorem le_lt {x y : Int64} : ¬ y ≤ x ↔ x < y := Int64.not_le
theorem xm_c86 {op : Nat} {x y : Int64} (hop : op < 6) (h4 : op ≠ 4) (h5 : op ≠ 5) (h1 : co_t op x y → post 1) (h0 : ¬ co_t op x y → post 0) : wX_conditionIsTrue_86 post (nI op) x y toX soX coX ouX kyX moX diX rrX rwX ceX rcX unX rqX taX acX sceX srcX sunX srqX staX sacX stX cfX cpX chX csX okX ocX koX kfX cbX mkX fvX ovX rsX rtX := by
  have e : co_t op x y = (x ≠ nu_l ∧ y ≠ nu_l ∧ (if op = 0 then x = y else if op = 1 then x ≠ y else if op = 2 then x < y else x ≤ y)) := by
    unfold co_t
    rw [if_neg h4, if_neg h5]
  rw [e] at h1 h0
  refine br_c (fun hx => h0 (fun z => z.1 hx)) (fun hx => br_c (fun hy => h0 (fun z => z.2.1 hy)) (fun hy => ?_))
  refine br_f (nI_pos (by omega)) ?_
  by_cases k3 : op = 3
  · subst k3
    exact br_t (by decide) (br_c (fun z => h0 (fun w => absurd w.2.2 (Int64.not_le.mpr z))) (fun z => h1 ⟨hx, hy, Int64.not_lt.mp z⟩))
  · refine br_f (nI_nlt (a := 2) (b := op) (by omega) (by decide)) ?_
    by_cases k0 : op = 0
    · subst k0
      exact br_t rfl (br_c (fun z => h1 ⟨hx, hy, z⟩) (fun z => h0 (fun w => z w.2.2)))
    · refine br_f (op_ne (b := 0) (by omega) (by decide) k0) ?_
      by_cases k1 : op = 1
      · subst k1
        exact br_t rfl (br_c (fun z => h0 (fun w => w.2.2 z)) (fun z => h1 ⟨hx, hy, z⟩))
      · refine br_f (op_ne (b := 1) (by omega) (by decide) k1) ?_
        have k2 : op = 2 := by omega
        subst k2
        exact br_t rfl (br_c (fun z => h0 (fun w => absurd w.2.2 (Int64.not_lt.mpr z))) (fun z => h1 ⟨hx, hy, Int64.not_le.mp z⟩))
theorem xm_cond (hC : db_xc N D ceX rcX) (hk : ck_c ns nc S CS CC CO CI CW) (hst : ∀ s, s < ns → stX s = nI (S s)) (hc : cx_c nc CS CC CO CI CW cfX cpX chX csX) (hcb : ∀ s, s < ns → cbX s = nI (ρ s) ∧ ρ s < N (S s)) {k : Nat} (hkn : k < nc) (h1 : co_k D S ρ CS CC CO CI CW k → post 1) (h0 : ¬ co_k D S ρ CS CC CO CI CW k → post 0) : wpX_conditionIsTrue post (toX, soX, coX, ouX, kyX, moX, diX, rrX, rwX, ceX, rcX, unX, rqX, taX, acX, sceX, srcX, sunX, srqX, staX, sacX, stX, cfX, cpX, chX, csX, okX, ocX, koX, kfX, cbX, mkX, fvX, ovX, rsX, rtX) (nI k) := by
  obtain ⟨h3, h6, hS, hK⟩ := hk
  obtain ⟨k1, k2, k3, k4⟩ := hK k hkn
  obtain ⟨c1, c2, c3, c4⟩ := hc k hkn
  have ek : (nI k).toNatClampNeg = k := nI_clamp (by omega)
  have hv : vp_in (nI k) 6 := vp_in_nI (by omega) (by decide)
  refine ⟨hv, nm_r (e' := nI (CO k)) (by rw [ek, c2]) ⟨hv, ?_⟩⟩
  rw [ek, c1, c3, c4]
  refine xm_val hC h3 hS hst hcb k1 k2 ?_
  unfold co_k at h1 h0
  by_cases o4 : CO k = 4
  · rw [o4] at h1 h0 ⊢
    exact br_t rfl (br_c (fun z => h1 z) (fun z => h0 z))
  · refine br_f (op_ne (b := 4) (by omega) (by decide) o4) ?_
    by_cases o5 : CO k = 5
    · rw [o5] at h1 h0 ⊢
      exact br_t rfl (br_c (fun z => h0 (fun w => w z)) (fun z => h1 z))
    · refine br_f (op_ne (b := 5) (by omega) (by decide) o5) ⟨hv, nm_e ⟨hv, ?_⟩⟩
      by_cases hb : CI k = true
      · obtain ⟨w, ew, hw⟩ := k4 hb
        refine br_f (bo_n.mpr hb) ⟨hv, ?_⟩
        have ey : co_y D S ρ (CI k) (CW k) = co_v D S ρ (w / 3) (w % 3) := by
          unfold co_y
          rw [if_pos hb, ew, nI_clamp (by omega)]
        rw [ey] at h1 h0
        rw [ew, show w = 3 * (w / 3) + w % 3 by omega]
        exact xm_val hC h3 hS hst hcb (by omega) (by omega) (xm_c86 (by omega) o4 o5 h1 h0)
      · have ey : co_y D S ρ (CI k) (CW k) = (CW k).toInt64 := if_neg hb
        rw [ey] at h1 h0
        exact br_t (bo_0.mpr (by simpa using hb)) (xm_c86 (by omega) o4 o5 h1 h0)
theorem xm_holds (hC : db_xc N D ceX rcX) (hk : ck_c ns nc S CS CC CO CI CW) (hst : ∀ s, s < ns → stX s = nI (S s)) (hc : cx_c nc CS CC CO CI CW cfX cpX chX csX) (hcb : ∀ s, s < ns → cbX s = nI (ρ s) ∧ ρ s < N (S s)) (h1 : co_h D S ρ CS CC CO CI CW nc → post 1) (h0 : ¬ co_h D S ρ CS CC CO CI CW nc → post 0) : wpX_combinationHolds post (toX, soX, nI nc, ouX, kyX, moX, diX, rrX, rwX, ceX, rcX, unX, rqX, taX, acX, sceX, srcX, sunX, srqX, staX, sacX, stX, cfX, cpX, chX, csX, okX, ocX, koX, kfX, cbX, mkX, fvX, ovX, rsX, rtX) := by
  have h6 := hk.2.1
  refine loop_0 (fun n i (_ : Unit) => wX_combinationHolds_2 post toX soX (nI nc) ouX kyX moX diX rrX rwX ceX rcX unX rqX taX acX sceX srcX sunX srqX staX sacX stX cfX cpX chX csX okX ocX koX kfX cbX mkX fvX ovX rsX rtX n (nI i)) (fun i _ => ∀ k, k < i → co_k D S ρ CS CC CO CI CW k) nc () lt_0 ?_ ?_
  · intro n _ hI
    exact br_t (nI_le (Nat.le_refl _) (by omega)) (h1 hI)
  · intro n i _ hi hI hn
    refine br_f (nI_ge hi (by omega)) (xm_cond hC hk hst hc hcb hi (fun z => ?_) (fun z => ?_))
    · exact br_f (by decide) (nm_r (nI_1 i) (hn () (lt_s hI z)))
    · exact br_t rfl (h0 (fun w => z (w i hi)))
/-! Y -/
theorem ro_e {q s : Nat} (hq : q < 4096) (hs : s < 3) : (nI q >>> ((8 - (4 * nI s)) &&& 31)) &&& 15 = nI (ro_w q s) := by
  have h : s = 0 ∨ s = 1 ∨ s = 2 := by omega
  rcases h with h | h | h
  · subst h
    rw [pk_shrN (by omega) _ 8 (by decide), pk_andN (by omega) 4 (by decide)]
    rfl
  · subst h
    rw [pk_shrN (by omega) _ 4 (by decide), pk_andN (by omega) 4 (by decide)]
    rfl
  · subst h
    rw [pk_shrN (by omega) _ 0 (by decide), pk_andN (by omega) 4 (by decide)]
    exact congrArg nI (by show q / 2 ^ 0 % 2 ^ 4 = q % 16; omega)
theorem ym_in {post : Int64 → Prop} (hC : db_yc N D ceY maY) (h3 : ns ≤ 3) (hS : ∀ s, s < ns → S s < 3) (hsr : ∀ s, s < ns → srY s = nI (S s)) {q : Nat} (hq : q < 4096) (hro : ∀ s, s < ns → ro_w q s < N (S s)) {s c : Nat} (hs : s < ns) (hc : c < 3) (h : post (co_v D S (ro_w q) s c)) : wpY_in post (opY, soY, coY, ouY, kyY, liY, diY, cmY, rrY, wiY, ceY, oceY, bceY, maY, omaY, bmaY, unY, rqY, bunY, brqY, rfY, acY, brfY, bacY, srY, csY, ccY, cpY, cwY, okY, osY, ocY, koY, ciY, kfY, cbY, goY, rsY, geY, keY) (nI q) (nI s) (nI c) := by
  have hs3 := hS s hs
  have h16 := (hC.1 (S s) hs3).2
  have hr := hro s hs
  have hi3 : vp_in (nI s) 3 := vp_in_nI (by omega) (by decide)
  refine ⟨hi3, ?_⟩
  unfold wpY_rowOf
  dsimp only
  have e := hC.2 (3 * S s + c) (ro_w q s) (by omega) (by rw [show (3 * S s + c) / 3 = S s by omega]; exact hr)
  rw [show (3 * S s + c) / 3 = S s by omega, show (3 * S s + c) % 3 = c by omega] at e
  rw [ro_e hq (by omega), nI_clamp (show s < 2 ^ 31 by omega), hsr s hs, nz_48, nz_3m, nI_add, nI_add, nI_clamp (by omega), e]
  exact ⟨vp_in_nI (by omega) (by decide), h⟩
theorem ym_h68 {J : Int32 → Prop} {op k : Nat} {x1 : Int32} {x y : Int64} (hk6 : k < 6) (eop : cpY k = nI op) (hop : op < 6) (h1 : co_t op x y → J (nI (k + 1))) (h0 : ¬ co_t op x y → post 0) : wY_holds_68 post J x1 (nI k) x y opY soY coY ouY kyY liY diY cmY rrY wiY ceY oceY bceY maY omaY bmaY unY rqY bunY brqY rfY acY brfY bacY srY csY ccY cpY cwY okY osY ocY koY ciY kfY cbY goY rsY geY keY := by
  have hv : vp_in (nI k) 6 := vp_in_nI (by omega) (by decide)
  have g1 : co_t op x y → wY_holds_198 post J x1 (nI k) 1 opY soY coY ouY kyY liY diY cmY rrY wiY ceY oceY bceY maY omaY bmaY unY rqY bunY brqY rfY acY brfY bacY srY csY ccY cpY cwY okY osY ocY koY ciY kfY cbY goY rsY geY keY := fun z => br_f (by decide) (nm_r (nI_1 k) (h1 z))
  have g0 : ¬ co_t op x y → wY_holds_198 post J x1 (nI k) 0 opY soY coY ouY kyY liY diY cmY rrY wiY ceY oceY bceY maY omaY bmaY unY rqY bunY brqY rfY acY brfY bacY srY csY ccY cpY cwY okY osY ocY koY ciY kfY cbY goY rsY geY keY := fun z => br_t rfl (h0 z)
  refine ⟨hv, nm_r (e' := nI op) (by rw [nI_clamp (by omega), eop]) ?_⟩
  by_cases o4 : op = 4
  · subst o4
    exact br_t rfl (br_c (fun z => g1 z) (fun z => g0 z))
  · refine br_f (op_ne (b := 4) (by omega) (by decide) o4) ?_
    by_cases o5 : op = 5
    · subst o5
      exact br_t rfl (br_c (fun z => g0 (fun w => w z)) (fun z => g1 z))
    · refine br_f (op_ne (b := 5) (by omega) (by decide) o5) ?_
      have e : co_t op x y = (x ≠ nu_l ∧ y ≠ nu_l ∧ (if op = 0 then x = y else if op = 1 then x ≠ y else if op = 2 then x < y else x ≤ y)) := by
        unfold co_t
        rw [if_neg o4, if_neg o5]
      rw [e] at g1 g0
      refine br_c (fun hx => g0 (fun z => z.1 hx)) (fun hx => br_c (fun hy => g0 (fun z => z.2.1 hy)) (fun hy => ?_))
      by_cases k0 : op = 0
      · subst k0
        exact br_t rfl (br_c (fun z => g1 ⟨hx, hy, z⟩) (fun z => g0 (fun w => z w.2.2)))
      · refine br_f (op_ne (b := 0) (by omega) (by decide) k0) ?_
        by_cases k1 : op = 1
        · subst k1
          exact br_t rfl (br_c (fun z => g0 (fun w => w.2.2 z)) (fun z => g1 ⟨hx, hy, z⟩))
        · refine br_f (op_ne (b := 1) (by omega) (by decide) k1) ?_
          by_cases k2 : op = 2
          · subst k2
            exact br_t rfl (br_c (fun z => g0 (fun w => absurd w.2.2 (Int64.not_lt.mpr z))) (fun z => g1 ⟨hx, hy, Int64.not_le.mp z⟩))
          · have k3 : op = 3 := by omega
            subst k3
            exact br_f (by decide) (br_c (fun z => g0 (fun w => absurd w.2.2 (Int64.not_le.mpr z))) (fun z => g1 ⟨hx, hy, Int64.not_lt.mp z⟩))
theorem ym_holds (hC : db_yc N D ceY maY) (hk : ck_c ns nc S CS CC CO CI CW) (hsr : ∀ s, s < ns → srY s = nI (S s)) (hc : cy_c nc CS CC CO CI CW csY ccY cpY ciY cwY) {q : Nat} (hq : q < 4096) (hro : ∀ s, s < ns → ro_w q s < N (S s)) (h1 : co_h D S (ro_w q) CS CC CO CI CW nc → post 1) (h0 : ¬ co_h D S (ro_w q) CS CC CO CI CW nc → post 0) : wpY_holds post (opY, soY, nI nc, ouY, kyY, liY, diY, cmY, rrY, wiY, ceY, oceY, bceY, maY, omaY, bmaY, unY, rqY, bunY, brqY, rfY, acY, brfY, bacY, srY, csY, ccY, cpY, cwY, okY, osY, ocY, koY, ciY, kfY, cbY, goY, rsY, geY, keY) (nI q) := by
  obtain ⟨h3, h6, hS, hK⟩ := hk
  refine loop_0 (fun n i (_ : Unit) => wY_holds_2 post (nI q) opY soY (nI nc) ouY kyY liY diY cmY rrY wiY ceY oceY bceY maY omaY bmaY unY rqY bunY brqY rfY acY brfY bacY srY csY ccY cpY cwY okY osY ocY koY ciY kfY cbY goY rsY geY keY n (nI i)) (fun i _ => ∀ k, k < i → co_k D S (ro_w q) CS CC CO CI CW k) nc () lt_0 ?_ ?_
  · intro n _ hI
    exact br_t (nI_le (Nat.le_refl _) (by omega)) (h1 hI)
  · intro n i _ hi hI hn
    obtain ⟨k1, k2, k3, k4⟩ := hK i hi
    obtain ⟨c1, c2, c3, c4, c5⟩ := hc i hi
    have ek : (nI i).toNatClampNeg = i := nI_clamp (by omega)
    have hv : vp_in (nI i) 6 := vp_in_nI (by omega) (by decide)
    refine br_f (nI_ge hi (by omega)) ⟨hv, hv, ?_⟩
    rw [ek, c1, c2, c4, c5]
    refine ym_in hC h3 hS hsr hq hro k1 k2 ⟨hv, ?_⟩
    have g1 : co_t (CO i) (co_v D S (ro_w q) (CS i) (CC i)) (co_y D S (ro_w q) (CI i) (CW i)) → wY_holds_2 post (nI q) opY soY (nI nc) ouY kyY liY diY cmY rrY wiY ceY oceY bceY maY omaY bmaY unY rqY bunY brqY rfY acY brfY bacY srY csY ccY cpY cwY okY osY ocY koY ciY kfY cbY goY rsY geY keY n (nI (i + 1)) := fun z => hn () (lt_s hI z)
    have g0 : ¬ co_t (CO i) (co_v D S (ro_w q) (CS i) (CC i)) (co_y D S (ro_w q) (CI i) (CW i)) → post 0 := fun z => h0 (fun w => z (w i hi))
    by_cases hb : CI i = true
    · obtain ⟨w, ew, hw⟩ := k4 hb
      refine br_f (bo_n.mpr hb) ⟨hv, nz_3ne, hv, nz_3ne, ?_⟩
      have ey : co_y D S (ro_w q) (CI i) (CW i) = co_v D S (ro_w q) (w / 3) (w % 3) := by
        unfold co_y
        rw [if_pos hb, ew, nI_clamp (by omega)]
      rw [ey] at g1 g0
      rw [ew, nz_r3 (by omega), nz_d3 (by omega)]
      exact ym_in hC h3 hS hsr hq hro (by omega) (by omega) (ym_h68 (by omega) c3 k3 g1 g0)
    · have ey : co_y D S (ro_w q) (CI i) (CW i) = (CW i).toInt64 := if_neg hb
      rw [ey] at g1 g0
      exact br_t (bo_0.mpr (by simpa using hb)) ⟨hv, ym_h68 (by omega) c3 k3 g1 g0⟩
end
end
section
/-! the rows that hold -/
noncomputable def mh_B (t i : Nat) (P : Nat → Prop) (x : Nat) : Bool := @decide (x / 16 = t ∧ x % 16 < i ∧ P (x % 16)) (Classical.propDecidable _)
theorem mh_i {t i : Nat} {P : Nat → Prop} {x : Nat} : mh_B t i P x = true ↔ x / 16 = t ∧ x % 16 < i ∧ P (x % 16) := @decide_eq_true_iff _ (Classical.propDecidable _)
theorem mh_r {t i : Nat} {P : Nat → Prop} {r : Nat} (hr : r < 16) : mh_B t i P (16 * t + r) = true ↔ r < i ∧ P r := by
  rw [mh_i, show (16 * t + r) / 16 = t by omega, show (16 * t + r) % 16 = r by omega]
  exact ⟨fun z => z.2, fun z => ⟨rfl, z⟩⟩
theorem mh_0 {t : Nat} {P : Nat → Prop} {x : Nat} : mh_B t 0 P x = false := by
  rw [Bool.eq_false_iff]
  intro z
  exact absurd (mh_i.mp z).2.1 (Nat.not_lt_zero _)
theorem mh_t {t i : Nat} {P : Nat → Prop} (h : P i) {mk : Nat → Int32} (hi : i < 16) (hm : ∀ x, x < 48 → mk x = bo_i (mh_B t i P x)) : ∀ x, x < 48 → upd mk (16 * t + i) (bo_i true) x = bo_i (mh_B t (i + 1) P x) := by
  intro x hx
  by_cases e : x = 16 * t + i
  · subst e
    rw [pk_us, (mh_r hi).mpr ⟨Nat.lt_succ_self i, h⟩]
  · rw [pk_un e, hm x hx]
    refine congrArg bo_i (Bool.eq_iff_iff.mpr ?_)
    rw [mh_i, mh_i]
    refine ⟨fun z => ⟨z.1, by omega, z.2.2⟩, fun z => ⟨z.1, ?_, z.2.2⟩⟩
    have := z.1
    have := z.2.1
    omega
theorem mh_f {t i : Nat} {P : Nat → Prop} (h : ¬ P i) {mk : Nat → Int32} (hm : ∀ x, x < 48 → mk x = bo_i (mh_B t i P x)) : ∀ x, x < 48 → mk x = bo_i (mh_B t (i + 1) P x) := by
  intro x hx
  rw [hm x hx]
  refine congrArg bo_i (Bool.eq_iff_iff.mpr ?_)
  rw [mh_i, mh_i]
  refine ⟨fun z => ⟨z.1, by omega, z.2.2⟩, fun z => ⟨z.1, ?_, z.2.2⟩⟩
  have h1 := z.2.1
  have h2 : x % 16 ≠ i := fun w => h (w ▸ z.2.2)
  omega
def cn_b (f : Nat → Bool) : Nat → Nat
  | 0 => 0
  | n + 1 => cn_b f n + (if f n = true then 1 else 0)
theorem cn_le (f : Nat → Bool) (n : Nat) : cn_b f n ≤ n := by
  induction n with
  | zero => exact Nat.le_refl _
  | succ n ih =>
    unfold cn_b
    split <;> omega
theorem cn_t {f : Nat → Bool} {n : Nat} (h : f n = true) : cn_b f (n + 1) = cn_b f n + 1 := by
  show cn_b f n + (if f n = true then 1 else 0) = _
  rw [if_pos h]
theorem cn_f {f : Nat → Bool} {n : Nat} (h : ¬ f n = true) : cn_b f (n + 1) = cn_b f n := by
  show cn_b f n + (if f n = true then 1 else 0) = _
  rw [if_neg h]
  exact Nat.add_zero _
theorem cn_ext {f g : Nat → Bool} {n : Nat} (h : ∀ i, i < n → f i = g i) : cn_b f n = cn_b g n := by
  induction n with
  | zero => rfl
  | succ n ih =>
    unfold cn_b
    rw [ih (fun i hi => h i (by omega)), h n (by omega)]
theorem ro_256 {r : Nat} (h : r < 16) : ro_w (256 * r) 0 = r := by
  show 256 * r / 256 % 16 = r
  omega
section
variable {toX soX coX ouX kyX moX diX rrX rwX : Int32} {ceX sceX fvX ovX rsX : Nat → Int64} {rcX unX rqX taX acX srcX sunX srqX staX sacX stX cfX cpX chX csX okX ocX koX kfX cbX mkX rtX : Nat → Int32} {opY soY coY ouY kyY liY diY cmY rrY wiY : Int32} {ceY oceY bceY rsY : Nat → Int64} {maY omaY bmaY unY rqY bunY brqY rfY acY brfY bacY srY csY ccY cpY cwY okY osY ocY koY ciY kfY cbY goY geY keY : Nat → Int32} {N : Nat → Nat} {D : Nat → Nat → Int64} {nc : Nat} {S CS CC CO : Nat → Nat} {CI : Nat → Bool} {CW : Nat → Int32}
theorem xm_mark {post : Int32 → SX → Prop} (hC : db_xc N D ceX rcX) (hk : ck_c 1 nc S CS CC CO CI CW) (hst : ∀ s, s < 1 → stX s = nI (S s)) (hc : cx_c nc CS CC CO CI CW cfX cpX chX csX)
    (h : ∀ cb mk, (∀ x, x < 48 → mk x = bo_i (mh_B (S 0) (N (S 0)) (fun r => co_h D S (ro_w (256 * r)) CS CC CO CI CW nc) x)) → post (nI (cn_b (fun r => mh_B (S 0) (N (S 0)) (fun r => co_h D S (ro_w (256 * r)) CS CC CO CI CW nc) (16 * S 0 + r)) (N (S 0)))) (toX, soX, nI nc, ouX, kyX, moX, diX, rrX, rwX, ceX, rcX, unX, rqX, taX, acX, sceX, srcX, sunX, srqX, staX, sacX, stX, cfX, cpX, chX, csX, okX, ocX, koX, kfX, cb, mk, fvX, ovX, rsX, rtX)) : wpX_markRowsThatHold post (toX, soX, nI nc, ouX, kyX, moX, diX, rrX, rwX, ceX, rcX, unX, rqX, taX, acX, sceX, srcX, sunX, srqX, staX, sacX, stX, cfX, cpX, chX, csX, okX, ocX, koX, kfX, cbX, mkX, fvX, ovX, rsX, rtX) := by
  have ht : S 0 < 3 := hk.2.2.1 0 (by decide)
  obtain ⟨hn, h16⟩ := hC.1 (S 0) ht
  refine loop_0 (fun n i s => wX_markRowsThatHold_2 post toX soX (nI nc) ouX kyX moX diX rrX rwX n (nI i) ceX rcX unX rqX taX acX sceX srcX sunX srqX staX sacX stX cfX cpX chX csX okX ocX koX kfX cbX s fvX ovX rsX rtX) (fun i s => ∀ x, x < i → s x = bo_i false) 48 mkX lt_0 ?_ ?_
  · intro n s hI
    refine br_t (by decide) (nm_r (hst 0 (by decide)) ⟨vp_in_nI ht (by decide), nm_r (e' := nI (N (S 0))) (by rw [nI_clamp (by omega), hn]) ?_⟩)
    generalize hP : (fun r => co_h D S (ro_w (256 * r)) CS CC CO CI CW nc) = P at h
    generalize hg : (fun r => mh_B (S 0) (N (S 0)) P (16 * S 0 + r)) = g at h
    refine loop_0 (fun n i (s : (Nat → Int32) × (Nat → Int32)) => wX_markRowsThatHold_40 post (nI (S 0)) (nI (N (S 0))) toX soX (nI nc) ouX kyX moX diX rrX rwX n (nI (cn_b g i)) (nI i) ceX rcX unX rqX taX acX sceX srcX sunX srqX staX sacX stX cfX cpX chX csX okX ocX koX kfX s.1 s.2 fvX ovX rsX rtX) (fun i s => ∀ x, x < 48 → s.2 x = bo_i (mh_B (S 0) i P x)) (N (S 0)) (cbX, s) (fun x hx => by rw [mh_0]; exact hI x hx) ?_ ?_
    · intro n s hI
      exact br_t (nI_le (Nat.le_refl _) (by omega)) (h _ _ hI)
    · intro n i s hi hI hn
      refine br_f (nI_ge hi (by omega)) (nm_e ?_)
      refine xm_holds (ρ := ro_w (256 * i)) hC hk hst hc (fun q hq => ?_) (fun z => ?_) (fun z => ?_)
      · have : q = 0 := by omega
        subst this
        rw [ro_256 (by omega)]
        exact ⟨pk_us, hi⟩
      · have hPi : P i := by rw [← hP]; exact z
        have hgi : g i = true := by rw [← hg]; exact (mh_r (by omega)).mpr ⟨hi, hPi⟩
        refine br_f (by decide) ⟨by rw [nz_16]; exact vp_in_nI (by omega) (by decide), nm_r (e' := upd s.2 (16 * S 0 + i) (bo_i true)) (by rw [nz_16, nI_clamp (by omega), bo_nar1]) (nm_r (e' := nI (cn_b g (i + 1))) (by rw [cn_t hgi, nI_1]) (nm_r (nI_1 i) (hn (_, _) (mh_t hPi (by omega) hI))))⟩
      · have hPi : ¬ P i := by rw [← hP]; exact z
        have hgi : ¬ g i = true := by rw [← hg]; exact fun w => hPi ((mh_r (by omega)).mp w).2
        refine br_t rfl (nm_r (nI_1 i) ?_)
        have := hn (upd s.1 0 (nI i), s.2) (mh_f hPi hI)
        rw [cn_f hgi] at this
        exact this
  · intro n i s hi hI hn
    refine br_f (nI_ge (b := 48) hi (by decide)) ⟨vp_in_nI hi (by decide), nm_e (nm_r (nI_1 i) (hn _ ?_))⟩
    rw [nI_clamp (by omega)]
    exact lt_s (fun j hj => by rw [pk_un (by omega)]; exact hI j hj) pk_us
end
end
section
/-! change -/
def ch_v (how : Nat) (v : Int32) (d : Int64) : Int64 := if how = 0 then v.toInt64 else if how = 1 then nu_l else if d = nu_l then nu_l else (d.toInt32 + v).toInt64
def ch_D (D : Nat → Nat → Int64) (col : Nat) (M : Nat → Bool) (how : Nat) (v : Int32) : Nat → Nat → Int64 := fun c r => if c = col ∧ M (16 * (col / 3) + r) = true then ch_v how v (D c r) else D c r
theorem ch_o {D : Nat → Nat → Int64} {col : Nat} {M : Nat → Bool} {how : Nat} {v : Int32} {c r : Nat} (h : c ≠ col) : ch_D D col M how v c r = D c r := if_neg (fun z => h z.1)
theorem ch_t {D : Nat → Nat → Int64} {col : Nat} {M : Nat → Bool} {how : Nat} {v : Int32} {r : Nat} (h : M (16 * (col / 3) + r) = true) : ch_D D col M how v col r = ch_v how v (D col r) := if_pos ⟨rfl, h⟩
theorem ch_f {D : Nat → Nat → Int64} {col : Nat} {M : Nat → Bool} {how : Nat} {v : Int32} {r : Nat} (h : ¬ M (16 * (col / 3) + r) = true) : ch_D D col M how v col r = D col r := if_neg (fun z => h z.2)
theorem ch_add (d : Int64) (v : Int32) : (d + v.toInt64).toInt32 = d.toInt32 + v := by
  rw [Int64.toInt32_add, Int32.toInt32_toInt64]
theorem ch_val {how : Nat} {v : Int32} {d : Int64} : ch_v how v d = nu_l ∨ ∃ z : Int32, ch_v how v d = z.toInt64 := by
  unfold ch_v
  split
  · exact Or.inr ⟨_, rfl⟩
  · split
    · exact Or.inl rfl
    · split
      · exact Or.inl rfl
      · exact Or.inr ⟨_, rfl⟩
section
variable {toX soX coX ouX kyX moX diX rrX rwX : Int32} {ceX sceX fvX ovX rsX : Nat → Int64} {rcX unX rqX taX acX srcX sunX srqX staX sacX stX cfX cpX chX csX okX ocX koX kfX cbX mkX rtX : Nat → Int32} {opY soY coY ouY kyY liY diY cmY rrY wiY : Int32} {ceY oceY bceY rsY : Nat → Int64} {maY omaY bmaY unY rqY bunY brqY rfY acY brfY bacY srY csY ccY cpY cwY okY osY ocY koY ciY kfY cbY goY geY keY : Nat → Int32} {N : Nat → Nat} {D : Nat → Nat → Int64} {U R : Nat → Bool} {T A : Nat → Nat} {M : Nat → Bool}
theorem xm_chval {post : Int64 → Prop} {d : Int64} {how : Nat} {v : Int32} (hh : how < 3) (h : post (ch_v how v d)) : wpX_changedValue post d (nI how) v := by
  unfold ch_v at h
  by_cases e0 : how = 0
  · rw [if_pos e0] at h
    subst e0
    exact br_t rfl h
  · rw [if_neg e0] at h
    refine br_f (op_ne (b := 0) (by omega) (by decide) e0) ?_
    by_cases e1 : how = 1
    · rw [if_pos e1] at h
      subst e1
      exact br_t rfl h
    · rw [if_neg e1] at h
      refine br_f (op_ne (b := 1) (by omega) (by decide) e1) ?_
      by_cases e2 : d = nu_l
      · rw [if_pos e2] at h
        exact br_t e2 h
      · rw [if_neg e2] at h
        exact br_f e2 h
theorem xm_chMarked {post : SX → Prop} (hC : db_xc N D ceX rcX) (hm : ∀ x, x < 48 → mkX x = bo_i (M x)) {col how : Nat} {v : Int32} (hc : col < 9) (hh : how < 3)
    (h : ∀ ce fv, db_xc N (ch_D D col M how v) ce rcX → (∀ r, r < N (col / 3) → fv r = D col r) → post (toX, soX, coX, ouX, kyX, moX, diX, rrX, rwX, ce, rcX, unX, rqX, taX, acX, sceX, srcX, sunX, srqX, staX, sacX, stX, cfX, cpX, chX, csX, okX, ocX, koX, kfX, cbX, mkX, fv, ovX, rsX, rtX)) : wpX_changeMarkedRows post (toX, soX, coX, ouX, kyX, moX, diX, rrX, rwX, ceX, rcX, unX, rqX, taX, acX, sceX, srcX, sunX, srqX, staX, sacX, stX, cfX, cpX, chX, csX, okX, ocX, koX, kfX, cbX, mkX, fvX, ovX, rsX, rtX) (nI col) (nI how) v := by
  have ht : col / 3 < 3 := by omega
  obtain ⟨hn, h16⟩ := hC.1 (col / 3) ht
  refine ⟨nz_3ne, nm_r (nz_d3 (by omega)) ⟨vp_in_nI ht (by decide), nm_r (e' := nI (N (col / 3))) (by rw [nI_clamp (by omega), hn]) ?_⟩⟩
  refine loop_0 (fun n i (s : (Nat → Int64) × (Nat → Int64)) => wX_changeMarkedRows_17 post (nI col) (nI how) v (nI (col / 3)) (nI (N (col / 3))) toX soX coX ouX kyX moX diX rrX rwX n (nI i) s.1 rcX unX rqX taX acX sceX srcX sunX srqX staX sacX stX cfX cpX chX csX okX ocX koX kfX cbX mkX s.2 ovX rsX rtX) (fun i s => (∀ c r, c < 9 → r < N (c / 3) → (c ≠ col ∨ i ≤ r) → s.1 (16 * c + r) = D c r) ∧ (∀ r, r < i → s.1 (16 * col + r) = ch_D D col M how v col r) ∧ ∀ r, r < i → s.2 r = D col r) (N (col / 3)) (ceX, fvX) ⟨fun c r hc hr _ => hC.2 c r hc hr, lt_0, lt_0⟩ ?_ ?_
  · intro n s hI
    refine br_t (nI_le (Nat.le_refl _) (by omega)) (h _ _ ⟨hC.1, fun c r hc' hr => ?_⟩ hI.2.2)
    by_cases e : c = col
    · subst e
      exact hI.2.1 r hr
    · rw [hI.1 c r hc' hr (Or.inl e), ch_o e]
  · intro n i s hi hI hn
    have hv1 : vp_in (16 * nI col + nI i) 144 := by rw [nz_16]; exact vp_in_nI (by omega) (by decide)
    have e1 : (16 * nI col + nI i).toNatClampNeg = 16 * col + i := by rw [nz_16, nI_clamp (by omega)]
    have ei : (nI i).toNatClampNeg = i := nI_clamp (by omega)
    refine br_f (nI_ge hi (by omega)) ⟨hv1, nm_r (e' := D col i) (by rw [e1]; exact hI.1 col i hc hi (Or.inr (Nat.le_refl _))) ⟨vp_in_nI (by omega) (by decide), nm_r (e' := vp_updL s.2 i (D col i)) (by rw [ei]) ⟨by rw [nz_16]; exact vp_in_nI (by omega) (by decide), ?_⟩⟩⟩
    have hfv : ∀ r, r < i + 1 → vp_updL s.2 i (D col i) r = D col r := lt_s (fun r hr => by rw [pk_uLn (by omega)]; exact hI.2.2 r hr) pk_uLs
    rw [show mkX (16 * nI (col / 3) + nI i).toNatClampNeg = bo_i (M (16 * (col / 3) + i)) by rw [nz_16, nI_clamp (by omega)]; exact hm _ (by omega)]
    by_cases hM : M (16 * (col / 3) + i) = true
    · refine br_f (bo_n.mpr hM) (xm_chval hh ⟨hv1, nm_r (e' := vp_updL s.1 (16 * col + i) (ch_v how v (D col i))) (by rw [e1]) (nm_r (nI_1 i) (hn (vp_updL s.1 (16 * col + i) (ch_v how v (D col i)), vp_updL s.2 i (D col i)) ⟨fun c r hc' hr hor => ?_, lt_s (fun r hr => ?_) ?_, hfv⟩))⟩)
      · have h16' := (hC.1 (c / 3) (by omega)).2
        show vp_updL s.1 (16 * col + i) (ch_v how v (D col i)) (16 * c + r) = D c r
        rw [pk_uLn (by rcases hor with z | z <;> omega)]
        exact hI.1 c r hc' hr (by rcases hor with z | z; exact Or.inl z; exact Or.inr (by omega))
      · show vp_updL s.1 (16 * col + i) (ch_v how v (D col i)) (16 * col + r) = _
        rw [pk_uLn (by omega)]
        exact hI.2.1 r hr
      · show vp_updL s.1 (16 * col + i) (ch_v how v (D col i)) (16 * col + i) = _
        rw [ch_t hM]
        exact pk_uLs
    · refine br_t (bo_0.mpr (by simpa using hM)) (nm_r (nI_1 i) (hn (s.1, vp_updL s.2 i (D col i)) ⟨fun c r hc' hr hor => ?_, lt_s hI.2.1 ?_, hfv⟩))
      · exact hI.1 c r hc' hr (by rcases hor with z | z; exact Or.inl z; exact Or.inr (by omega))
      · rw [ch_f hM]
        exact hI.1 col i hc hi (Or.inr (Nat.le_refl _))
theorem xm_chViol {post : Int32 → Prop} (hC : db_xc N D ceX rcX) (hk : db_k U R T A unX rqX taX acX) {col : Nat} (hc : col < 9) (h0 : (fi_t N D (U col) (R col) (T col) col ∧ ∀ q, q < 9 → T q = col → fi_s N D col q) → post 0) (h1 : ¬ (fi_t N D (U col) (R col) (T col) col ∧ ∀ q, q < 9 → T q = col → fi_s N D col q) → post 1) : wpX_changeViolates post (toX, soX, coX, ouX, kyX, moX, diX, rrX, rwX, ceX, rcX, unX, rqX, taX, acX, sceX, srcX, sunX, srqX, staX, sacX, stX, cfX, cpX, chX, csX, okX, ocX, koX, kfX, cbX, mkX, fvX, ovX, rsX, rtX) (nI col) := by
  unfold wpX_changeViolates
  dsimp only
  refine xm_fits hC hk hc (fun f => ?_) (fun f => br_t rfl (h1 (fun z => f z.1)))
  refine br_f (by decide) ?_
  refine loop_0 (fun n i (_ : Unit) => wX_changeViolates_12 post (nI col) toX soX coX ouX kyX moX diX rrX rwX ceX rcX unX rqX taX acX sceX srcX sunX srqX staX sacX stX cfX cpX chX csX okX ocX koX kfX cbX mkX fvX ovX rsX rtX n (nI i)) (fun i _ => ∀ q, q < i → T q = col → fi_s N D col q) 9 () lt_0 ?_ ?_
  · intro n _ hI
    exact br_t (by decide) (h0 ⟨f, hI⟩)
  · intro n i _ hi hI hn
    refine br_f (nI_ge (b := 9) hi (by decide)) ⟨vp_in_nI hi (by decide), ?_⟩
    rw [nI_clamp (by omega), (hk i hi).2.2.1]
    by_cases e : T i = col
    · refine br_t ((ta_eq hc).mpr e) (xm_hasStray hC hi hc (fun hs => ?_) (fun hs => ?_))
      · exact br_f (by decide) (h1 (fun z => hs (z.2 i hi e)))
      · exact br_t rfl (nm_r (nI_1 i) (hn () (lt_s hI (fun _ => hs))))
    · exact br_f (fun z => e ((ta_eq hc).mp z)) (nm_r (nI_1 i) (hn () (lt_s hI (fun z => absurd z e))))
theorem xm_chBack {post : SX → Prop} {D' : Nat → Nat → Int64} (hC : db_xc N D' ceX rcX) {col : Nat} (hc : col < 9) (hD : ∀ c r, c ≠ col → D' c r = D c r) (hf : ∀ r, r < N (col / 3) → fvX r = D col r) (h : ∀ ce, db_xc N D ce rcX → post (toX, soX, coX, ouX, kyX, moX, diX, rrX, rwX, ce, rcX, unX, rqX, taX, acX, sceX, srcX, sunX, srqX, staX, sacX, stX, cfX, cpX, chX, csX, okX, ocX, koX, kfX, cbX, mkX, fvX, ovX, rsX, rtX)) : wpX_takeChangeBack post (toX, soX, coX, ouX, kyX, moX, diX, rrX, rwX, ceX, rcX, unX, rqX, taX, acX, sceX, srcX, sunX, srqX, staX, sacX, stX, cfX, cpX, chX, csX, okX, ocX, koX, kfX, cbX, mkX, fvX, ovX, rsX, rtX) (nI col) := by
  have ht : col / 3 < 3 := by omega
  obtain ⟨hn, h16⟩ := hC.1 (col / 3) ht
  refine ⟨nz_3ne, by rw [nz_d3 (by omega)]; exact vp_in_nI ht (by decide), nm_r (e' := nI (N (col / 3))) (by rw [nz_d3 (by omega), nI_clamp (by omega), hn]) ?_⟩
  refine loop_0 (fun n i s => wX_takeChangeBack_11 post (nI col) (nI (N (col / 3))) toX soX coX ouX kyX moX diX rrX rwX n (nI i) s rcX unX rqX taX acX sceX srcX sunX srqX staX sacX stX cfX cpX chX csX okX ocX koX kfX cbX mkX fvX ovX rsX rtX) (fun i s => (∀ c r, c < 9 → r < N (c / 3) → c ≠ col → s (16 * c + r) = D c r) ∧ ∀ r, r < i → s (16 * col + r) = D col r) (N (col / 3)) ceX ⟨fun c r hc hr hne => by rw [hC.2 c r hc hr, hD c r hne], lt_0⟩ ?_ ?_
  · intro n s hI
    refine br_t (nI_le (Nat.le_refl _) (by omega)) (h _ ⟨hC.1, fun c r hc' hr => ?_⟩)
    by_cases e : c = col
    · subst e
      exact hI.2 r hr
    · exact hI.1 c r hc' hr e
  · intro n i s hi hI hn
    have hv1 : vp_in (16 * nI col + nI i) 144 := by rw [nz_16]; exact vp_in_nI (by omega) (by decide)
    have e1 : (16 * nI col + nI i).toNatClampNeg = 16 * col + i := by rw [nz_16, nI_clamp (by omega)]
    refine br_f (nI_ge hi (by omega)) ⟨vp_in_nI (by omega) (by decide), hv1, nm_r (e' := vp_updL s (16 * col + i) (D col i)) (by rw [e1, nI_clamp (by omega), hf i hi]) (nm_r (nI_1 i) (hn _ ⟨fun c r hc' hr hne => ?_, lt_s (fun r hr => ?_) pk_uLs⟩))⟩
    · have h16' := (hC.1 (c / 3) (by omega)).2
      rw [pk_uLn (by omega)]
      exact hI.1 c r hc' hr hne
    · rw [pk_uLn (by omega)]
      exact hI.2 r hr
theorem ch_all {D' : Nat → Nat → Int64} (hK : db_K N D U R T A) {col : Nat} (hc : col < 9) (hD : ∀ c r, c ≠ col → D' c r = D c r) : (fi_t N D' (U col) (R col) (T col) col ∧ ∀ q, q < 9 → T q = col → fi_s N D' col q) ↔ ∀ c, c < 9 → fi_t N D' (U c) (R c) (T c) c := by
  constructor
  · rintro ⟨h, hs⟩ c hc'
    by_cases e : c = col
    · subst e
      exact h
    · obtain ⟨_, _, f1, f2, f3⟩ := hK.1 c hc'
      refine ⟨fun hu i j hj hi hv => ?_, fun hr i hi => ?_, fun ht => ?_⟩
      · rw [hD _ _ e] at hv ⊢
        rw [hD _ _ e]
        exact f1 hu i j hj hi hv
      · rw [hD _ _ e]
        exact f2 hr i hi
      · by_cases et : T c = col
        · rw [et]
          exact hs c hc' et
        · intro i hi hv
          rw [hD _ _ e] at hv ⊢
          obtain ⟨j, hj, ej⟩ := f3 ht i hi hv
          exact ⟨j, hj, by rw [hD _ _ et]; exact ej⟩
  · intro h
    refine ⟨h col hc, fun q hq e => ?_⟩
    have := (h q hq).2.2 (by rw [e]; exact hc)
    rw [e] at this
    exact this
end
end
section
section
variable {toX soX coX ouX kyX moX diX rrX rwX : Int32} {ceX sceX fvX ovX rsX : Nat → Int64} {rcX unX rqX taX acX srcX sunX srqX staX sacX stX cfX cpX chX csX okX ocX koX kfX cbX mkX rtX : Nat → Int32} {opY soY coY ouY kyY liY diY cmY rrY wiY : Int32} {ceY oceY bceY rsY : Nat → Int64} {maY omaY bmaY unY rqY bunY brqY rfY acY brfY bacY srY csY ccY cpY cwY okY osY ocY koY ciY kfY cbY goY geY keY : Nat → Int32} {N : Nat → Nat} {D : Nat → Nat → Int64} {U R : Nat → Bool} {T A : Nat → Nat} {nc : Nat} {S CS CC CO : Nat → Nat} {CI : Nat → Bool} {CW : Nat → Int32} {M : Nat → Bool}
def ch_I (N : Nat → Nat) (D : Nat → Nat → Int64) (M : Nat → Bool) (t c how : Nat) (v : Int32) (i : Nat) (s : Nat → Int64) : Prop :=
  (∀ c' r, c' < 9 → r < N (c' / 3) → (c' ≠ 3 * t + c ∨ i ≤ r) → s (48 * (c' / 3) + 3 * r + c' % 3) = D c' r) ∧ ∀ r, r < i → s (48 * t + 3 * r + c) = ch_D D (3 * t + c) M how v (3 * t + c) r
theorem ch_I0 {t c how : Nat} {v : Int32} {i : Nat} {s : Nat → Int64} (h : ch_I N D M t c how v i s) (hc : c < 3) (ht : t < 3) (hi : i < N t) (e : ch_D D (3 * t + c) M how v (3 * t + c) i = D (3 * t + c) i) : ch_I N D M t c how v (i + 1) s := by
  refine ⟨fun c' r hc' hr hor => h.1 c' r hc' hr (by rcases hor with z | z; exact Or.inl z; exact Or.inr (by omega)), lt_s h.2 ?_⟩
  rw [e]
  have := h.1 (3 * t + c) i (by omega) (by rw [show (3 * t + c) / 3 = t by omega]; exact hi) (Or.inr (Nat.le_refl _))
  rw [show (3 * t + c) / 3 = t by omega, show (3 * t + c) % 3 = c by omega] at this
  exact this
theorem ch_I1 (h16 : ∀ t, t < 3 → N t ≤ 16) {t c how : Nat} {v : Int32} {i : Nat} {s : Nat → Int64} (h : ch_I N D M t c how v i s) (hc : c < 3) (ht : t < 3) (hi : i < N t) : ch_I N D M t c how v (i + 1) (vp_updL s (48 * t + 3 * i + c) (ch_D D (3 * t + c) M how v (3 * t + c) i)) := by
  have hN := h16 t ht
  refine ⟨fun c' r hc' hr hor => ?_, lt_s (fun r hr => ?_) pk_uLs⟩
  · have hN' := h16 (c' / 3) (by omega)
    rw [pk_uLn ?_]
    · exact h.1 c' r hc' hr (by rcases hor with z | z; exact Or.inl z; exact Or.inr (by omega))
    · intro z
      have h1 : c' / 3 = t := by omega
      have h2 : r = i := by omega
      have h3 : c' % 3 = c := by omega
      rcases hor with w | w
      · exact w (by omega)
      · omega
  · rw [pk_uLn (by omega)]
    exact h.2 r hr
theorem ch_IN {t c how : Nat} {v : Int32} {s : Nat → Int64} {ma : Nat → Int32} (h : ch_I N D M t c how v (N t) s) (hc : c < 3) (h1 : ∀ t, t < 3 → ma t = nI (N t) ∧ N t ≤ 16) : db_yc N (ch_D D (3 * t + c) M how v) s ma := by
  refine ⟨h1, fun c' r hc' hr => ?_⟩
  by_cases e : c' = 3 * t + c
  · subst e
    rw [show (3 * t + c) / 3 = t by omega] at hr ⊢
    rw [show (3 * t + c) % 3 = c by omega]
    exact h.2 r hr
  · rw [ch_o e]
    exact h.1 c' r hc' hr (Or.inl e)
theorem ym_ch107 {post : Int32 → SY → Prop} (hC : db_yc N D ceY maY) (hk : db_k U R T A unY rqY rfY acY) {t c how : Nat} {v p : Int32} (ht : t < 3) (hc : c < 3) (hh : how < 3) (hM : ∀ r, r < N t → geY (16 * t + r) = bo_i (M (16 * t + r)))
    (h1 : (∀ q, q < 9 → fi_t N (ch_D D (3 * t + c) M how v) (U q) (R q) (T q) q) → ∀ ce, db_yc N (ch_D D (3 * t + c) M how v) ce maY → post p (opY, soY, coY, ouY, kyY, liY, diY, cmY, rrY, wiY, ce, oceY, bceY, maY, omaY, bmaY, unY, rqY, bunY, brqY, rfY, acY, brfY, bacY, srY, csY, ccY, cpY, cwY, okY, osY, ocY, koY, ciY, kfY, cbY, goY, rsY, geY, keY))
    (h0 : (¬ ∀ q, q < 9 → fi_t N (ch_D D (3 * t + c) M how v) (U q) (R q) (T q) q) → ∀ ce ma, (∀ i, i < 144 → ce i = oceY i) → (∀ t, t < 3 → ma t = omaY t) → post (-3) (opY, soY, coY, ouY, kyY, liY, diY, cmY, rrY, wiY, ce, oceY, bceY, ma, omaY, bmaY, unY, rqY, bunY, brqY, rfY, acY, brfY, bacY, srY, csY, ccY, cpY, cwY, okY, osY, ocY, koY, ciY, kfY, cbY, goY, rsY, geY, keY)) : ∃ n, wY_change_107 post (nI c) (nI how) v p (nI t) opY soY coY ouY kyY liY diY cmY rrY wiY n 0 ceY oceY bceY maY omaY bmaY unY rqY bunY brqY rfY acY brfY bacY srY csY ccY cpY cwY okY osY ocY koY ciY kfY cbY goY rsY geY keY := by
  obtain ⟨hn, h16⟩ := hC.1 t ht
  have et : (nI t).toNatClampNeg = t := nI_clamp (by omega)
  have hi3 : vp_in (nI t) 3 := vp_in_nI ht (by decide)
  refine loop_0 (fun n i s => wY_change_107 post (nI c) (nI how) v p (nI t) opY soY coY ouY kyY liY diY cmY rrY wiY n (nI i) s oceY bceY maY omaY bmaY unY rqY bunY brqY rfY acY brfY bacY srY csY ccY cpY cwY okY osY ocY koY ciY kfY cbY goY rsY geY keY) (fun i s => ch_I N D M t c how v i s) (N t) ceY ⟨fun c r hc hr _ => hC.2 c r hc hr, lt_0⟩ ?_ ?_
  · intro n s hI
    refine ⟨hi3, ?_⟩
    rw [et, hn]
    refine br_t (nI_le (Nat.le_refl _) (by omega)) ?_
    have hC' := ch_IN hI hc hC.1
    exact ym_settle hC' hk (fun f => h1 f _ hC') (fun f ce ma g1 g2 => h0 f ce ma g1 g2)
  · intro n i s hi hI hn'
    have ex : ((48 * nI t) + (3 * nI i)) + nI c = nI (48 * t + 3 * i + c) := by rw [nz_48, nz_3m, nI_add, nI_add]
    have ev : (nI (48 * t + 3 * i + c)).toNatClampNeg = 48 * t + 3 * i + c := nI_clamp (by omega)
    have hvx : vp_in (nI (48 * t + 3 * i + c)) 144 := vp_in_nI (by omega) (by decide)
    have ecur : s (48 * t + 3 * i + c) = D (3 * t + c) i := by
      have := hI.1 (3 * t + c) i (by omega) (by rw [show (3 * t + c) / 3 = t by omega]; exact hi) (Or.inr (Nat.le_refl _))
      rw [show (3 * t + c) / 3 = t by omega, show (3 * t + c) % 3 = c by omega] at this
      exact this
    refine ⟨hi3, ?_⟩
    rw [et, hn]
    refine br_f (nI_ge hi (by omega)) (nm_r ex ⟨by rw [nz_16]; exact vp_in_nI (by omega) (by decide), ?_⟩)
    rw [show geY (16 * nI t + nI i).toNatClampNeg = bo_i (M (16 * t + i)) by rw [nz_16, nI_clamp (by omega)]; exact hM i hi, ev, ecur]
    have hdiv : (3 * t + c) / 3 = t := by omega
    by_cases m : M (16 * t + i) = true
    · refine br_f (bo_n.mpr m) ?_
      have step : ∀ w, w = ch_v how v (D (3 * t + c) i) → wY_change_107 post (nI c) (nI how) v p (nI t) opY soY coY ouY kyY liY diY cmY rrY wiY n (nI (i + 1)) (vp_updL s (48 * t + 3 * i + c) w) oceY bceY maY omaY bmaY unY rqY bunY brqY rfY acY brfY bacY srY csY ccY cpY cwY okY osY ocY koY ciY kfY cbY goY rsY geY keY := by
        intro w ew
        have ed : ch_D D (3 * t + c) M how v (3 * t + c) i = w := by
          rw [ew]
          exact ch_t (by rw [hdiv]; exact m)
        have := hn' _ (ch_I1 (fun t ht => (hC.1 t ht).2) hI hc ht hi)
        rw [ed] at this
        exact this
      by_cases e0 : how = 0
      · subst e0
        exact br_t rfl ⟨hvx, nm_e (nm_r (nI_1 i) (step _ rfl))⟩
      · refine br_f (op_ne (b := 0) (by omega) (by decide) e0) ?_
        by_cases e1 : how = 1
        · subst e1
          exact br_t rfl ⟨hvx, nm_e (nm_r (nI_1 i) (step _ rfl))⟩
        · refine br_f (op_ne (b := 1) (by omega) (by decide) e1) ⟨hvx, ?_⟩
          have eh : ch_v how v (D (3 * t + c) i) = if D (3 * t + c) i = nu_l then nu_l else ((D (3 * t + c) i).toInt32 + v).toInt64 := by
            unfold ch_v
            rw [if_neg e0, if_neg e1]
          by_cases e2 : D (3 * t + c) i = nu_l
          · refine br_t e2 (nm_r (nI_1 i) (hn' s (ch_I0 hI hc ht hi ?_)))
            rw [ch_t (by rw [hdiv]; exact m), eh, if_pos e2, e2]
          · refine br_f e2 ⟨hvx, hvx, nm_e (nm_r (nI_1 i) (step _ ?_))⟩
            rw [eh, if_neg e2, ch_add]
    · refine br_t (bo_0.mpr (by simpa using m)) (nm_r (nI_1 i) (hn' s (ch_I0 hI hc ht hi (ch_f (by rw [hdiv]; exact m)))))
theorem yv_change {post : Int32 → SY → Prop} (hC : db_yc N D ceY maY) (hkk : db_k U R T A unY rqY rfY acY) {ns : Nat} (hk : ck_c ns nc S CS CC CO CI CW) (hsr : ∀ s, s < ns → srY s = nI (S s)) (hc : cy_c nc CS CC CO CI CW csY ccY cpY ciY cwY) {p0 p1 p2 : Int32}
    (hb : (ns ≠ 1 ∨ (∀ j, j < 3 → p0 ≠ nI j) ∨ (∀ j, j < 3 → p1 ≠ nI j)) → post (-1) (opY, nI ns, nI nc, ouY, kyY, liY, diY, cmY, rrY, wiY, ceY, oceY, bceY, maY, omaY, bmaY, unY, rqY, bunY, brqY, rfY, acY, brfY, bacY, srY, csY, ccY, cpY, cwY, okY, osY, ocY, koY, ciY, kfY, cbY, goY, rsY, geY, keY))
    (hi : ∀ c how, ns = 1 → c < 3 → how < 3 → p0 = nI c → p1 = nI how → ∀ M, M = mh_B (S 0) (N (S 0)) (fun r => co_h D S (ro_w (256 * r)) CS CC CO CI CW nc) → (∀ q, q < 9 → fi_t N (ch_D D (3 * S 0 + c) M how p2) (U q) (R q) (T q) q) → ∀ ce oce oma ge, db_yc N (ch_D D (3 * S 0 + c) M how p2) ce maY → post (nI (cn_b (fun r => M (16 * S 0 + r)) (N (S 0)))) (opY, nI ns, nI nc, ouY, kyY, liY, diY, cmY, rrY, wiY, ce, oce, bceY, maY, oma, bmaY, unY, rqY, bunY, brqY, rfY, acY, brfY, bacY, srY, csY, ccY, cpY, cwY, okY, osY, ocY, koY, ciY, kfY, cbY, goY, rsY, ge, keY))
    (hv : ∀ c how, ns = 1 → c < 3 → how < 3 → p0 = nI c → p1 = nI how → ∀ M, M = mh_B (S 0) (N (S 0)) (fun r => co_h D S (ro_w (256 * r)) CS CC CO CI CW nc) → (¬ ∀ q, q < 9 → fi_t N (ch_D D (3 * S 0 + c) M how p2) (U q) (R q) (T q) q) → ∀ ce ma oce oma ge, db_yc N D ce ma → post (-3) (opY, nI ns, nI nc, ouY, kyY, liY, diY, cmY, rrY, wiY, ce, oce, bceY, ma, oma, bmaY, unY, rqY, bunY, brqY, rfY, acY, brfY, bacY, srY, csY, ccY, cpY, cwY, okY, osY, ocY, koY, ciY, kfY, cbY, goY, rsY, ge, keY)) : wpY_change post (opY, nI ns, nI nc, ouY, kyY, liY, diY, cmY, rrY, wiY, ceY, oceY, bceY, maY, omaY, bmaY, unY, rqY, bunY, brqY, rfY, acY, brfY, bacY, srY, csY, ccY, cpY, cwY, okY, osY, ocY, koY, ciY, kfY, cbY, goY, rsY, geY, keY) p0 p1 p2 := by
  have h3 := hk.1
  refine pk_eq ns 1 (fun e => ?_) (fun e => hb (Or.inl e))
  subst e
  refine ym_within (n := 3) (by decide) (fun h => br_t rfl (hb (Or.inr (Or.inl h)))) (fun c hc3 e0 => br_f (by decide) (ym_within (n := 3) (by decide) (fun h => br_t rfl (hb (Or.inr (Or.inr h)))) (fun how hh e1 => br_f (by decide) (ym_save (fun oce oma g1 g2 => ?_)))))
  have hi2 := hi c how rfl hc3 hh e0 e1
  have hv2 := hv c how rfl hc3 hh e0 e1
  clear hi hv hb
  subst e0 e1
  have ht : S 0 < 3 := hk.2.2.1 0 (by decide)
  obtain ⟨hn, h16⟩ := hC.1 (S 0) ht
  refine nm_r (hsr 0 (by decide)) ?_
  generalize hP : (fun r => co_h D S (ro_w (256 * r)) CS CC CO CI CW nc) = P at hi2 hv2
  have hi3 := hi2 _ rfl
  have hv3 := hv2 _ rfl
  clear hi2 hv2
  generalize hM : mh_B (S 0) (N (S 0)) P = M at hi3 hv3
  have et : (nI (S 0)).toNatClampNeg = S 0 := nI_clamp (by omega)
  have hi0 : vp_in (nI (S 0)) 3 := vp_in_nI ht (by decide)
  refine loop_0 (fun n i s => wY_change_44 post (nI c) (nI how) p2 (nI (S 0)) opY (nI 1) (nI nc) ouY kyY liY diY cmY rrY wiY n (nI (cn_b (fun r => M (16 * S 0 + r)) i)) (nI i) ceY oce bceY maY oma bmaY unY rqY bunY brqY rfY acY brfY bacY srY csY ccY cpY cwY okY osY ocY koY ciY kfY cbY goY rsY s keY) (fun i s => ∀ r, r < i → s (16 * S 0 + r) = bo_i (M (16 * S 0 + r))) (N (S 0)) geY lt_0 ?_ ?_
  · intro n s hI
    refine ⟨hi0, ?_⟩
    rw [et, hn]
    refine br_t (nI_le (Nat.le_refl _) (by omega)) ?_
    refine ym_ch107 hC hkk ht hc3 hh hI (fun f ce hC' => hi3 f ce oce oma s hC') (fun f ce ma a1 a2 => hv3 f ce ma oce oma s (dy_ext hC (fun i hi => (a1 i hi).trans (g1 i hi)) (fun i hi => (a2 i hi).trans (g2 i hi))))
  · intro n i s hi' hI hn'
    refine ⟨hi0, ?_⟩
    rw [et, hn]
    refine br_f (nI_ge hi' (by omega)) ?_
    rw [show 256 * nI i = nI (256 * i) from pk_mul 256 i]
    have hvx : vp_in (16 * nI (S 0) + nI i) 48 := by rw [nz_16]; exact vp_in_nI (by omega) (by decide)
    have ex : (16 * nI (S 0) + nI i).toNatClampNeg = 16 * S 0 + i := by rw [nz_16, nI_clamp (by omega)]
    have nxt : ∀ b, M (16 * S 0 + i) = b → ∀ r, r < i + 1 → upd s (16 * S 0 + i) (bo_i b) (16 * S 0 + r) = bo_i (M (16 * S 0 + r)) := by
      intro b eb
      refine lt_s (fun r hr => ?_) ?_
      · rw [pk_un (by omega)]
        exact hI r hr
      · rw [pk_us, eb]
    refine ym_holds hC hk hsr hc (by omega) (fun q hq => ?_) (fun z => ?_) (fun z => ?_)
    · have : q = 0 := by omega
      subst this
      rw [ro_256 (by omega)]
      exact hi'
    · have hPi : P i := by rw [← hP]; exact z
      have hb : M (16 * S 0 + i) = true := by rw [← hM]; exact (mh_r (by omega)).mpr ⟨hi', hPi⟩
      refine ⟨hvx, nm_r (e' := upd s (16 * S 0 + i) (bo_i true)) (by rw [ex, bo_nar1]) ⟨hvx, ?_⟩⟩
      rw [ex, pk_us]
      refine br_f (by decide) (nm_r (e' := nI (cn_b (fun r => M (16 * S 0 + r)) (i + 1))) (by rw [cn_t (f := fun r => M (16 * S 0 + r)) hb, nI_1]) (nm_r (nI_1 i) (hn' _ (nxt _ hb))))
    · have hPi : ¬ P i := by rw [← hP]; exact z
      have hb : M (16 * S 0 + i) = false := by
        rw [← hM, Bool.eq_false_iff]
        exact fun w => hPi ((mh_r (by omega)).mp w).2
      refine ⟨hvx, nm_r (e' := upd s (16 * S 0 + i) (bo_i false)) (by rw [ex, bo_nar0]) ⟨hvx, ?_⟩⟩
      rw [ex, pk_us]
      refine br_t rfl (nm_r (nI_1 i) ?_)
      have := hn' _ (nxt _ hb)
      rw [cn_f (f := fun r => M (16 * S 0 + r)) (by show ¬ M (16 * S 0 + i) = true; rw [hb]; decide)] at this
      exact this
end
theorem i_vc_change {k : Nat} {u : SX} {v : SY} (I : i_Rel k u v) (hk : k + 6 ≤ 3072) (v1 : Int32) (v2 : Int32) (v3 : Int32) : wpX_change (fun r u' => wpY_change (fun r' v' => r' = r ∧ i_Rel (k + 6) u' v') v v1 v2 v3) u v1 v2 v3 := by
  rcases u with ⟨toX, soX, coX, ouX, kyX, moX, diX, rrX, rwX, ceX, rcX, unX, rqX, taX, acX, sceX, srcX, sunX, srqX, staX, sacX, stX, cfX, cpX, chX, csX, okX, ocX, koX, kfX, cbX, mkX, fvX, ovX, rsX, rtX⟩
  rcases v with ⟨opY, soY, coY, ouY, kyY, liY, diY, cmY, rrY, wiY, ceY, oceY, bceY, maY, omaY, bmaY, unY, rqY, bunY, brqY, rfY, acY, brfY, bacY, srY, csY, ccY, cpY, cwY, okY, osY, ocY, koY, ciY, kfY, cbY, goY, rsY, geY, keY⟩
  obtain ⟨hdb, hsv, hdr, hli, hre⟩ := I
  have keep := hdb
  have keepd := hdr
  obtain ⟨N, D, U, R, T, A, hx, hxk, hy, hyk, hK⟩ := hdb
  obtain ⟨ns, nc, no, nk, S, CS, CC, CO, CI, CW, OK, OS, OC, KO, ⟨rfl, rfl, rfl, rfl⟩, ⟨rfl, rfl, rfl, rfl⟩, hS, hc, ho, hq, hKd⟩ := hdr
  have hck : ck_c ns nc S CS CC CO CI CW := ⟨hKd.1.1, hKd.1.2.1, hKd.2.1, hKd.2.2.1⟩
  have hcx : cx_c nc CS CC CO CI CW cfX cpX chX csX := fun k hk => (hc k hk).1
  have hcy : cy_c nc CS CC CO CI CW csY ccY cpY ciY cwY := fun k hk => (hc k hk).2
  have hst : ∀ s, s < ns → stX s = nI (S s) := fun s hs => (hS s hs).1
  have hsr : ∀ s, s < ns → srY s = nI (S s) := fun s hs => (hS s hs).2
  have h3 := hKd.1.1
  have bad : (ns ≠ 1 ∨ (∀ j, j < 3 → v1 ≠ nI j) ∨ (∀ j, j < 3 → v2 ≠ nI j)) → wpY_change (fun r' v' => r' = -1 ∧ i_Rel (k + 6) (toX, nI ns, nI nc, nI no, nI nk, moX, diX, rrX, rwX, ceX, rcX, unX, rqX, taX, acX, sceX, srcX, sunX, srqX, staX, sacX, stX, cfX, cpX, chX, csX, okX, ocX, koX, kfX, cbX, mkX, fvX, ovX, rsX, rtX) v') (opY, nI ns, nI nc, nI no, nI nk, liY, diY, cmY, rrY, wiY, ceY, oceY, bceY, maY, omaY, bmaY, unY, rqY, bunY, brqY, rfY, acY, brfY, bacY, srY, csY, ccY, cpY, cwY, okY, osY, ocY, koY, ciY, kfY, cbY, goY, rsY, geY, keY) v1 v2 v3 := by
    intro hb
    have no' : ∀ {P : Prop} {a b : Nat}, ns = 1 → a < 3 → b < 3 → v1 = nI a → v2 = nI b → P := by
      intro P a b e ha hb' ea eb
      rcases hb with z | z | z
      · exact absurd e z
      · exact rg_no z ha ea
      · exact rg_no z hb' eb
    exact yv_change hy hyk hck hsr hcy (fun _ => ⟨rfl, keep, hsv, keepd, hli, hre⟩) (fun _ _ e a b ea eb => no' e a b ea eb) (fun _ _ e a b ea eb => no' e a b ea eb)
  refine pk_eq ns 1 (fun e => ?_) (fun e => bad (Or.inl e))
  subst e
  refine xm_out v1 (fun hout => br_f (by decide) (bad (Or.inr (Or.inl hout)))) (fun c hc3 e1 => br_t rfl (rg_le 2 (fun hout => bad (Or.inr (Or.inr hout))) (fun how hh e2 => ?_)))
  refine xm_mark hx hck hst hcx (fun cb mk hm => ?_)
  have ht : S 0 < 3 := hKd.2.1 0 (by decide)
  subst e1 e2
  have go : ∀ M, M = mh_B (S 0) (N (S 0)) (fun r => co_h D S (ro_w (256 * r)) CS CC CO CI CW nc) → (∀ x, x < 48 → mk x = bo_i (M x)) → wpX_changeMarkedRows (fun u => match u with | (toX, soX, coX, ouX, kyX, moX, diX, rrX, rwX, ceX, rcX, unX, rqX, taX, acX, sceX, srcX, sunX, srqX, staX, sacX, stX, cfX, cpX, chX, csX, okX, ocX, koX, kfX, cbX, mkX, fvX, ovX, rsX, rtX) => (wpX_changeViolates (fun r_81 => (((r_81 = 0 → ((fun r u' => wpY_change (fun r' v' => r' = r ∧ i_Rel (k + 6) u' v') (opY, nI 1, nI nc, nI no, nI nk, liY, diY, cmY, rrY, wiY, ceY, oceY, bceY, maY, omaY, bmaY, unY, rqY, bunY, brqY, rfY, acY, brfY, bacY, srY, csY, ccY, cpY, cwY, okY, osY, ocY, koY, ciY, kfY, cbY, goY, rsY, geY, keY) (nI c) (nI how) v3) (nI (cn_b (fun r => M (16 * S 0 + r)) (N (S 0)))) (toX, soX, coX, ouX, kyX, moX, diX, rrX, rwX, ceX, rcX, unX, rqX, taX, acX, sceX, srcX, sunX, srqX, staX, sacX, stX, cfX, cpX, chX, csX, okX, ocX, koX, kfX, cbX, mkX, fvX, ovX, rsX, rtX))) ∧ (¬ r_81 = 0 → (wpX_takeChangeBack (fun u => match u with | (toX, soX, coX, ouX, kyX, moX, diX, rrX, rwX, ceX, rcX, unX, rqX, taX, acX, sceX, srcX, sunX, srqX, staX, sacX, stX, cfX, cpX, chX, csX, okX, ocX, koX, kfX, cbX, mkX, fvX, ovX, rsX, rtX) => ((fun r u' => wpY_change (fun r' v' => r' = r ∧ i_Rel (k + 6) u' v') (opY, nI 1, nI nc, nI no, nI nk, liY, diY, cmY, rrY, wiY, ceY, oceY, bceY, maY, omaY, bmaY, unY, rqY, bunY, brqY, rfY, acY, brfY, bacY, srY, csY, ccY, cpY, cwY, okY, osY, ocY, koY, ciY, kfY, cbY, goY, rsY, geY, keY) (nI c) (nI how) v3) (-3) (toX, soX, coX, ouX, kyX, moX, diX, rrX, rwX, ceX, rcX, unX, rqX, taX, acX, sceX, srcX, sunX, srqX, staX, sacX, stX, cfX, cpX, chX, csX, okX, ocX, koX, kfX, cbX, mkX, fvX, ovX, rsX, rtX))) (toX, soX, coX, ouX, kyX, moX, diX, rrX, rwX, ceX, rcX, unX, rqX, taX, acX, sceX, srcX, sunX, srqX, staX, sacX, stX, cfX, cpX, chX, csX, okX, ocX, koX, kfX, cbX, mkX, fvX, ovX, rsX, rtX) (nI (3 * S 0 + c))))))) (toX, soX, coX, ouX, kyX, moX, diX, rrX, rwX, ceX, rcX, unX, rqX, taX, acX, sceX, srcX, sunX, srqX, staX, sacX, stX, cfX, cpX, chX, csX, okX, ocX, koX, kfX, cbX, mkX, fvX, ovX, rsX, rtX) (nI (3 * S 0 + c)))) (toX, nI 1, nI nc, nI no, nI nk, moX, diX, rrX, rwX, ceX, rcX, unX, rqX, taX, acX, sceX, srcX, sunX, srqX, staX, sacX, stX, cfX, cpX, chX, csX, okX, ocX, koX, kfX, cb, mk, fvX, ovX, rsX, rtX) (nI (3 * S 0 + c)) (nI how) v3 := by
    intro M hM hm
    have un : ∀ {a b : Nat}, a < 3 → b < 3 → nI c = nI a → nI how = nI b → a = c ∧ b = how := by
      intro a b ha hb ea eb
      rw [nI_eq (by omega) (by omega)] at ea eb
      exact ⟨ea.symm, eb.symm⟩
    have nob : ∀ {P : Prop}, ((1 : Nat) ≠ 1 ∨ (∀ j, j < 3 → nI c ≠ nI j) ∨ (∀ j, j < 3 → nI how ≠ nI j)) → P := by
      intro P z
      rcases z with z | z | z
      · exact absurd rfl z
      · exact rg_no z hc3 rfl
      · exact rg_no z hh rfl
    have hD : ∀ c' r, c' ≠ 3 * S 0 + c → ch_D D (3 * S 0 + c) M how v3 c' r = D c' r := fun c' r e => ch_o e
    have hall := ch_all hK (col := 3 * S 0 + c) (by omega) hD
    refine xm_chMarked hx hm (col := 3 * S 0 + c) (by omega) hh (fun ce fv hx' hf => ?_)
    refine xm_chViol hx' hxk (by omega) (fun f => br_t rfl ?_) (fun f => br_f (by decide) (xm_chBack hx' (by omega) hD hf (fun ce' hx2 => ?_)))
    · refine yv_change hy hyk hck hsr hcy nob (fun a b _ ha hb ea eb M' hM' f' ce' oce oma ge hy' => ?_) (fun a b _ ha hb ea eb M' hM' f' => ?_)
      · obtain ⟨rfl, rfl⟩ := un ha hb ea eb
        rw [← hM] at hM'
        subst hM'
        refine ⟨rfl, ⟨N, _, U, R, T, A, hx', hxk, hy', hyk, ⟨fun q hq => ⟨(hK.1 q hq).1, (hK.1 q hq).2.1, f' q hq⟩, fun q r hq hr => ?_⟩⟩, hsv, keepd, hli, hre⟩
        unfold ch_D
        split
        · exact ch_val
        · exact hK.2 q r hq hr
      · obtain ⟨rfl, rfl⟩ := un ha hb ea eb
        rw [← hM] at hM'
        subst hM'
        exact absurd (hall.mp f) f'
    · refine yv_change hy hyk hck hsr hcy nob (fun a b _ ha hb ea eb M' hM' f' => ?_) (fun a b _ ha hb ea eb M' hM' f' ce2 ma2 oce oma ge hy' => ?_)
      · obtain ⟨rfl, rfl⟩ := un ha hb ea eb
        rw [← hM] at hM'
        subst hM'
        exact absurd (hall.mpr f') f
      · exact ⟨rfl, ⟨N, D, U, R, T, A, hx2, hxk, hy', hyk, hK⟩, hsv, keepd, hli, hre⟩
  refine nm_r (e' := nI (3 * S 0 + c)) (by rw [hst 0 (by decide), nz_3]) ?_
  exact go _ rfl hm
end
section
/-! erase: the mathematics -/
def lo_p (N : Nat → Nat) (D : Nat → Nat → Int64) (T : Nat → Nat) (M : Nat → Bool) (c r : Nat) : Prop := D c r ≠ nu_l ∧ T c < 9 ∧ ∃ j, j < N (T c / 3) ∧ M (16 * (T c / 3) + j) = true ∧ D (T c) j = D c r
def cl_c (N : Nat → Nat) (D : Nat → Nat → Int64) (T A : Nat → Nat) (M : Nat → Bool) : Prop := ∀ c r, c < 9 → r < N (c / 3) → A c = 1 → lo_p N D T M c r → M (16 * (c / 3) + r) = true
def le_m (M Q : Nat → Bool) : Prop := ∀ x, x < 48 → M x = true → Q x = true
def sn_d (N : Nat → Nat) (D : Nat → Nat → Int64) (T A : Nat → Nat) (M0 M : Nat → Bool) : Prop := le_m M0 M ∧ ∀ Q, cl_c N D T A Q → le_m M0 Q → le_m M Q
theorem lo_mono {N : Nat → Nat} {D : Nat → Nat → Int64} {T : Nat → Nat} {M Q : Nat → Bool} (hN : ∀ t, t < 3 → N t ≤ 16) (h : le_m M Q) {c r : Nat} (hl : lo_p N D T M c r) : lo_p N D T Q c r := by
  obtain ⟨a, b, j, hj, hm, e⟩ := hl
  have := hN (T c / 3) (by omega)
  exact ⟨a, b, j, hj, h _ (by omega) hm, e⟩
def st_b (M : Nat → Bool) (x : Nat) : Nat → Bool := fun y => if y = x then true else M y
theorem st_s {M : Nat → Bool} {x : Nat} : st_b M x x = true := if_pos rfl
theorem st_o {M : Nat → Bool} {x y : Nat} (h : y ≠ x) : st_b M x y = M y := if_neg h
theorem st_le {M : Nat → Bool} {x : Nat} : le_m M (st_b M x) := by
  intro y _ h
  unfold st_b
  split
  · rfl
  · exact h
theorem st_ar {M : Nat → Bool} {x : Nat} {mk : Nat → Int32} (h : ∀ y, y < 48 → mk y = bo_i (M y)) : ∀ y, y < 48 → upd mk x (bo_i true) y = bo_i (st_b M x y) := by
  intro y hy
  by_cases e : y = x
  · subst e
    rw [pk_us, st_s]
  · rw [pk_un e, st_o e, h y hy]
theorem sn_step {N : Nat → Nat} {D : Nat → Nat → Int64} {T A : Nat → Nat} {M0 M : Nat → Bool} (hN : ∀ t, t < 3 → N t ≤ 16) (h : sn_d N D T A M0 M) {c r : Nat} (hc : c < 9) (hr : r < N (c / 3)) (ha : A c = 1) (hl : lo_p N D T M c r) : sn_d N D T A M0 (st_b M (16 * (c / 3) + r)) := by
  refine ⟨fun x hx hm => st_le x hx (h.1 x hx hm), fun Q hQ h0 x hx hm => ?_⟩
  by_cases e : x = 16 * (c / 3) + r
  · rw [e]
    exact hQ c r hc hr ha (lo_mono hN (h.2 Q hQ h0) hl)
  · rw [st_o e] at hm
    exact h.2 Q hQ h0 x hx hm
theorem sn_refl {N : Nat → Nat} {D : Nat → Nat → Int64} {T A : Nat → Nat} {M0 : Nat → Bool} : sn_d N D T A M0 M0 := ⟨fun _ _ h => h, fun _ _ h => h⟩
theorem sn_uni {N : Nat → Nat} {D : Nat → Nat → Int64} {T A : Nat → Nat} {M0 M Q : Nat → Bool} (h1 : sn_d N D T A M0 M) (c1 : cl_c N D T A M) (h2 : sn_d N D T A M0 Q) (c2 : cl_c N D T A Q) : ∀ x, x < 48 → M x = Q x := fun x hx => Bool.eq_iff_iff.mpr ⟨h1.2 Q c2 h2.1 x hx, h2.2 M c1 h1.1 x hx⟩
/-- counting the marks -/
theorem cn_st {M : Nat → Bool} {x : Nat} (h : M x = false) : ∀ n, cn_b (st_b M x) n = cn_b M n + (if x < n then 1 else 0) := by
  intro n
  induction n with
  | zero => rfl
  | succ n ih =>
    by_cases e : n = x
    · subst e
      rw [cn_t st_s, ih, if_neg (Nat.lt_irrefl n), if_pos (Nat.lt_succ_self n), cn_f (by rw [h]; decide)]
    · have e1 : (if x < n + 1 then 1 else 0) = (if x < n then 1 else 0 : Nat) := by
        by_cases z : x < n
        · rw [if_pos z, if_pos (by omega)]
        · rw [if_neg z, if_neg (by omega)]
      show cn_b (st_b M x) n + (if st_b M x n = true then 1 else 0) = cn_b M n + (if M n = true then 1 else 0) + _
      rw [ih, st_o e, e1]
      omega
theorem cn_pos {M : Nat → Bool} {x : Nat} (h : M x = true) : ∀ n, x < n → 1 ≤ cn_b M n := by
  intro n
  induction n with
  | zero => intro z; omega
  | succ n ih =>
    intro z
    by_cases e : x = n
    · subst e
      rw [cn_t h]
      omega
    · have := ih (by omega)
      show 1 ≤ cn_b M n + _
      omega
theorem cn_up {f : Nat → Bool} {a b : Nat} (h : a ≤ b) : cn_b f a ≤ cn_b f b := by
  induction b with
  | zero =>
    have : a = 0 := by omega
    subst this
    exact Nat.le_refl _
  | succ b ih =>
    by_cases e : a = b + 1
    · subst e
      exact Nat.le_refl _
    · exact Nat.le_trans (ih (by omega)) (Nat.le_add_right _ _)
theorem cn_lt {f : Nat → Bool} {a b : Nat} (h : a < b) (ha : f a = true) : cn_b f a < cn_b f b := by
  have := cn_up (f := f) (show a + 1 ≤ b from h)
  rw [cn_t ha] at this
  exact this
theorem cn_inj {f : Nat → Bool} {a b : Nat} (ha : f a = true) (hb : f b = true) (e : cn_b f a = cn_b f b) : a = b := by
  rcases Nat.lt_trichotomy a b with z | z | z
  · have := cn_lt z ha
    omega
  · exact z
  · have := cn_lt z hb
    omega
/-- the j-th index that counts -/
def se_l (f : Nat → Bool) : Nat → Nat → Nat
  | 0, _ => 0
  | n + 1, j => if f n = true ∧ cn_b f n = j then n else se_l f n j
theorem se_i {f : Nat → Bool} : ∀ n j, j < cn_b f n → se_l f n j < n ∧ f (se_l f n j) = true ∧ cn_b f (se_l f n j) = j := by
  intro n
  induction n with
  | zero => intro j h; exact absurd h (Nat.not_lt_zero _)
  | succ n ih =>
    intro j h
    unfold se_l
    by_cases e : f n = true ∧ cn_b f n = j
    · rw [if_pos e]
      exact ⟨Nat.lt_succ_self n, e.1, e.2⟩
    · rw [if_neg e]
      have hj : j < cn_b f n := by
        by_cases hf : f n = true
        · rw [cn_t hf] at h
          have : cn_b f n ≠ j := fun z => e ⟨hf, z⟩
          omega
        · rw [cn_f hf] at h
          exact h
      obtain ⟨a, b, c⟩ := ih j hj
      exact ⟨by omega, b, c⟩
theorem se_cn {f : Nat → Bool} {n r : Nat} (hr : r < n) (hf : f r = true) : se_l f n (cn_b f r) = r := by
  obtain ⟨_, b, c⟩ := se_i n (cn_b f r) (cn_lt hr hf)
  exact cn_inj b hf c
/-- which rows of a table stay -/
def sy_b (M : Nat → Bool) (t : Nat) : Nat → Bool := fun r => !(M (16 * t + r))
theorem sy_i {M : Nat → Bool} {t r : Nat} : sy_b M t r = true ↔ M (16 * t + r) = false := by
  unfold sy_b
  cases M (16 * t + r) <;> simp
/-- cleared contents, then shrunk -/
noncomputable def cl_D (N : Nat → Nat) (D : Nat → Nat → Int64) (T A : Nat → Nat) (M : Nat → Bool) : Nat → Nat → Int64 := fun c r => @ite _ (A c = 2 ∧ lo_p N D T M c r) (Classical.propDecidable _) nu_l (D c r)
theorem cl_t {N : Nat → Nat} {D : Nat → Nat → Int64} {T A : Nat → Nat} {M : Nat → Bool} {c r : Nat} (h : A c = 2 ∧ lo_p N D T M c r) : cl_D N D T A M c r = nu_l := if_pos h
theorem cl_f {N : Nat → Nat} {D : Nat → Nat → Int64} {T A : Nat → Nat} {M : Nat → Bool} {c r : Nat} (h : ¬ (A c = 2 ∧ lo_p N D T M c r)) : cl_D N D T A M c r = D c r := if_neg h
theorem cl_or {N : Nat → Nat} {D : Nat → Nat → Int64} {T A : Nat → Nat} {M : Nat → Bool} (c r : Nat) : cl_D N D T A M c r = nu_l ∨ cl_D N D T A M c r = D c r := by
  by_cases h : A c = 2 ∧ lo_p N D T M c r
  · exact Or.inl (cl_t h)
  · exact Or.inr (cl_f h)
theorem cl_nn {N : Nat → Nat} {D : Nat → Nat → Int64} {T A : Nat → Nat} {M : Nat → Bool} {c r : Nat} (h : cl_D N D T A M c r ≠ nu_l) : cl_D N D T A M c r = D c r := by
  rcases cl_or (N := N) (D := D) (T := T) (A := A) (M := M) c r with z | z
  · exact absurd z h
  · exact z
def sh_N (N : Nat → Nat) (M : Nat → Bool) : Nat → Nat := fun t => cn_b (sy_b M t) (N t)
def sh_D (N : Nat → Nat) (E : Nat → Nat → Int64) (M : Nat → Bool) : Nat → Nat → Int64 := fun c j => E c (se_l (sy_b M (c / 3)) (N (c / 3)) j)
theorem sh_r {N : Nat → Nat} {E : Nat → Nat → Int64} {M : Nat → Bool} {c r : Nat} (hr : r < N (c / 3)) (hs : M (16 * (c / 3) + r) = false) : sh_D N E M c (cn_b (sy_b M (c / 3)) r) = E c r := by
  unfold sh_D
  rw [se_cn hr (sy_i.mpr hs)]
theorem sh_e {N : Nat → Nat} {E : Nat → Nat → Int64} {M : Nat → Bool} {c j : Nat} (hj : j < sh_N N M (c / 3)) : ∃ r, r < N (c / 3) ∧ M (16 * (c / 3) + r) = false ∧ cn_b (sy_b M (c / 3)) r = j ∧ sh_D N E M c j = E c r := by
  obtain ⟨a, b, d⟩ := se_i _ _ hj
  exact ⟨_, a, sy_i.mp b, d, rfl⟩
theorem sh_lt {N : Nat → Nat} {M : Nat → Bool} {t r : Nat} (hr : r < N t) (hs : M (16 * t + r) = false) : cn_b (sy_b M t) r < sh_N N M t := cn_lt hr (sy_i.mpr hs)
/-- what X asks before it erases -/
def ev_p (N : Nat → Nat) (D : Nat → Nat → Int64) (R : Nat → Bool) (T A : Nat → Nat) (M : Nat → Bool) (c i : Nat) : Prop :=
  M (16 * (c / 3) + i) = false ∧ lo_p N D T M c i ∧ (A c = 0 ∨ R c = true ∨ ∃ q, q < 9 ∧ T q = c ∧ ∃ j, j < N (q / 3) ∧ M (16 * (q / 3) + j) = false ∧ D q j = D c i)
section
variable {N : Nat → Nat} {D : Nat → Nat → Int64} {U R : Nat → Bool} {T A : Nat → Nat} {M : Nat → Bool}
theorem fu_eq {c : Nat} (h : fi_u N D c) {i j : Nat} (hi : i < N (c / 3)) (hj : j < N (c / 3)) (hv : D c i ≠ nu_l) (e : D c i = D c j) : i = j := by
  rcases Nat.lt_trichotomy i j with z | z | z
  · exact absurd e.symm (h j i z hj (by rw [← e]; exact hv))
  · exact z
  · exact absurd e (h i j z hi hv)
theorem er_fit (hK : db_K N D U R T A) (hM : cl_c N D T A M) (hv : ∀ c i, c < 9 → i < N (c / 3) → ¬ ev_p N D R T A M c i) : ∀ c, c < 9 → fi_t (sh_N N M) (sh_D N (cl_D N D T A M) M) (U c) (R c) (T c) c := by
  intro c hc
  obtain ⟨hA, hT, f1, f2, f3⟩ := hK.1 c hc
  refine ⟨fun hu i j hj hi hvi => ?_, fun hr i hi hvi => ?_, fun ht i hi hvi => ?_⟩
  · obtain ⟨a, ha, sa, ca, ea⟩ := sh_e (E := cl_D N D T A M) hi
    obtain ⟨b, hb, sb, cb, eb⟩ := sh_e (E := cl_D N D T A M) (show j < sh_N N M (c / 3) by omega)
    rw [ea] at hvi ⊢
    rw [eb]
    intro z
    have h1 := cl_nn hvi
    have h2 : cl_D N D T A M c b ≠ nu_l := by rw [← z]; exact hvi
    have h3 := cl_nn h2
    rw [h1, h3] at z
    rw [h1] at hvi
    have := fu_eq (f1 hu) ha hb hvi z
    subst this
    omega
  · obtain ⟨a, ha, sa, ca, ea⟩ := sh_e (E := cl_D N D T A M) hi
    rw [ea] at hvi
    by_cases h : A c = 2 ∧ lo_p N D T M c a
    · exact hv c a hc ha ⟨sa, h.2, Or.inr (Or.inl hr)⟩
    · rw [cl_f h] at hvi
      exact f2 hr a ha hvi
  · obtain ⟨a, ha, sa, ca, ea⟩ := sh_e (E := cl_D N D T A M) hi
    rw [ea] at hvi ⊢
    have h1 := cl_nn hvi
    rw [h1] at hvi ⊢
    obtain ⟨j, hj, ej⟩ := f3 ht a ha hvi
    have hsj : M (16 * (T c / 3) + j) = false := by
      rw [Bool.eq_false_iff]
      intro hm
      have hl : lo_p N D T M c a := ⟨hvi, ht, j, hj, hm, ej⟩
      have h012 : A c = 0 ∨ A c = 1 ∨ A c = 2 := by omega
      rcases h012 with z | z | z
      · exact hv c a hc ha ⟨sa, hl, Or.inl z⟩
      · have := hM c a hc ha z hl
        rw [sa] at this
        exact absurd this (by decide)
      · rw [cl_t ⟨z, hl⟩] at h1
        exact hvi h1.symm
    refine ⟨cn_b (sy_b M (T c / 3)) j, sh_lt hj hsj, ?_⟩
    rw [sh_r hj hsj, cl_f, ej]
    intro z
    exact hv (T c) j ht hj ⟨hsj, z.2, Or.inr (Or.inr ⟨c, hc, rfl, a, ha, sa, ej.symm⟩)⟩
theorem er_nofit (hK : db_K N D U R T A) (hM : cl_c N D T A M) {c i : Nat} (hc : c < 9) (hi : i < N (c / 3)) (hv : ev_p N D R T A M c i) : ¬ ∀ c, c < 9 → fi_t (sh_N N M) (sh_D N (cl_D N D T A M) M) (U c) (R c) (T c) c := by
  intro hf
  obtain ⟨si, hl, hor⟩ := hv
  obtain ⟨hA, hT, f1, f2, f3⟩ := hK.1 c hc
  have h012 : A c = 0 ∨ A c = 1 ∨ A c = 2 := by omega
  rcases h012 with a0 | a1 | a2
  · have hne : ¬ (A c = 2 ∧ lo_p N D T M c i) := fun z => by omega
    obtain ⟨hvi, ht, j, hj, mj, ej⟩ := hl
    have := (hf c hc).2.2 ht _ (sh_lt hi si) (by rw [sh_r hi si, cl_f hne]; exact hvi)
    obtain ⟨j', hj', e'⟩ := this
    rw [sh_r hi si, cl_f hne] at e'
    obtain ⟨b, hb, sb, cb, eb⟩ := sh_e (E := cl_D N D T A M) hj'
    rw [eb] at e'
    have hn : cl_D N D T A M (T c) b ≠ nu_l := by rw [e']; exact hvi
    rw [cl_nn hn] at e'
    have := fu_eq ((hK.1 (T c) ht).2.2.1 (hT ht).2) hb hj (by rw [e']; exact hvi) (e'.trans ej.symm)
    subst this
    rw [sb] at mj
    exact absurd mj (by decide)
  · have := hM c i hc hi a1 hl
    rw [si] at this
    exact absurd this (by decide)
  · rcases hor with z | z | ⟨q, hq, eq, j, hj, sj, ej⟩
    · omega
    · have := (hf c hc).2.1 z _ (sh_lt hi si)
      rw [sh_r hi si, cl_t ⟨a2, hl⟩] at this
      exact this rfl
    · subst eq
      have huc : fi_u N D (T q) := f1 ((hK.1 q hq).2.1 hc).2
      have hvi := hl.1
      have hvj : D q j ≠ nu_l := by rw [ej]; exact hvi
      have hne : ¬ (A q = 2 ∧ lo_p N D T M q j) := by
        rintro ⟨_, _, _, j', hj', mj', ej'⟩
        have := fu_eq huc hj' hi (by rw [ej']; exact hvj) (ej'.trans ej)
        subst this
        rw [si] at mj'
        exact absurd mj' (by decide)
      obtain ⟨j', hj', e'⟩ := (hf q hq).2.2 hc _ (sh_lt hj sj) (by rw [sh_r hj sj, cl_f hne]; exact hvj)
      rw [sh_r hj sj, cl_f hne] at e'
      obtain ⟨b, hb, sb, cb, eb⟩ := sh_e (E := cl_D N D T A M) hj'
      rw [eb] at e'
      have hn : cl_D N D T A M (T q) b ≠ nu_l := by rw [e']; exact hvj
      have e2 := e'
      rw [cl_nn hn] at e2
      have := fu_eq huc hb hi (by rw [e2]; exact hvj) (e2.trans ej)
      subst this
      rw [cl_t ⟨a2, hl⟩] at e'
      exact hvj e'.symm
theorem er_K (hK : db_K N D U R T A) (hf : ∀ c, c < 9 → fi_t (sh_N N M) (sh_D N (cl_D N D T A M) M) (U c) (R c) (T c) c) : db_K (sh_N N M) (sh_D N (cl_D N D T A M) M) U R T A := by
  refine ⟨fun c hc => ⟨(hK.1 c hc).1, (hK.1 c hc).2.1, hf c hc⟩, fun c r hc hr => ?_⟩
  obtain ⟨b, hb, sb, cb, eb⟩ := sh_e (E := cl_D N D T A M) hr
  rw [eb]
  rcases cl_or (N := N) (D := D) (T := T) (A := A) (M := M) c b with z | z
  · exact Or.inl z
  · rw [z]
    exact hK.2 c b hc hb
/-- the view of the contents while a table shrinks -/
def sh_I (N : Nat → Nat) (E : Nat → Nat → Int64) (M : Nat → Bool) (t i : Nat) (V0 V : Nat → Nat → Int64) : Prop :=
  (∀ c r, c < 9 → c / 3 = t → i ≤ r → r < N t → M (16 * t + r) = false → V c r = E c r) ∧ (∀ c r, c < 9 → c / 3 = t → r < i → M (16 * t + r) = false → V c (cn_b (sy_b M t) r) = E c r) ∧ ∀ c r, c < 9 → c / 3 ≠ t → r < 16 → V c r = V0 c r
theorem sh_go {E V0 V V' : Nat → Nat → Int64} {t i : Nat} (h : sh_I N E M t i V0 V) (h16 : N t ≤ 16) (hi : i < N t) (hs : M (16 * t + i) = false) (hV : ∀ c r, c < 9 → r < 16 → V' c r = if c / 3 = t ∧ r = cn_b (sy_b M t) i then V c i else V c r) : sh_I N E M t (i + 1) V0 V' := by
  have hle := cn_le (sy_b M t) i
  refine ⟨fun c r hc ht hr hN hm => ?_, fun c r hc ht hr hm => ?_, fun c r hc ht hr => ?_⟩
  · rw [hV c r hc (by omega), if_neg (by omega)]
    exact h.1 c r hc ht (by omega) hN hm
  · have h1 := cn_le (sy_b M t) r
    rw [hV c _ hc (by omega)]
    by_cases e : r = i
    · subst e
      rw [if_pos ⟨ht, rfl⟩]
      exact h.1 c r hc ht (Nat.le_refl _) hi hm
    · have := cn_lt (f := sy_b M t) (show r < i by omega) (sy_i.mpr hm)
      rw [if_neg (by omega)]
      exact h.2.1 c r hc ht (by omega) hm
  · rw [hV c r hc hr, if_neg (fun z => ht z.1)]
    exact h.2.2 c r hc ht hr
theorem sh_no {E V0 V : Nat → Nat → Int64} {t i : Nat} (h : sh_I N E M t i V0 V) (hs : M (16 * t + i) = true) : sh_I N E M t (i + 1) V0 V := by
  refine ⟨fun c r hc ht hr hN hm => h.1 c r hc ht (by omega) hN hm, fun c r hc ht hr hm => ?_, h.2.2⟩
  by_cases e : r = i
  · subst e
    rw [hs] at hm
    exact absurd hm (by decide)
  · exact h.2.1 c r hc ht (by omega) hm
end
end
section
theorem nr_0 : narrow .boolean (.int 0) = .int 0 := by
  have h : lw_bz 0 = 0 := by decide
  have := lw_bz_n 0
  rw [h] at this
  exact this
theorem nr_1 : narrow .boolean (.int 1) = .int 1 := by
  have h : lw_bz 1 = 1 := by decide
  have := lw_bz_n 1
  rw [h] at this
  exact this
section
variable {toX soX coX ouX kyX moX diX rrX rwX : Int32} {ceX sceX fvX ovX rsX : Nat → Int64} {rcX unX rqX taX acX srcX sunX srqX staX sacX stX cfX cpX chX csX okX ocX koX kfX cbX mkX rtX : Nat → Int32} {N : Nat → Nat} {D : Nat → Nat → Int64} {U R : Nat → Bool} {T A : Nat → Nat} {M M0 : Nat → Bool}
theorem xm_loses {post : Int32 → Prop} (hC : db_xc N D ceX rcX) (hk : db_k U R T A unX rqX taX acX) (hm : ∀ x, x < 48 → mkX x = bo_i (M x)) {c i : Nat} (hu : T c < 9 → fi_u N D (T c)) (hc : c < 9) (hi : i < N (c / 3)) (h1 : M (16 * (c / 3) + i) = false → lo_p N D T M c i → post 1) (h0 : ¬ (M (16 * (c / 3) + i) = false ∧ lo_p N D T M c i) → post 0) : wpX_losesItsTarget post (toX, soX, coX, ouX, kyX, moX, diX, rrX, rwX, ceX, rcX, unX, rqX, taX, acX, sceX, srcX, sunX, srqX, staX, sacX, stX, cfX, cpX, chX, csX, okX, ocX, koX, kfX, cbX, mkX, fvX, ovX, rsX, rtX) (nI c) (nI i) := by
  have ec : (nI c).toNatClampNeg = c := nI_clamp (by omega)
  have h16 := (hC.1 (c / 3) (by omega)).2
  have hv9 : vp_in (nI c) 9 := vp_in_nI hc (by decide)
  refine ⟨hv9, ?_⟩
  rw [ec, (hk c hc).2.2.1]
  by_cases ht : T c < 9
  · rw [ta_lt ht]
    refine br_f (ta_m1 ht) ⟨nz_3ne, ?_⟩
    rw [nz_d3 (by omega), nz_16, nI_clamp (by omega), hm _ (by omega)]
    refine ⟨vp_in_nI (by omega) (by decide), ?_⟩
    by_cases m : M (16 * (c / 3) + i) = true
    · exact br_f (bo_n.mpr m) (h0 (fun z => by rw [z.1] at m; exact absurd m (by decide)))
    · have m0 : M (16 * (c / 3) + i) = false := by simpa using m
      rw [nz_16, nI_clamp (by omega), hC.2 c i hc hi]
      refine br_t (bo_0.mpr m0) ⟨vp_in_nI (by omega) (by decide), nm_e ?_⟩
      by_cases hv : D c i = nu_l
      · exact br_t hv (h0 (fun z => z.2.1 hv))
      · refine br_f hv ⟨hv9, xm_rowWith hC ht (fun r hr er _ => ?_) (fun h => ?_)⟩
        · have h16' := (hC.1 (T c / 3) (by omega)).2
          refine br_f (nz_m1 (by omega)) ⟨vp_in_nI (by omega) (by decide), ?_⟩
          rw [nI_clamp (by omega), hm _ (by omega)]
          by_cases mr : M (16 * (T c / 3) + r) = true
          · exact br_f (bo_n.mpr mr) (h1 m0 ⟨hv, ht, r, hr, mr, er⟩)
          · refine br_t (bo_0.mpr (by simpa using mr)) (h0 (fun z => ?_))
            obtain ⟨_, _, _, j, hj, mj, ej⟩ := z
            have := fu_eq (hu ht) hj hr (by rw [ej]; exact hv) (ej.trans er.symm)
            subst this
            exact mr mj
        · refine br_t rfl (h0 (fun z => ?_))
          obtain ⟨_, _, _, j, hj, mj, ej⟩ := z
          exact h j hj ej
  · exact br_t (ta_ge ht) (h0 (fun z => ht z.2.2.1))
theorem cn_new {c i : Nat} (h16 : ∀ t, t < 3 → N t ≤ 16) (hc : c < 9) (hi : i < N (c / 3)) (m : M (16 * (c / 3) + i) = false) : cn_b (st_b M (16 * (c / 3) + i)) 48 = cn_b M 48 + 1 := by
  have := h16 (c / 3) (by omega)
  rw [cn_st m, if_pos (by omega)]
theorem lo_one {c i : Nat} (h16 : ∀ t, t < 3 → N t ≤ 16) (h : lo_p N D T M c i) : 1 ≤ cn_b M 48 := by
  obtain ⟨_, ht, j, hj, mj, _⟩ := h
  have := h16 (T c / 3) (by omega)
  exact cn_pos mj 48 (by omega)
theorem xm_markRef {post : Int32 → SX → Prop} (hC : db_xc N D ceX rcX) (hk : db_k U R T A unX rqX taX acX) (hm : ∀ x, x < 48 → mkX x = bo_i (M x)) {c : Nat} (hu : T c < 9 → fi_u N D (T c)) (hc : c < 9) (ha : A c = 1) (sn : sn_d N D T A M0 M)
    (h0 : (∀ r, r < N (c / 3) → ¬ (M (16 * (c / 3) + r) = false ∧ lo_p N D T M c r)) → ∀ mk, (∀ x, x < 48 → mk x = bo_i (M x)) → post 0 (toX, soX, coX, ouX, kyX, moX, diX, rrX, rwX, ceX, rcX, unX, rqX, taX, acX, sceX, srcX, sunX, srqX, staX, sacX, stX, cfX, cpX, chX, csX, okX, ocX, koX, kfX, cbX, mk, fvX, ovX, rsX, rtX))
    (h1 : ∀ mk M', (∀ x, x < 48 → mk x = bo_i (M' x)) → sn_d N D T A M0 M' → 1 ≤ cn_b M 48 → cn_b M 48 < cn_b M' 48 → post 1 (toX, soX, coX, ouX, kyX, moX, diX, rrX, rwX, ceX, rcX, unX, rqX, taX, acX, sceX, srcX, sunX, srqX, staX, sacX, stX, cfX, cpX, chX, csX, okX, ocX, koX, kfX, cbX, mk, fvX, ovX, rsX, rtX)) : wpX_markReferringRows post (toX, soX, coX, ouX, kyX, moX, diX, rrX, rwX, ceX, rcX, unX, rqX, taX, acX, sceX, srcX, sunX, srqX, staX, sacX, stX, cfX, cpX, chX, csX, okX, ocX, koX, kfX, cbX, mkX, fvX, ovX, rsX, rtX) (nI c) := by
  have h16 : ∀ t, t < 3 → N t ≤ 16 := fun t ht => (hC.1 t ht).2
  obtain ⟨hn, hN⟩ := hC.1 (c / 3) (by omega)
  refine ⟨nz_3ne, nm_r (nz_d3 (by omega)) ⟨vp_in_nI (by omega) (by decide), nm_r (e' := nI (N (c / 3))) (by rw [nI_clamp (by omega), hn]) ?_⟩⟩
  refine loop_0 (fun n i (s : Int32 × (Nat → Int32)) => wX_markReferringRows_17 post (nI c) (nI (c / 3)) (nI (N (c / 3))) toX soX coX ouX kyX moX diX rrX rwX n s.1 (nI i) ceX rcX unX rqX taX acX sceX srcX sunX srqX staX sacX stX cfX cpX chX csX okX ocX koX kfX cbX s.2 fvX ovX rsX rtX) (fun i s => ∃ M', (∀ x, x < 48 → s.2 x = bo_i (M' x)) ∧ sn_d N D T A M0 M' ∧ ((s.1 = 0 ∧ M' = M ∧ ∀ r, r < i → ¬ (M (16 * (c / 3) + r) = false ∧ lo_p N D T M c r)) ∨ (s.1 = 1 ∧ 1 ≤ cn_b M 48 ∧ cn_b M 48 < cn_b M' 48))) (N (c / 3)) (0, mkX) ⟨M, hm, sn, Or.inl ⟨rfl, rfl, lt_0⟩⟩ ?_ ?_
  · rintro n ⟨x, mk⟩ ⟨M', hm', sn', hor⟩
    rcases hor with ⟨e, eM, hr⟩ | ⟨e, a, b⟩
    · subst eM
      have e : x = 0 := e
      subst e
      exact br_t (nI_le (Nat.le_refl _) (by omega)) ⟨nr_0, h0 hr mk hm'⟩
    · have e : x = 1 := e
      subst e
      exact br_t (nI_le (Nat.le_refl _) (by omega)) ⟨nr_1, h1 mk M' hm' sn' a b⟩
  · rintro n i ⟨x, mk⟩ hi ⟨M', hm', sn', hor⟩ hn'
    refine br_f (nI_ge hi (by omega)) (xm_loses hC hk hm' hu hc hi (fun m l => ?_) (fun l => ?_))
    · refine br_f (by decide) ⟨by rw [nz_16]; exact vp_in_nI (by omega) (by decide), nm_r (e' := upd mk (16 * (c / 3) + i) (bo_i true)) (by rw [nz_16, nI_clamp (by omega), bo_nar1]) (nm_r (nI_1 i) (hn' (1, upd mk (16 * (c / 3) + i) (bo_i true)) ⟨st_b M' (16 * (c / 3) + i), st_ar hm', sn_step h16 sn' hc hi ha l, Or.inr ⟨rfl, ?_⟩⟩))⟩
      rw [cn_new h16 hc hi m]
      rcases hor with ⟨e, eM, hr⟩ | ⟨e, a, b⟩
      · subst eM
        exact ⟨lo_one h16 l, by omega⟩
      · exact ⟨a, by omega⟩
    · refine br_t rfl (nm_r (nI_1 i) (hn' (x, mk) ⟨M', hm', sn', ?_⟩))
      rcases hor with ⟨e, eM, hr⟩ | h
      · subst eM
        exact Or.inl ⟨e, rfl, lt_s hr l⟩
      · exact Or.inr h
theorem xm_cascade {post : SX → Prop} (hC : db_xc N D ceX rcX) (hk : db_k U R T A unX rqX taX acX) (hm : ∀ x, x < 48 → mkX x = bo_i (M x)) (hu : ∀ c, c < 9 → T c < 9 → fi_u N D (T c)) (hA : ∀ c, c < 9 → A c ≤ 2)
    (h : ∀ mk M', (∀ x, x < 48 → mk x = bo_i (M' x)) → sn_d N D T A M M' → cl_c N D T A M' → post (toX, soX, coX, ouX, kyX, moX, diX, rrX, rwX, ceX, rcX, unX, rqX, taX, acX, sceX, srcX, sunX, srqX, staX, sacX, stX, cfX, cpX, chX, csX, okX, ocX, koX, kfX, cbX, mk, fvX, ovX, rsX, rtX)) : wpX_markRowsThatCascade post (toX, soX, coX, ouX, kyX, moX, diX, rrX, rwX, ceX, rcX, unX, rqX, taX, acX, sceX, srcX, sunX, srqX, staX, sacX, stX, cfX, cpX, chX, csX, okX, ocX, koX, kfX, cbX, mkX, fvX, ovX, rsX, rtX) := by
  have h16 : ∀ t, t < 3 → N t ≤ 16 := fun t ht => (hC.1 t ht).2
  refine loop_0 (fun n p (s : Int32 × (Nat → Int32)) => wX_markRowsThatCascade_4 post n s.1 (nI p) toX soX coX ouX kyX moX diX rrX rwX ceX rcX unX rqX taX acX sceX srcX sunX srqX staX sacX stX cfX cpX chX csX okX ocX koX kfX cbX s.2 fvX ovX rsX rtX) (fun p s => ∃ M', (∀ x, x < 48 → s.2 x = bo_i (M' x)) ∧ sn_d N D T A M M' ∧ ((s.1 = 0 ∧ cl_c N D T A M') ∨ (s.1 = 1 ∧ (p = 0 ∨ p + 1 ≤ cn_b M' 48)))) 48 (1, mkX) ⟨M, hm, sn_refl, Or.inr ⟨rfl, Or.inl rfl⟩⟩ ?_ ?_
  · rintro n ⟨x, mk⟩ ⟨M', hm', sn', hor⟩
    refine br_t (by decide) ?_
    rcases hor with ⟨_, hcl⟩ | ⟨_, z⟩
    · exact h mk M' hm' sn' hcl
    · have := cn_le M' 48
      omega
  · rintro n p ⟨x, mk⟩ hp ⟨M', hm', sn', hor⟩ hn
    refine br_f (nI_ge (b := 48) hp (by decide)) ?_
    rcases hor with ⟨e, hcl⟩ | ⟨e, hpz⟩
    · exact br_t e (h mk M' hm' sn' hcl)
    · have e : x = 1 := e
      subst e
      refine br_f (by decide : ¬ (1 : Int32) = 0) ?_
      refine loop_0 (fun m i (s : Int32 × (Nat → Int32)) => wX_markRowsThatCascade_18 post (wX_markRowsThatCascade_4 post n) (nI p) m s.1 (nI i) toX soX coX ouX kyX moX diX rrX rwX ceX rcX unX rqX taX acX sceX srcX sunX srqX staX sacX stX cfX cpX chX csX okX ocX koX kfX cbX s.2 fvX ovX rsX rtX) (fun i s => ∃ M2, (∀ x, x < 48 → s.2 x = bo_i (M2 x)) ∧ sn_d N D T A M M2 ∧ ((s.1 = 0 ∧ M2 = M' ∧ ∀ c, c < i → A c = 1 → ∀ r, r < N (c / 3) → ¬ (M' (16 * (c / 3) + r) = false ∧ lo_p N D T M' c r)) ∨ (s.1 = 1 ∧ 1 ≤ cn_b M' 48 ∧ cn_b M' 48 < cn_b M2 48))) 9 (0, mk) ⟨M', hm', sn', Or.inl ⟨rfl, rfl, lt_0⟩⟩ ?_ ?_
      · rintro m ⟨x, mk2⟩ ⟨M2, hm2, sn2, hor⟩
        refine br_t (by decide) (nm_r (nI_1 p) (hn (x, mk2) ⟨M2, hm2, sn2, ?_⟩))
        rcases hor with ⟨e, eM, hr⟩ | ⟨e, a, b⟩
        · subst eM
          refine Or.inl ⟨e, fun c r hc hr' ha hl => ?_⟩
          cases hb : M2 (16 * (c / 3) + r) with
          | true => rfl
          | false => exact absurd ⟨hb, hl⟩ (hr c hc ha r hr')
        · exact Or.inr ⟨e, Or.inr (by omega)⟩
      · rintro m i ⟨x, mk2⟩ hi ⟨M2, hm2, sn2, hor⟩ hm'
        refine br_f (nI_ge (b := 9) hi (by decide)) ⟨vp_in_nI hi (by decide), ?_⟩
        rw [nI_clamp (by omega), (hk i hi).2.2.2]
        have hA' := hA i hi
        by_cases ha : A i = 1
        · refine br_t (by rw [ha]; rfl) (xm_markRef hC hk hm2 (hu i hi) hi ha sn2 (fun hno mk3 hm3 => ?_) (fun mk3 M3 hm3 sn3 a b => ?_))
          · refine br_t rfl (nm_r (nI_1 i) (hm' (x, mk3) ⟨M2, hm3, sn2, ?_⟩))
            rcases hor with ⟨e, eM, hr⟩ | z
            · subst eM
              exact Or.inl ⟨e, rfl, lt_s hr (fun _ => hno)⟩
            · exact Or.inr z
          · refine br_f (by decide) (nm_r (nI_1 i) (hm' (1, mk3) ⟨M3, hm3, sn3, Or.inr ⟨rfl, ?_⟩⟩))
            rcases hor with ⟨e, eM, hr⟩ | ⟨e, a', b'⟩
            · subst eM
              exact ⟨a, b⟩
            · exact ⟨a', by omega⟩
        · refine br_f (op_ne (b := 1) (by omega) (by decide) ha) (nm_r (nI_1 i) (hm' (x, mk2) ⟨M2, hm2, sn2, ?_⟩))
          rcases hor with ⟨e, eM, hr⟩ | z
          · exact Or.inl ⟨e, eM, lt_s hr (fun z => absurd z ha)⟩
          · exact Or.inr z
theorem xm_staying {post : Int32 → Prop} (hC : db_xc N D ceX rcX) (hm : ∀ x, x < 48 → mkX x = bo_i (M x)) {q : Nat} (hq : q < 9) {v : Int64} (h1 : (∃ j, j < N (q / 3) ∧ M (16 * (q / 3) + j) = false ∧ D q j = v) → post 1) (h0 : (¬ ∃ j, j < N (q / 3) ∧ M (16 * (q / 3) + j) = false ∧ D q j = v) → post 0) : wpX_stayingRowHas post (toX, soX, coX, ouX, kyX, moX, diX, rrX, rwX, ceX, rcX, unX, rqX, taX, acX, sceX, srcX, sunX, srqX, staX, sacX, stX, cfX, cpX, chX, csX, okX, ocX, koX, kfX, cbX, mkX, fvX, ovX, rsX, rtX) (nI q) v := by
  obtain ⟨hn, hN⟩ := hC.1 (q / 3) (by omega)
  refine ⟨nz_3ne, nm_r (nz_d3 (by omega)) ⟨vp_in_nI (by omega) (by decide), nm_r (e' := nI (N (q / 3))) (by rw [nI_clamp (by omega), hn]) ?_⟩⟩
  refine loop_0 (fun n i (_ : Unit) => wX_stayingRowHas_17 post (nI q) v (nI (q / 3)) (nI (N (q / 3))) toX soX coX ouX kyX moX diX rrX rwX ceX rcX unX rqX taX acX sceX srcX sunX srqX staX sacX stX cfX cpX chX csX okX ocX koX kfX cbX mkX fvX ovX rsX rtX n (nI i)) (fun i _ => ∀ j, j < i → ¬ (M (16 * (q / 3) + j) = false ∧ D q j = v)) (N (q / 3)) () lt_0 ?_ ?_
  · intro n _ hI
    exact br_t (nI_le (Nat.le_refl _) (by omega)) (h0 (fun ⟨j, hj, z⟩ => hI j hj z))
  · intro n i _ hi hI hn'
    refine br_f (nI_ge hi (by omega)) ?_
    rw [nz_16, nz_16, nI_clamp (show 16 * (q / 3) + i < 2 ^ 31 by omega), nI_clamp (show 16 * q + i < 2 ^ 31 by omega), hm _ (by omega), hC.2 q i hq hi]
    refine ⟨vp_in_nI (by omega) (by decide), ?_⟩
    by_cases m : M (16 * (q / 3) + i) = true
    · exact br_f (bo_n.mpr m) (nm_r (nI_1 i) (hn' () (lt_s hI (fun z => by rw [z.1] at m; exact absurd m (by decide)))))
    · have m0 : M (16 * (q / 3) + i) = false := by simpa using m
      refine br_t (bo_0.mpr m0) ⟨vp_in_nI (by omega) (by decide), ?_⟩
      by_cases e : D q i = v
      · exact br_t e (h1 ⟨i, hi, m0, e⟩)
      · exact br_f e (nm_r (nI_1 i) (hn' () (lt_s hI (fun z => e z.2))))
theorem xm_isRef {post : Int32 → Prop} (hC : db_xc N D ceX rcX) (hk : db_k U R T A unX rqX taX acX) (hm : ∀ x, x < 48 → mkX x = bo_i (M x)) {c i : Nat} (hc : c < 9) (hi : i < N (c / 3)) (h1 : (∃ q, q < 9 ∧ T q = c ∧ ∃ j, j < N (q / 3) ∧ M (16 * (q / 3) + j) = false ∧ D q j = D c i) → post 1) (h0 : (¬ ∃ q, q < 9 ∧ T q = c ∧ ∃ j, j < N (q / 3) ∧ M (16 * (q / 3) + j) = false ∧ D q j = D c i) → post 0) : wpX_isReferredToByStaying post (toX, soX, coX, ouX, kyX, moX, diX, rrX, rwX, ceX, rcX, unX, rqX, taX, acX, sceX, srcX, sunX, srqX, staX, sacX, stX, cfX, cpX, chX, csX, okX, ocX, koX, kfX, cbX, mkX, fvX, ovX, rsX, rtX) (nI c) (nI i) := by
  have h16 := (hC.1 (c / 3) (by omega)).2
  refine ⟨by rw [nz_16]; exact vp_in_nI (by omega) (by decide), nm_r (e' := D c i) (by rw [nz_16, nI_clamp (by omega)]; exact hC.2 c i hc hi) ?_⟩
  refine loop_0 (fun n q (_ : Unit) => wX_isReferredToByStaying_15 post (nI c) (D c i) toX soX coX ouX kyX moX diX rrX rwX ceX rcX unX rqX taX acX sceX srcX sunX srqX staX sacX stX cfX cpX chX csX okX ocX koX kfX cbX mkX fvX ovX rsX rtX n (nI q)) (fun q _ => ∀ p, p < q → ¬ (T p = c ∧ ∃ j, j < N (p / 3) ∧ M (16 * (p / 3) + j) = false ∧ D p j = D c i)) 9 () lt_0 ?_ ?_
  · intro n _ hI
    exact br_t (by decide) (h0 (fun ⟨q, hq, z⟩ => hI q hq z))
  · intro n q _ hq hI hn'
    refine br_f (nI_ge (b := 9) hq (by decide)) ⟨vp_in_nI hq (by decide), ?_⟩
    rw [nI_clamp (by omega), (hk q hq).2.2.1]
    by_cases e : T q = c
    · refine br_t ((ta_eq hc).mpr e) (xm_staying hC hm hq (fun z => ?_) (fun z => ?_))
      · exact br_f (by decide) (h1 ⟨q, hq, e, z⟩)
      · exact br_t rfl (nm_r (nI_1 q) (hn' () (lt_s hI (fun w => z w.2))))
    · exact br_f (fun z => e ((ta_eq hc).mp z)) (nm_r (nI_1 q) (hn' () (lt_s hI (fun w => e w.1))))
theorem xm_erViol {post : Int32 → Prop} (hC : db_xc N D ceX rcX) (hk : db_k U R T A unX rqX taX acX) (hm : ∀ x, x < 48 → mkX x = bo_i (M x)) (hu : ∀ c, c < 9 → T c < 9 → fi_u N D (T c)) (hA : ∀ c, c < 9 → A c ≤ 2) (h1 : ∀ c i, c < 9 → i < N (c / 3) → ev_p N D R T A M c i → post 1) (h0 : (∀ c i, c < 9 → i < N (c / 3) → ¬ ev_p N D R T A M c i) → post 0) : wpX_erasingViolates post (toX, soX, coX, ouX, kyX, moX, diX, rrX, rwX, ceX, rcX, unX, rqX, taX, acX, sceX, srcX, sunX, srqX, staX, sacX, stX, cfX, cpX, chX, csX, okX, ocX, koX, kfX, cbX, mkX, fvX, ovX, rsX, rtX) := by
  refine loop_0 (fun n c (_ : Unit) => wX_erasingViolates_2 post toX soX coX ouX kyX moX diX rrX rwX ceX rcX unX rqX taX acX sceX srcX sunX srqX staX sacX stX cfX cpX chX csX okX ocX koX kfX cbX mkX fvX ovX rsX rtX n (nI c)) (fun c _ => ∀ q, q < c → ∀ i, i < N (q / 3) → ¬ ev_p N D R T A M q i) 9 () lt_0 ?_ ?_
  · intro n _ hI
    exact br_t (by decide) (h0 (fun c i hc hi => hI c hc i hi))
  · intro n c _ hc hI hn'
    obtain ⟨hn, hN⟩ := hC.1 (c / 3) (by omega)
    have hv9 : vp_in (nI c) 9 := vp_in_nI hc (by decide)
    have hA' := hA c hc
    have inner : ∀ b : Bool, (b = true ↔ A c = 0 ∨ R c = true) → ∃ m, wX_erasingViolates_44 post (wX_erasingViolates_2 post toX soX coX ouX kyX moX diX rrX rwX ceX rcX unX rqX taX acX sceX srcX sunX srqX staX sacX stX cfX cpX chX csX okX ocX koX kfX cbX mkX fvX ovX rsX rtX n) (nI c) (nI (N (c / 3))) (bo_i b) toX soX coX ouX kyX moX diX rrX rwX ceX rcX unX rqX taX acX sceX srcX sunX srqX staX sacX stX cfX cpX chX csX okX ocX koX kfX cbX mkX fvX ovX rsX rtX m 0 := by
      intro b hb
      refine loop_0 (fun m i (_ : Unit) => wX_erasingViolates_44 post (wX_erasingViolates_2 post toX soX coX ouX kyX moX diX rrX rwX ceX rcX unX rqX taX acX sceX srcX sunX srqX staX sacX stX cfX cpX chX csX okX ocX koX kfX cbX mkX fvX ovX rsX rtX n) (nI c) (nI (N (c / 3))) (bo_i b) toX soX coX ouX kyX moX diX rrX rwX ceX rcX unX rqX taX acX sceX srcX sunX srqX staX sacX stX cfX cpX chX csX okX ocX koX kfX cbX mkX fvX ovX rsX rtX m (nI i)) (fun i _ => ∀ j, j < i → ¬ ev_p N D R T A M c j) (N (c / 3)) () lt_0 ?_ ?_
      · intro m _ hJ
        exact br_t (nI_le (Nat.le_refl _) (by omega)) (nm_r (nI_1 c) (hn' () (lt_s hI hJ)))
      · intro m i _ hi hJ hm'
        refine br_f (nI_ge hi (by omega)) (xm_loses hC hk hm (hu c hc) hc hi (fun mi li => ?_) (fun z => ?_))
        · refine br_f (by decide) ?_
          by_cases ebt : b = true
          · refine br_f (bo_n.mpr ebt) (h1 c i hc hi ⟨mi, li, ?_⟩)
            rcases hb.mp ebt with w | w
            · exact Or.inl w
            · exact Or.inr (Or.inl w)
          · refine br_t (bo_0.mpr (by simpa using ebt)) (xm_isRef hC hk hm hc hi (fun w => ?_) (fun w => ?_))
            · exact br_f (by decide) (h1 c i hc hi ⟨mi, li, Or.inr (Or.inr w)⟩)
            · refine br_t rfl (nm_r (nI_1 i) (hm' () (lt_s hJ (fun z => ?_))))
              rcases z.2.2 with y | y | y
              · exact ebt (hb.mpr (Or.inl y))
              · exact ebt (hb.mpr (Or.inr y))
              · exact w y
        · exact br_t rfl (nm_r (nI_1 i) (hm' () (lt_s hJ (fun w => z ⟨w.1, w.2.1⟩))))
    refine br_f (nI_ge (b := 9) hc (by decide)) ⟨nz_3ne, by rw [nz_d3 (by omega)]; exact vp_in_nI (by omega) (by decide), nm_r (e' := nI (N (c / 3))) (by rw [nz_d3 (by omega), nI_clamp (by omega), hn]) ⟨hv9, ?_⟩⟩
    rw [nI_clamp (by omega), (hk c hc).2.2.2, (hk c hc).2.1]
    by_cases a0 : A c = 0
    · exact br_t (by rw [a0]; rfl) (inner true ⟨fun _ => Or.inl a0, fun _ => rfl⟩)
    · refine br_f (op_ne (b := 0) (by omega) (by decide) a0) ⟨hv9, ?_⟩
      by_cases hr : R c = true
      · exact br_f (bo_n.mpr hr) (inner true ⟨fun _ => Or.inr hr, fun _ => rfl⟩)
      · exact br_t (bo_0.mpr (by simpa using hr)) (inner false ⟨fun z => absurd z (by decide), fun z => by rcases z with w | w; exact absurd w a0; exact absurd w hr⟩)
end
end
section
section
variable {toX soX coX ouX kyX moX diX rrX rwX : Int32} {ceX sceX fvX ovX rsX : Nat → Int64} {rcX unX rqX taX acX srcX sunX srqX staX sacX stX cfX cpX chX csX okX ocX koX kfX cbX mkX rtX : Nat → Int32} {N : Nat → Nat} {D : Nat → Nat → Int64} {U R : Nat → Bool} {T A : Nat → Nat} {M M0 : Nat → Bool}
/-- while X clears: what is not yet come to, and what is marked, is as it was -/
def cw_I (N : Nat → Nat) (D E : Nat → Nat → Int64) (M : Nat → Bool) (c0 i0 : Nat) (s : Nat → Int64) : Prop :=
  (∀ c r, c < 9 → r < N (c / 3) → (M (16 * (c / 3) + r) = true ∨ c0 < c ∨ (c = c0 ∧ i0 ≤ r)) → s (16 * c + r) = D c r) ∧ (∀ c r, c < 9 → r < N (c / 3) → M (16 * (c / 3) + r) = false → (c < c0 ∨ (c = c0 ∧ r < i0)) → s (16 * c + r) = E c r)
theorem cw_or {E : Nat → Nat → Int64} (hE : ∀ c r, E c r = nu_l ∨ E c r = D c r) {c0 i0 : Nat} {s : Nat → Int64} (h : cw_I N D E M c0 i0 s) {c r : Nat} (hc : c < 9) (hr : r < N (c / 3)) : s (16 * c + r) = nu_l ∨ s (16 * c + r) = D c r := by
  cases hm : M (16 * (c / 3) + r) with
  | true => exact Or.inr (h.1 c r hc hr (Or.inl hm))
  | false =>
    by_cases z : c < c0 ∨ (c = c0 ∧ r < i0)
    · rw [h.2 c r hc hr hm z]
      exact hE c r
    · exact Or.inr (h.1 c r hc hr (Or.inr (by omega)))
theorem cw_fu {E : Nat → Nat → Int64} (hE : ∀ c r, E c r = nu_l ∨ E c r = D c r) {c0 i0 : Nat} {s : Nat → Int64} (h : cw_I N D E M c0 i0 s) {c : Nat} (hc : c < 9) (hu : fi_u N D c) : fi_u N (fun c r => s (16 * c + r)) c := by
  intro i j hj hi hv e
  dsimp only at hv e
  have h1 : s (16 * c + i) = D c i := by
    rcases cw_or hE h hc hi with z | z
    · exact absurd z hv
    · exact z
  have h2 : s (16 * c + j) = D c j := by
    rcases cw_or hE h hc (show j < N (c / 3) by omega) with z | z
    · rw [e, z] at hv
      exact absurd rfl hv
    · exact z
  rw [h1] at hv e
  rw [h2] at e
  exact hu i j hj hi hv e
theorem cw_lo {E : Nat → Nat → Int64} {c i : Nat} {s : Nat → Int64} (h : cw_I N D E M c i s) (hc : c < 9) (hi : i < N (c / 3)) : lo_p N (fun c r => s (16 * c + r)) T M c i ↔ lo_p N D T M c i := by
  have e : s (16 * c + i) = D c i := h.1 c i hc hi (Or.inr (Or.inr ⟨rfl, Nat.le_refl _⟩))
  unfold lo_p
  dsimp only
  rw [e]
  constructor
  · rintro ⟨a, b, j, hj, mj, ej⟩
    rw [h.1 (T c) j b hj (Or.inl mj)] at ej
    exact ⟨a, b, j, hj, mj, ej⟩
  · rintro ⟨a, b, j, hj, mj, ej⟩
    refine ⟨a, b, j, hj, mj, ?_⟩
    rw [h.1 (T c) j b hj (Or.inl mj)]
    exact ej
theorem cw_keep {E : Nat → Nat → Int64} {c i : Nat} {s : Nat → Int64} (h : cw_I N D E M c i s) (hc : c < 9) (hi : i < N (c / 3)) (e : M (16 * (c / 3) + i) = false → E c i = D c i) : cw_I N D E M c (i + 1) s := by
  refine ⟨fun c' r hc' hr z => h.1 c' r hc' hr (z.imp id (fun y => by omega)), fun c' r hc' hr hm z => ?_⟩
  by_cases y : c' = c ∧ r = i
  · obtain ⟨rfl, rfl⟩ := y
    rw [e hm]
    exact h.1 c' r hc' hr (by omega)
  · exact h.2 c' r hc' hr hm (by omega)
theorem cw_put {E : Nat → Nat → Int64} (h16 : ∀ t, t < 3 → N t ≤ 16) {c i : Nat} {s : Nat → Int64} (h : cw_I N D E M c i s) (hc : c < 9) (hi : i < N (c / 3)) (hm : M (16 * (c / 3) + i) = false) (e : E c i = nu_l) : cw_I N D E M c (i + 1) (vp_updL s (16 * c + i) nu_l) := by
  have hN := h16 (c / 3) (by omega)
  refine ⟨fun c' r hc' hr z => ?_, fun c' r hc' hr hm' z => ?_⟩
  · have hN' := h16 (c' / 3) (by omega)
    rw [pk_uLn]
    · exact h.1 c' r hc' hr (z.imp id (fun y => by omega))
    · intro y
      have e1 : c' = c := by omega
      have e2 : r = i := by omega
      subst e1 e2
      rcases z with z | z | z
      · rw [hm] at z
        exact absurd z (by decide)
      · omega
      · omega
  · have hN' := h16 (c' / 3) (by omega)
    by_cases y : c' = c ∧ r = i
    · obtain ⟨rfl, rfl⟩ := y
      rw [pk_uLs, e]
    · rw [pk_uLn (by omega)]
      exact h.2 c' r hc' hr hm' (by omega)
theorem cw_next {E : Nat → Nat → Int64} {c : Nat} {s : Nat → Int64} (h : cw_I N D E M c (N (c / 3)) s) : cw_I N D E M (c + 1) 0 s := by
  refine ⟨fun c' r hc' hr z => h.1 c' r hc' hr (z.imp id (fun y => by omega)), fun c' r hc' hr hm z => h.2 c' r hc' hr hm ?_⟩
  by_cases e : c' = c
  · subst e
    exact Or.inr ⟨rfl, hr⟩
  · omega
theorem xm_clear {post : SX → Prop} (hC : db_xc N D ceX rcX) (hk : db_k U R T A unX rqX taX acX) (hm : ∀ x, x < 48 → mkX x = bo_i (M x)) (hu : ∀ c, c < 9 → T c < 9 → fi_u N D (T c)) (hA : ∀ c, c < 9 → A c ≤ 2)
    (h : ∀ ce, (∀ c r, c < 9 → r < N (c / 3) → M (16 * (c / 3) + r) = false → ce (16 * c + r) = cl_D N D T A M c r) → post (toX, soX, coX, ouX, kyX, moX, diX, rrX, rwX, ce, rcX, unX, rqX, taX, acX, sceX, srcX, sunX, srqX, staX, sacX, stX, cfX, cpX, chX, csX, okX, ocX, koX, kfX, cbX, mkX, fvX, ovX, rsX, rtX)) : wpX_clearWhatRefersToMarked post (toX, soX, coX, ouX, kyX, moX, diX, rrX, rwX, ceX, rcX, unX, rqX, taX, acX, sceX, srcX, sunX, srqX, staX, sacX, stX, cfX, cpX, chX, csX, okX, ocX, koX, kfX, cbX, mkX, fvX, ovX, rsX, rtX) := by
  have h16 : ∀ t, t < 3 → N t ≤ 16 := fun t ht => (hC.1 t ht).2
  refine loop_0 (fun n c s => wX_clearWhatRefersToMarked_2 post toX soX coX ouX kyX moX diX rrX rwX n (nI c) s rcX unX rqX taX acX sceX srcX sunX srqX staX sacX stX cfX cpX chX csX okX ocX koX kfX cbX mkX fvX ovX rsX rtX) (fun c s => cw_I N D (cl_D N D T A M) M c 0 s) 9 ceX ⟨fun c r hc hr _ => hC.2 c r hc hr, fun c r _ _ _ z => absurd z (by omega)⟩ ?_ ?_
  · intro n s hI
    exact br_t (by decide) (h s (fun c r hc hr hm' => hI.2 c r hc hr hm' (Or.inl hc)))
  · intro n c s hc hI hn'
    obtain ⟨hn, hN⟩ := hC.1 (c / 3) (by omega)
    refine br_f (nI_ge (b := 9) hc (by decide)) ⟨nz_3ne, by rw [nz_d3 (by omega)]; exact vp_in_nI (by omega) (by decide), nm_r (e' := nI (N (c / 3))) (by rw [nz_d3 (by omega), nI_clamp (by omega), hn]) ?_⟩
    refine loop_0 (fun m i s => wX_clearWhatRefersToMarked_19 post (wX_clearWhatRefersToMarked_2 post toX soX coX ouX kyX moX diX rrX rwX n) (nI c) (nI (N (c / 3))) toX soX coX ouX kyX moX diX rrX rwX m (nI i) s rcX unX rqX taX acX sceX srcX sunX srqX staX sacX stX cfX cpX chX csX okX ocX koX kfX cbX mkX fvX ovX rsX rtX) (fun i s => cw_I N D (cl_D N D T A M) M c i s) (N (c / 3)) s hI ?_ ?_
    · intro m s hJ
      exact br_t (nI_le (Nat.le_refl _) (by omega)) (nm_r (nI_1 c) (hn' s (cw_next hJ)))
    · intro m i s hi hJ hm'
      refine br_f (nI_ge hi (by omega)) ⟨vp_in_nI hc (by decide), ?_⟩
      rw [nI_clamp (show c < 2 ^ 31 by omega), (hk c hc).2.2.2]
      have hA' := hA c hc
      by_cases a2 : A c = 2
      · refine br_t (by rw [a2]; rfl) ?_
        refine xm_loses (D := fun c r => s (16 * c + r)) ⟨hC.1, fun _ _ _ _ => rfl⟩ hk hm (fun ht => cw_fu cl_or hJ ht (hu c hc ht)) hc hi (fun mi li => ?_) (fun z => ?_)
        · refine br_f (by decide) ⟨by rw [nz_16]; exact vp_in_nI (by omega) (by decide), nm_r (e' := vp_updL s (16 * c + i) nu_l) (by rw [nz_16, nI_clamp (by omega)]) (nm_r (nI_1 i) (hm' _ (cw_put h16 hJ hc hi mi (cl_t ⟨a2, (cw_lo hJ hc hi).mp li⟩))))⟩
        · exact br_t rfl (nm_r (nI_1 i) (hm' s (cw_keep hJ hc hi (fun mi => cl_f (fun w => z ⟨mi, (cw_lo hJ hc hi).mpr w.2⟩)))))
      · exact br_f (op_ne (b := 2) (by omega) (by decide) a2) (nm_r (nI_1 i) (hm' s (cw_keep hJ hc hi (fun _ => cl_f (fun w => a2 w.1)))))
theorem xm_copy {post : SX → Prop} {t a b : Nat} (ht : t < 3) (ha : a < 16) (hb : b < 16) (h : ∀ ce, (∀ c r, c < 9 → r < 16 → ce (16 * c + r) = if c / 3 = t ∧ r = b then ceX (16 * c + a) else ceX (16 * c + r)) → post (toX, soX, coX, ouX, kyX, moX, diX, rrX, rwX, ce, rcX, unX, rqX, taX, acX, sceX, srcX, sunX, srqX, staX, sacX, stX, cfX, cpX, chX, csX, okX, ocX, koX, kfX, cbX, mkX, fvX, ovX, rsX, rtX)) : wpX_copyRow post (toX, soX, coX, ouX, kyX, moX, diX, rrX, rwX, ceX, rcX, unX, rqX, taX, acX, sceX, srcX, sunX, srqX, staX, sacX, stX, cfX, cpX, chX, csX, okX, ocX, koX, kfX, cbX, mkX, fvX, ovX, rsX, rtX) (nI t) (nI a) (nI b) := by
  refine loop_0 (fun n d s => wX_copyRow_3 post (nI t) (nI a) (nI b) toX soX coX ouX kyX moX diX rrX rwX n (nI d) s rcX unX rqX taX acX sceX srcX sunX srqX staX sacX stX cfX cpX chX csX okX ocX koX kfX cbX mkX fvX ovX rsX rtX) (fun d s => ∀ c r, c < 9 → r < 16 → s (16 * c + r) = if c / 3 = t ∧ c % 3 < d ∧ r = b then ceX (16 * c + a) else ceX (16 * c + r)) 3 ceX (fun c r _ _ => by rw [if_neg (by omega)]) ?_ ?_
  · intro n s hI
    refine br_t (by decide) (h s (fun c r hc hr => ?_))
    rw [hI c r hc hr]
    by_cases z : c / 3 = t ∧ r = b
    · rw [if_pos z, if_pos (by omega)]
    · rw [if_neg z, if_neg (by omega)]
  · intro n d s hd hI hn
    have e1 : 16 * ((3 * nI t) + nI d) = nI (16 * (3 * t + d)) := by rw [nz_3, nz_16m]
    refine br_f (nI_ge (b := 3) hd (by decide)) (nm_r e1 ?_)
    rw [nI_add, nI_add, nI_clamp (by omega), nI_clamp (by omega)]
    refine ⟨vp_in_nI (by omega) (by decide), vp_in_nI (by omega) (by decide), nm_e (nm_r (nI_1 d) (hn _ (fun c r hc hr => ?_)))⟩
    by_cases z : c = 3 * t + d ∧ r = b
    · obtain ⟨rfl, rfl⟩ := z
      rw [pk_uLs, hI _ a hc ha, if_neg (by omega), if_pos (by omega)]
    · rw [pk_uLn (by omega), hI c r hc hr]
      by_cases y : c / 3 = t ∧ c % 3 < d ∧ r = b
      · rw [if_pos y, if_pos (by omega)]
      · rw [if_neg y, if_neg (by omega)]
/-- while the tables shrink one behind another -/
def dp_I (N : Nat → Nat) (E : Nat → Nat → Int64) (M : Nat → Bool) (u : Nat) (V : Nat → Nat → Int64) (rc : Nat → Int32) : Prop :=
  (∀ c r, c < 9 → r < N (c / 3) → M (16 * (c / 3) + r) = false → V c (if c / 3 < u then cn_b (sy_b M (c / 3)) r else r) = E c r) ∧ ∀ t, t < 3 → rc t = nI (if t < u then sh_N N M t else N t)
def dp_n (N : Nat → Nat) (M : Nat → Bool) : Nat → Nat
  | 0 => 0
  | u + 1 => dp_n N M u + (N u - sh_N N M u)
theorem dp_end {E V : Nat → Nat → Int64} {rc : Nat → Int32} (h16 : ∀ t, t < 3 → N t ≤ 16) (h : dp_I N E M 3 V rc) : (∀ t, t < 3 → rc t = nI (sh_N N M t) ∧ sh_N N M t ≤ 16) ∧ ∀ c j, c < 9 → j < sh_N N M (c / 3) → V c j = sh_D N E M c j := by
  refine ⟨fun t ht => ?_, fun c j hc hj => ?_⟩
  · have := h.2 t ht
    rw [if_pos ht] at this
    have h1 := cn_le (sy_b M t) (N t)
    have h2 := h16 t ht
    exact ⟨this, Nat.le_trans h1 h2⟩
  · obtain ⟨r, hr, sr, cr, er⟩ := sh_e (E := E) hj
    have := h.1 c r hc hr sr
    rw [if_pos (by omega), cr] at this
    rw [this, er]
theorem dp_step {E V0 V : Nat → Nat → Int64} {rc rc' : Nat → Int32} {u : Nat} (h16 : ∀ t, t < 3 → N t ≤ 16) (h : dp_I N E M u V0 rc) (hs : sh_I N E M u (N u) V0 V) (hu : u < 3) (hrc : ∀ t, t < 3 → rc' t = if t = u then nI (cn_b (sy_b M u) (N u)) else rc t) : dp_I N E M (u + 1) V rc' := by
  refine ⟨fun c r hc hr hm => ?_, fun t ht => ?_⟩
  · have hN := h16 (c / 3) (by omega)
    have hle := cn_le (sy_b M (c / 3)) r
    by_cases e : c / 3 = u
    · rw [if_pos (by omega), e]
      rw [e] at hr hm
      exact hs.2.1 c r hc e hr hm
    · have h1 := h.1 c r hc hr hm
      by_cases z : c / 3 < u
      · rw [if_pos z] at h1
        rw [if_pos (by omega), hs.2.2 c _ hc e (by omega)]
        exact h1
      · rw [if_neg z] at h1
        rw [if_neg (by omega), hs.2.2 c _ hc e (by omega)]
        exact h1
  · rw [hrc t ht]
    by_cases e : t = u
    · subst e
      rw [if_pos rfl, if_pos (by omega)]
      rfl
    · rw [if_neg e, h.2 t ht]
      by_cases z : t < u
      · rw [if_pos z, if_pos (by omega)]
      · rw [if_neg z, if_neg (by omega)]
theorem dp_init {E V0 : Nat → Nat → Int64} {rc : Nat → Int32} {u : Nat} (h : dp_I N E M u V0 rc) (hu : u < 3) : sh_I N E M u 0 V0 V0 := by
  refine ⟨fun c r hc e _ hr hm => ?_, fun c r _ _ hr => absurd hr (Nat.not_lt_zero _), fun _ _ _ _ _ => rfl⟩
  have := h.1 c r hc (by rw [e]; exact hr) (by rw [e]; exact hm)
  rw [if_neg (by omega)] at this
  exact this
theorem xm_drop {post : Int32 → SX → Prop} {E : Nat → Nat → Int64} (hN : ∀ t, t < 3 → rcX t = nI (N t) ∧ N t ≤ 16) (hm : ∀ x, x < 48 → mkX x = bo_i (M x)) (hE : ∀ c r, c < 9 → r < N (c / 3) → M (16 * (c / 3) + r) = false → ceX (16 * c + r) = E c r)
    (h : ∀ ce rc, db_xc (sh_N N M) (sh_D N E M) ce rc → post (nI (dp_n N M 3)) (toX, soX, coX, ouX, kyX, moX, diX, rrX, rwX, ce, rc, unX, rqX, taX, acX, sceX, srcX, sunX, srqX, staX, sacX, stX, cfX, cpX, chX, csX, okX, ocX, koX, kfX, cbX, mkX, fvX, ovX, rsX, rtX)) : wpX_dropMarkedRows post (toX, soX, coX, ouX, kyX, moX, diX, rrX, rwX, ceX, rcX, unX, rqX, taX, acX, sceX, srcX, sunX, srqX, staX, sacX, stX, cfX, cpX, chX, csX, okX, ocX, koX, kfX, cbX, mkX, fvX, ovX, rsX, rtX) := by
  have h16 : ∀ t, t < 3 → N t ≤ 16 := fun t ht => (hN t ht).2
  refine loop_0 (fun n u (s : (Nat → Int64) × (Nat → Int32)) => wX_dropMarkedRows_4 post n (nI (dp_n N M u)) (nI u) toX soX coX ouX kyX moX diX rrX rwX s.1 s.2 unX rqX taX acX sceX srcX sunX srqX staX sacX stX cfX cpX chX csX okX ocX koX kfX cbX mkX fvX ovX rsX rtX) (fun u s => dp_I N E M u (fun c r => s.1 (16 * c + r)) s.2) 3 (ceX, rcX) ⟨fun c r hc hr hm' => by rw [if_neg (Nat.not_lt_zero _)]; exact hE c r hc hr hm', fun t ht => by rw [if_neg (Nat.not_lt_zero _)]; exact (hN t ht).1⟩ ?_ ?_
  · rintro n ⟨ce, rc⟩ hI
    obtain ⟨a, b⟩ := dp_end h16 hI
    exact br_t (by decide) (h ce rc ⟨a, b⟩)
  · rintro n u ⟨ce, rc⟩ hu hI hn
    have hr : rc u = nI (N u) := by
      have := hI.2 u hu
      rw [if_neg (Nat.lt_irrefl u)] at this
      exact this
    have hNu := h16 u hu
    have hi3 : vp_in (nI u) 3 := vp_in_nI hu (by decide)
    refine br_f (nI_ge (b := 3) hu (by decide)) ⟨hi3, nm_r (e' := nI (N u)) (by rw [nI_clamp (by omega)]; exact hr) ?_⟩
    refine loop_0 (fun m i s => wX_dropMarkedRows_22 post (wX_dropMarkedRows_4 post n) (nI (dp_n N M u)) (nI u) (nI (N u)) m (nI (cn_b (sy_b M u) i)) (nI i) toX soX coX ouX kyX moX diX rrX rwX s rc unX rqX taX acX sceX srcX sunX srqX staX sacX stX cfX cpX chX csX okX ocX koX kfX cbX mkX fvX ovX rsX rtX) (fun i s => sh_I N E M u i (fun c r => ce (16 * c + r)) (fun c r => s (16 * c + r))) (N u) ce (dp_init hI hu) ?_ ?_
    · intro m s hJ
      have hle := cn_le (sy_b M u) (N u)
      refine br_t (nI_le (Nat.le_refl _) (by omega)) ⟨hi3, nm_e (nm_r (e' := nI (dp_n N M (u + 1))) (by rw [pk_sub hle, nI_add]; rfl) (nm_r (nI_1 u) (hn (s, upd rc (nI u).toNatClampNeg (nI (cn_b (sy_b M u) (N u)))) ?_)))⟩
      refine dp_step h16 hI hJ hu (fun t ht => ?_)
      show upd rc (nI u).toNatClampNeg (nI (cn_b (sy_b M u) (N u))) t = _
      rw [nI_clamp (by omega)]
      rfl
    · intro m i s hi hJ hm'
      refine br_f (nI_ge hi (by omega)) ?_
      rw [nz_16, nI_clamp (by omega), hm _ (by omega)]
      refine ⟨vp_in_nI (by omega) (by decide), ?_⟩
      have hle := cn_le (sy_b M u) i
      cases hb : M (16 * u + i) with
      | true =>
        refine br_f (by decide) (nm_r (nI_1 i) ?_)
        have := hm' s (sh_no hJ hb)
        rw [cn_f (show ¬ sy_b M u i = true by rw [sy_i, hb]; decide)] at this
        exact this
      | false =>
        refine br_t rfl (xm_copy hu (by omega) (by omega) (fun ce' hce => ?_))
        have := hm' ce' (sh_go hJ hNu hi hb (fun c r hc hr => hce c r hc hr))
        rw [cn_t (sy_i.mpr hb)] at this
        exact nm_r (nI_1 _) (nm_r (nI_1 i) this)
end
end
section
section
variable {opY soY coY ouY kyY liY diY cmY rrY wiY : Int32} {ceY oceY bceY rsY : Nat → Int64} {maY omaY bmaY unY rqY bunY brqY rfY acY brfY bacY srY csY ccY cpY cwY okY osY ocY koY ciY kfY cbY goY geY keY : Nat → Int32} {N : Nat → Nat} {D : Nat → Nat → Int64} {U R : Nat → Bool} {T A : Nat → Nat} {M M0 : Nat → Bool}
theorem nz_d16 {k : Nat} (hk : k < 2 ^ 31) : nI k / 16 = nI (k / 16) := pk_div (d := 16) hk (by decide) (by decide)
theorem nz_r16 {k : Nat} (hk : k < 2 ^ 31) : nI k - nI k / 16 * 16 = nI (k % 16) := pk_rem (d := 16) hk (by decide) (by decide)
theorem nz_16ne : ¬ (16 : Int32) = 0 := by decide
theorem ym_loses {post : Int32 → Prop} (hC : db_yc N D ceY maY) (hk : db_k U R T A unY rqY rfY acY) (hm : ∀ x, x < 48 → geY x = bo_i (M x)) {c i : Nat} (hc : c < 9) (hi : i < N (c / 3)) (h1 : lo_p N D T M c i → post 1) (h0 : ¬ lo_p N D T M c i → post 0) : wpY_loses post (opY, soY, coY, ouY, kyY, liY, diY, cmY, rrY, wiY, ceY, oceY, bceY, maY, omaY, bmaY, unY, rqY, bunY, brqY, rfY, acY, brfY, bacY, srY, csY, ccY, cpY, cwY, okY, osY, ocY, koY, ciY, kfY, cbY, goY, rsY, geY, keY) (nI c) (nI i) := by
  unfold wpY_loses
  dsimp only
  have ec : (nI c).toNatClampNeg = c := nI_clamp (by omega)
  refine ym_at hC hc hi ⟨vp_in_nI hc (by decide), nm_r (e' := ta_i (T c)) (by rw [ec]; exact (hk c hc).2.2.1) ?_⟩
  by_cases hv : D c i = nu_l
  · exact br_t hv (h0 (fun z => z.1 hv))
  · refine br_f hv ?_
    by_cases ht : T c < 9
    · rw [ta_lt ht]
      refine br_t (nI_pos' (by omega)) ?_
      obtain ⟨hn, hN⟩ := hC.1 (T c / 3) (by omega)
      have hi3 : vp_in (nI (T c) / 3) 3 := by rw [nz_d3 (by omega)]; exact vp_in_nI (by omega) (by decide)
      have en : maY (nI (T c) / 3).toNatClampNeg = nI (N (T c / 3)) := by rw [nz_d3 (by omega), nI_clamp (by omega)]; exact hn
      refine loop_0 (fun n j (_ : Unit) => wY_loses_33 post (D c i) (nI (T c)) opY soY coY ouY kyY liY diY cmY rrY wiY ceY oceY bceY maY omaY bmaY unY rqY bunY brqY rfY acY brfY bacY srY csY ccY cpY cwY okY osY ocY koY ciY kfY cbY goY rsY geY keY n (nI j)) (fun j _ => ∀ q, q < j → ¬ (M (16 * (T c / 3) + q) = true ∧ D (T c) q = D c i)) (N (T c / 3)) () lt_0 ?_ ?_
      · intro n _ hI
        refine ⟨nz_3ne, hi3, ?_⟩
        rw [en]
        refine br_t (nI_le (Nat.le_refl _) (by omega)) (h0 (fun z => ?_))
        obtain ⟨_, _, j, hj, w⟩ := z
        exact hI j hj w
      · intro n j _ hj hI hn'
        refine ⟨nz_3ne, hi3, ?_⟩
        rw [en]
        refine br_f (nI_ge hj (by omega)) ⟨nz_3ne, ?_⟩
        rw [show geY (16 * (nI (T c) / 3) + nI j).toNatClampNeg = bo_i (M (16 * (T c / 3) + j)) by rw [nz_d3 (by omega), nz_16, nI_clamp (by omega)]; exact hm _ (by omega)]
        refine ⟨by rw [nz_d3 (by omega), nz_16]; exact vp_in_nI (by omega) (by decide), ?_⟩
        by_cases mj : M (16 * (T c / 3) + j) = true
        · refine br_f (bo_n.mpr mj) (ym_at hC ht hj ?_)
          by_cases e : D (T c) j = D c i
          · exact br_t e (h1 ⟨hv, ht, j, hj, mj, e⟩)
          · exact br_f e (nm_r (nI_1 j) (hn' () (lt_s hI (fun z => e z.2))))
        · exact br_t (bo_0.mpr (by simpa using mj)) (nm_r (nI_1 j) (hn' () (lt_s hI (fun z => mj z.1))))
    · refine br_f (fun z => ?_) (h0 (fun z => ht z.2.1))
      rw [ta_ge ht] at z
      exact absurd z (by decide)
/-- one pass of Y's cascade -/
theorem ym_pass {post : Int32 → SY → Prop} {J : Int32 → (Nat → Int64) → (Nat → Int64) → (Nat → Int64) → (Nat → Int32) → (Nat → Int32) → (Nat → Int32) → (Nat → Int32) → (Nat → Int32) → (Nat → Int32) → (Nat → Int32) → (Nat → Int32) → (Nat → Int32) → (Nat → Int32) → (Nat → Int32) → (Nat → Int32) → (Nat → Int32) → (Nat → Int32) → (Nat → Int32) → (Nat → Int32) → (Nat → Int32) → (Nat → Int32) → (Nat → Int32) → (Nat → Int32) → (Nat → Int32) → (Nat → Int32) → (Nat → Int32) → (Nat → Int32) → (Nat → Int64) → (Nat → Int32) → (Nat → Int32) → Prop} {x1 : Int32} (hC : db_yc N D ceY maY) (hk : db_k U R T A unY rqY rfY acY) (hA : ∀ c, c < 9 → A c ≤ 2) (hm : ∀ x, x < 48 → geY x = bo_i (M x)) (sn : sn_d N D T A M0 M)
    (h0 : cl_c N D T A M → ∀ ge, (∀ x, x < 48 → ge x = bo_i (M x)) → J 0 ceY oceY bceY maY omaY bmaY unY rqY bunY brqY rfY acY brfY bacY srY csY ccY cpY cwY okY osY ocY koY ciY kfY cbY goY rsY ge keY)
    (h1 : ∀ ge M', (∀ x, x < 48 → ge x = bo_i (M' x)) → sn_d N D T A M0 M' → cn_b M 48 < cn_b M' 48 → J 1 ceY oceY bceY maY omaY bmaY unY rqY bunY brqY rfY acY brfY bacY srY csY ccY cpY cwY okY osY ocY koY ciY kfY cbY goY rsY ge keY) : ∃ n, wY_erase_93 post J x1 opY soY coY ouY kyY liY diY cmY rrY wiY n 0 0 ceY oceY bceY maY omaY bmaY unY rqY bunY brqY rfY acY brfY bacY srY csY ccY cpY cwY okY osY ocY koY ciY kfY cbY goY rsY geY keY := by
  have h16 : ∀ t, t < 3 → N t ≤ 16 := fun t ht => (hC.1 t ht).2
  refine loop_0 (fun n k (s : Int32 × (Nat → Int32)) => wY_erase_93 post J x1 opY soY coY ouY kyY liY diY cmY rrY wiY n s.1 (nI k) ceY oceY bceY maY omaY bmaY unY rqY bunY brqY rfY acY brfY bacY srY csY ccY cpY cwY okY osY ocY koY ciY kfY cbY goY rsY s.2 keY) (fun k s => ∃ M', (∀ x, x < 48 → s.2 x = bo_i (M' x)) ∧ sn_d N D T A M0 M' ∧ ((s.1 = 0 ∧ M' = M ∧ ∀ q, q < k → q % 16 < N (q / 16 / 3) → A (q / 16) = 1 → lo_p N D T M (q / 16) (q % 16) → M (16 * (q / 16 / 3) + q % 16) = true) ∨ (s.1 = 1 ∧ cn_b M 48 < cn_b M' 48))) 144 (0, geY) ⟨M, hm, sn, Or.inl ⟨rfl, rfl, lt_0⟩⟩ ?_ ?_
  · rintro n ⟨x, ge⟩ ⟨M', hm', sn', hor⟩
    refine br_t (by decide) ?_
    rcases hor with ⟨e, eM, hr⟩ | ⟨e, b⟩
    · subst eM
      have e : x = 0 := e
      subst e
      refine h0 (fun c r hc hr' ha hl => ?_) ge hm'
      have hN := h16 (c / 3) (by omega)
      have := hr (16 * c + r) (by omega)
      rw [show (16 * c + r) / 16 = c by omega, show (16 * c + r) % 16 = r by omega] at this
      exact this hr' ha hl
    · have e : x = 1 := e
      subst e
      exact h1 ge M' hm' sn' b
  · rintro n k ⟨x, ge⟩ hk' ⟨M', hm', sn', hor⟩ hn'
    obtain ⟨hn, hN⟩ := hC.1 (k / 16 / 3) (by omega)
    have hc9 : k / 16 < 9 := by omega
    have hA' := hA (k / 16) hc9
    have skip : (k % 16 < N (k / 16 / 3) → A (k / 16) = 1 → lo_p N D T M' (k / 16) (k % 16) → M' (16 * (k / 16 / 3) + k % 16) = true) → wY_erase_93 post J x1 opY soY coY ouY kyY liY diY cmY rrY wiY n x (nI (k + 1)) ceY oceY bceY maY omaY bmaY unY rqY bunY brqY rfY acY brfY bacY srY csY ccY cpY cwY okY osY ocY koY ciY kfY cbY goY rsY ge keY := by
      intro hs
      refine hn' (x, ge) ⟨M', hm', sn', ?_⟩
      rcases hor with ⟨e, eM, hr⟩ | w
      · subst eM
        exact Or.inl ⟨e, rfl, lt_s hr hs⟩
      · exact Or.inr w
    refine br_f (nI_ge (b := 144) hk' (by decide)) ⟨nz_16ne, nm_r (nz_d16 (by omega)) ⟨nz_16ne, nm_r (nz_r16 (by omega)) ⟨nz_3ne, nm_r (e' := nI (16 * (k / 16 / 3) + k % 16)) (by rw [nz_d3 (by omega), nz_16]) ⟨nz_3ne, ?_⟩⟩⟩⟩
    rw [nz_d3 (by omega), nI_clamp (show k / 16 / 3 < 2 ^ 31 by omega), hn, nI_clamp (show 16 * (k / 16 / 3) + k % 16 < 2 ^ 31 by omega), hm' _ (by omega), nI_clamp (show k / 16 < 2 ^ 31 by omega), (hk _ hc9).2.2.2]
    refine ⟨vp_in_nI (by omega) (by decide), pk_le (N (k / 16 / 3)) (k % 16) (fun z => nm_r (nI_1 k) (skip (fun w => absurd w (by omega)))) (fun hr => ⟨vp_in_nI (by omega) (by decide), ?_⟩)⟩
    cases hb : M' (16 * (k / 16 / 3) + k % 16) with
    | true => exact br_f (by decide) (nm_r (nI_1 k) (skip (fun _ _ _ => hb)))
    | false =>
      refine br_t rfl ⟨vp_in_nI hc9 (by decide), ?_⟩
      by_cases ha : A (k / 16) = 1
      · refine br_t (by rw [ha]; rfl) (ym_loses hC hk hm' hc9 hr (fun l => ?_) (fun l => ?_))
        · refine br_f (by decide) ⟨vp_in_nI (by omega) (by decide), nm_r (e' := upd ge (16 * (k / 16 / 3) + k % 16) (bo_i true)) (by rw [bo_nar1]) (nm_r (nI_1 k) (hn' (1, upd ge (16 * (k / 16 / 3) + k % 16) (bo_i true)) ⟨st_b M' (16 * (k / 16 / 3) + k % 16), st_ar hm', sn_step h16 sn' hc9 hr ha l, Or.inr ⟨rfl, ?_⟩⟩))⟩
          rw [cn_new h16 hc9 hr hb]
          rcases hor with ⟨e, eM, hr⟩ | ⟨e, b⟩
          · subst eM
            omega
          · omega
        · exact br_t rfl (nm_r (nI_1 k) (skip (fun _ _ z => absurd z l)))
      · exact br_f (op_ne (b := 1) (by omega) (by decide) ha) (nm_r (nI_1 k) (skip (fun _ z => absurd z ha)))
def mk_b (f : Nat → Int32) : Nat → Bool := fun x => decide (¬ f x = 0)
theorem mk_e {f : Nat → Int32} (h : ∀ x, x < 48 → f x = bo_i (M x)) : cn_b (mk_b f) 48 = cn_b M 48 := by
  refine cn_ext (fun i hi => ?_)
  unfold mk_b
  rw [h i hi]
  cases M i <;> decide
theorem ym_cascade {post : Int32 → SY → Prop} {x1 : Int32} (hC : db_yc N D ceY maY) (hk : db_k U R T A unY rqY rfY acY) (hA : ∀ c, c < 9 → A c ≤ 2) (hm : ∀ x, x < 48 → geY x = bo_i (M x))
    (h : ∀ ge M', (∀ x, x < 48 → ge x = bo_i (M' x)) → sn_d N D T A M M' → cl_c N D T A M' → ∃ n, wY_erase_198 post x1 opY soY coY ouY kyY liY diY cmY rrY wiY n 0 ceY oceY bceY maY omaY bmaY unY rqY bunY brqY rfY acY brfY bacY srY csY ccY cpY cwY okY osY ocY koY ciY kfY cbY goY rsY ge keY) : ∃ n, wY_erase_84 post x1 opY soY coY ouY kyY liY diY cmY rrY wiY n 1 ceY oceY bceY maY omaY bmaY unY rqY bunY brqY rfY acY brfY bacY srY csY ccY cpY cwY okY osY ocY koY ciY kfY cbY goY rsY geY keY := by
  refine loop_m (fun n (s : Int32 × (Nat → Int32)) => wY_erase_84 post x1 opY soY coY ouY kyY liY diY cmY rrY wiY n s.1 ceY oceY bceY maY omaY bmaY unY rqY bunY brqY rfY acY brfY bacY srY csY ccY cpY cwY okY osY ocY koY ciY kfY cbY goY rsY s.2 keY) (fun s => ∃ M', (∀ x, x < 48 → s.2 x = bo_i (M' x)) ∧ sn_d N D T A M M' ∧ ((s.1 = 0 ∧ cl_c N D T A M') ∨ s.1 = 1)) (fun s => if s.1 = 0 then 0 else 49 - cn_b (mk_b s.2) 48) ?_ (1, geY) ⟨M, hm, sn_refl, Or.inr rfl⟩
  rintro n ⟨x, ge⟩ ⟨M', hm', sn', hor⟩ hn
  rcases hor with ⟨e, hcl⟩ | e
  · have e : x = 0 := e
    subst e
    exact br_t rfl (h ge M' hm' sn' hcl)
  · have e : x = 1 := e
    subst e
    have hle := cn_le M' 48
    have hmu : (if (1 : Int32) = 0 then 0 else 49 - cn_b (mk_b ge) 48) = 49 - cn_b M' 48 := by
      rw [if_neg (by decide), mk_e hm']
    refine br_f (by decide : ¬ (1 : Int32) = 0) (ym_pass hC hk hA hm' sn' (fun hcl ge2 hm2 => ?_) (fun ge2 M2 hm2 sn2 hlt => ?_))
    · refine hn (0, ge2) ⟨M', hm2, sn', Or.inl ⟨rfl, hcl⟩⟩ ?_
      show (if (0 : Int32) = 0 then 0 else 49 - cn_b (mk_b ge2) 48) < (if (1 : Int32) = 0 then 0 else 49 - cn_b (mk_b ge) 48)
      rw [hmu, if_pos rfl]
      omega
    · refine hn (1, ge2) ⟨M2, hm2, sn2, Or.inr rfl⟩ ?_
      show (if (1 : Int32) = 0 then 0 else 49 - cn_b (mk_b ge2) 48) < (if (1 : Int32) = 0 then 0 else 49 - cn_b (mk_b ge) 48)
      rw [hmu, if_neg (by decide), mk_e hm2]
      have := cn_le M2 48
      omega
theorem ym_kept {post : Int32 → SY → Prop} {x1 : Int32} (hC : db_yc N D ceY maY) (hk : db_k U R T A unY rqY rfY acY) (hA : ∀ c, c < 9 → A c ≤ 2) (hm : ∀ x, x < 48 → geY x = bo_i (M x))
    (h : ∀ ke, (∀ c r, c < 9 → r < N (c / 3) → (ke (16 * c + r) = 0 ↔ ¬ (A c = 2 ∧ lo_p N D T M c r))) → ∃ n, wY_erase_277 post x1 opY soY coY ouY kyY liY diY cmY rrY wiY n 0 ceY oceY bceY maY omaY bmaY unY rqY bunY brqY rfY acY brfY bacY srY csY ccY cpY cwY okY osY ocY koY ciY kfY cbY goY rsY geY ke) : ∃ n, wY_erase_198 post x1 opY soY coY ouY kyY liY diY cmY rrY wiY n 0 ceY oceY bceY maY omaY bmaY unY rqY bunY brqY rfY acY brfY bacY srY csY ccY cpY cwY okY osY ocY koY ciY kfY cbY goY rsY geY keY := by
  have h16 : ∀ t, t < 3 → N t ≤ 16 := fun t ht => (hC.1 t ht).2
  refine loop_0 (fun n k s => wY_erase_198 post x1 opY soY coY ouY kyY liY diY cmY rrY wiY n (nI k) ceY oceY bceY maY omaY bmaY unY rqY bunY brqY rfY acY brfY bacY srY csY ccY cpY cwY okY osY ocY koY ciY kfY cbY goY rsY geY s) (fun k s => ∀ q, q < k → q % 16 < N (q / 16 / 3) → (s q = 0 ↔ ¬ (A (q / 16) = 2 ∧ lo_p N D T M (q / 16) (q % 16)))) 144 keY lt_0 ?_ ?_
  · intro n s hI
    refine br_t (by decide) (h s (fun c r hc hr => ?_))
    have hN := h16 (c / 3) (by omega)
    have := hI (16 * c + r) (by omega)
    rw [show (16 * c + r) / 16 = c by omega, show (16 * c + r) % 16 = r by omega] at this
    exact this hr
  · intro n k s hk' hI hn'
    obtain ⟨hn, hN⟩ := hC.1 (k / 16 / 3) (by omega)
    have hc9 : k / 16 < 9 := by omega
    have hA' := hA (k / 16) hc9
    have hv : vp_in (nI k) 144 := vp_in_nI hk' (by decide)
    have ek : (nI k).toNatClampNeg = k := nI_clamp (by omega)
    have put : ∀ b, ((bo_i b = 0) ↔ ¬ (A (k / 16) = 2 ∧ lo_p N D T M (k / 16) (k % 16))) → wY_erase_198 post x1 opY soY coY ouY kyY liY diY cmY rrY wiY n (nI (k + 1)) ceY oceY bceY maY omaY bmaY unY rqY bunY brqY rfY acY brfY bacY srY csY ccY cpY cwY okY osY ocY koY ciY kfY cbY goY rsY geY (upd s k (bo_i b)) := by
      intro b hb
      refine hn' _ (lt_s (fun q hq hr => ?_) (fun _ => ?_))
      · rw [pk_un (by omega)]
        exact hI q hq hr
      · rw [pk_us]
        exact hb
    refine br_f (nI_ge (b := 144) hk' (by decide)) ⟨nz_16ne, nm_r (nz_d16 (by omega)) ⟨nz_16ne, nm_r (nz_r16 (by omega)) ⟨nz_3ne, ?_⟩⟩⟩
    rw [nz_d3 (by omega), nI_clamp (show k / 16 / 3 < 2 ^ 31 by omega), hn, nI_clamp (show k / 16 < 2 ^ 31 by omega), (hk _ hc9).2.2.2, ek]
    refine ⟨vp_in_nI (by omega) (by decide), pk_le (N (k / 16 / 3)) (k % 16) (fun z => nm_r (nI_1 k) (hn' s (lt_s hI (fun w => absurd w (by omega))))) (fun hr => ⟨vp_in_nI hc9 (by decide), ?_⟩)⟩
    by_cases ha : A (k / 16) = 2
    · refine br_t (by rw [ha]; rfl) (ym_loses hC hk hm hc9 hr (fun l => ?_) (fun l => ?_))
      · refine br_f (by decide) ⟨hv, nm_e (nm_r (nI_1 k) ?_)⟩
        rw [bo_nar1]
        exact put true ⟨fun z => absurd z (by decide), fun z => absurd ⟨ha, l⟩ z⟩
      · refine br_t rfl ⟨hv, nm_e (nm_r (nI_1 k) ?_)⟩
        rw [bo_nar0]
        exact put false ⟨fun _ z => l z.2, fun _ => rfl⟩
    · refine br_f (op_ne (b := 2) (by omega) (by decide) ha) ⟨hv, nm_e (nm_r (nI_1 k) ?_)⟩
      rw [bo_nar0]
      exact put false ⟨fun _ z => ha z.1, fun _ => rfl⟩
theorem ym_cleared {post : Int32 → SY → Prop} {x1 : Int32} (hC : db_yc N D ceY maY) (hke : ∀ c r, c < 9 → r < N (c / 3) → (keY (16 * c + r) = 0 ↔ ¬ (A c = 2 ∧ lo_p N D T M c r)))
    (h : ∀ ce, db_yc N (cl_D N D T A M) ce maY → ∃ n, wY_erase_357 post n x1 0 opY soY coY ouY kyY liY diY cmY rrY wiY ce oceY bceY maY omaY bmaY unY rqY bunY brqY rfY acY brfY bacY srY csY ccY cpY cwY okY osY ocY koY ciY kfY cbY goY rsY geY keY) : ∃ n, wY_erase_277 post x1 opY soY coY ouY kyY liY diY cmY rrY wiY n 0 ceY oceY bceY maY omaY bmaY unY rqY bunY brqY rfY acY brfY bacY srY csY ccY cpY cwY okY osY ocY koY ciY kfY cbY goY rsY geY keY := by
  have h16 : ∀ t, t < 3 → N t ≤ 16 := fun t ht => (hC.1 t ht).2
  refine loop_0 (fun n k s => wY_erase_277 post x1 opY soY coY ouY kyY liY diY cmY rrY wiY n (nI k) s oceY bceY maY omaY bmaY unY rqY bunY brqY rfY acY brfY bacY srY csY ccY cpY cwY okY osY ocY koY ciY kfY cbY goY rsY geY keY) (fun k s => ∀ c r, c < 9 → r < N (c / 3) → s (48 * (c / 3) + 3 * r + c % 3) = if 16 * c + r < k then cl_D N D T A M c r else D c r) 144 ceY (fun c r hc hr => by rw [if_neg (Nat.not_lt_zero _)]; exact hC.2 c r hc hr) ?_ ?_
  · intro n s hI
    refine br_t (by decide) (h s ⟨hC.1, fun c r hc hr => ?_⟩)
    have hN := h16 (c / 3) (by omega)
    rw [hI c r hc hr, if_pos (by omega)]
  · intro n k s hk' hI hn'
    obtain ⟨hn, hN⟩ := hC.1 (k / 16 / 3) (by omega)
    have hc9 : k / 16 < 9 := by omega
    have skip : (k % 16 < N (k / 16 / 3) → cl_D N D T A M (k / 16) (k % 16) = D (k / 16) (k % 16)) → wY_erase_277 post x1 opY soY coY ouY kyY liY diY cmY rrY wiY n (nI (k + 1)) s oceY bceY maY omaY bmaY unY rqY bunY brqY rfY acY brfY bacY srY csY ccY cpY cwY okY osY ocY koY ciY kfY cbY goY rsY geY keY := by
      intro he
      refine hn' s (fun c r hc hr => ?_)
      have hN' := h16 (c / 3) (by omega)
      rw [hI c r hc hr]
      by_cases z : 16 * c + r = k
      · have e1 : c = k / 16 := by omega
        have e2 : r = k % 16 := by omega
        rw [if_neg (by omega), if_pos (by omega)]
        subst e1 e2
        exact (he hr).symm
      · by_cases y : 16 * c + r < k
        · rw [if_pos y, if_pos (by omega)]
        · rw [if_neg y, if_neg (by omega)]
    refine br_f (nI_ge (b := 144) hk' (by decide)) ⟨nz_16ne, nm_r (nz_d16 (by omega)) ⟨nz_16ne, nm_r (nz_r16 (by omega)) ⟨nz_3ne, ?_⟩⟩⟩
    rw [ym_ix hc9, nz_d3 (by omega), nI_clamp (show k / 16 / 3 < 2 ^ 31 by omega), hn, nI_clamp (show k < 2 ^ 31 by omega)]
    refine ⟨vp_in_nI (by omega) (by decide), pk_le (N (k / 16 / 3)) (k % 16) (fun z => nm_r (nI_1 k) (skip (fun w => absurd w (by omega)))) (fun hr => ⟨vp_in_nI hk' (by decide), ?_⟩)⟩
    have hke' := hke (k / 16) (k % 16) hc9 hr
    rw [show 16 * (k / 16) + k % 16 = k by omega] at hke'
    by_cases z : keY k = 0
    · exact br_t z (nm_r (nI_1 k) (skip (fun _ => cl_f (hke'.mp z))))
    · have hcl : cl_D N D T A M (k / 16) (k % 16) = nu_l := by
        by_cases w : A (k / 16) = 2 ∧ lo_p N D T M (k / 16) (k % 16)
        · exact cl_t w
        · exact absurd (hke'.mpr w) z
      refine br_f z ⟨nz_3ne, nz_3ne, vp_in_nI (by omega) (by decide), nm_r (e' := vp_updL s (48 * (k / 16 / 3) + 3 * (k % 16) + k / 16 % 3) nu_l) (by rw [nI_clamp (by omega)]) (nm_r (nI_1 k) (hn' _ (fun c r hc hr' => ?_)))⟩
      have hN' := h16 (c / 3) (by omega)
      by_cases y : 16 * c + r = k
      · have e1 : c = k / 16 := by omega
        have e2 : r = k % 16 := by omega
        subst e1 e2
        rw [pk_uLs, if_pos (by omega), hcl]
      · rw [pk_uLn, hI c r hc hr']
        · by_cases y' : 16 * c + r < k
          · rw [if_pos y', if_pos (by omega)]
          · rw [if_neg y', if_neg (by omega)]
        · intro w
          have e1 : c / 3 = k / 16 / 3 := by omega
          have e2 : r = k % 16 := by omega
          have e3 : c % 3 = k / 16 % 3 := by omega
          omega
theorem ym_copy {post : Int32 → SY → Prop} {J : Int32 → Int32 → (Nat → Int64) → (Nat → Int64) → (Nat → Int64) → (Nat → Int32) → (Nat → Int32) → (Nat → Int32) → (Nat → Int32) → (Nat → Int32) → (Nat → Int32) → (Nat → Int32) → (Nat → Int32) → (Nat → Int32) → (Nat → Int32) → (Nat → Int32) → (Nat → Int32) → (Nat → Int32) → (Nat → Int32) → (Nat → Int32) → (Nat → Int32) → (Nat → Int32) → (Nat → Int32) → (Nat → Int32) → (Nat → Int32) → (Nat → Int32) → (Nat → Int32) → (Nat → Int32) → (Nat → Int32) → (Nat → Int64) → (Nat → Int32) → (Nat → Int32) → Prop} {t a b : Nat} (ht : t < 3) (ha : a < 16) (hb : b < 16)
    (h : ∀ ce, (∀ c r, c < 9 → r < 16 → ce (48 * (c / 3) + 3 * r + c % 3) = if c / 3 = t ∧ r = b then ceY (48 * (c / 3) + 3 * a + c % 3) else ceY (48 * (c / 3) + 3 * r + c % 3)) → J (nI (b + 1)) (nI (a + 1)) ce oceY bceY maY omaY bmaY unY rqY bunY brqY rfY acY brfY bacY srY csY ccY cpY cwY okY osY ocY koY ciY kfY cbY goY rsY geY keY) : ∃ n, wY_shrink_34 post J (nI t) (nI b) (nI a) opY soY coY ouY kyY liY diY cmY rrY wiY n 0 ceY oceY bceY maY omaY bmaY unY rqY bunY brqY rfY acY brfY bacY srY csY ccY cpY cwY okY osY ocY koY ciY kfY cbY goY rsY geY keY := by
  refine loop_0 (fun n d s => wY_shrink_34 post J (nI t) (nI b) (nI a) opY soY coY ouY kyY liY diY cmY rrY wiY n (nI d) s oceY bceY maY omaY bmaY unY rqY bunY brqY rfY acY brfY bacY srY csY ccY cpY cwY okY osY ocY koY ciY kfY cbY goY rsY geY keY) (fun d s => ∀ c r, c < 9 → r < 16 → s (48 * (c / 3) + 3 * r + c % 3) = if c / 3 = t ∧ c % 3 < d ∧ r = b then ceY (48 * (c / 3) + 3 * a + c % 3) else ceY (48 * (c / 3) + 3 * r + c % 3)) 3 ceY (fun c r _ _ => by rw [if_neg (by omega)]) ?_ ?_
  · intro n s hI
    refine br_t (by decide) (nm_r (nI_1 b) (nm_r (nI_1 a) (h s (fun c r hc hr => ?_))))
    rw [hI c r hc hr]
    by_cases z : c / 3 = t ∧ r = b
    · rw [if_pos z, if_pos (by omega)]
    · rw [if_neg z, if_neg (by omega)]
  · intro n d s hd hI hn
    have ei : ∀ r, ((48 * nI t) + (3 * nI r)) + nI d = nI (48 * t + 3 * r + d) := fun r => by rw [nz_48, nz_3m, nI_add, nI_add]
    refine br_f (nI_ge (b := 3) hd (by decide)) ?_
    rw [ei a, ei b, nI_clamp (show 48 * t + 3 * a + d < 2 ^ 31 by omega), nI_clamp (show 48 * t + 3 * b + d < 2 ^ 31 by omega)]
    refine ⟨vp_in_nI (by omega) (by decide), vp_in_nI (by omega) (by decide), nm_e (nm_r (nI_1 d) (hn _ (fun c r hc hr => ?_)))⟩
    have ea := hI (3 * t + d) a (by omega) ha
    rw [show (3 * t + d) / 3 = t by omega, show (3 * t + d) % 3 = d by omega, if_neg (by omega)] at ea
    by_cases z : c = 3 * t + d ∧ r = b
    · obtain ⟨rfl, rfl⟩ := z
      rw [show (3 * t + d) / 3 = t by omega, show (3 * t + d) % 3 = d by omega, pk_uLs, ea, if_pos (by omega)]
    · rw [pk_uLn, hI c r hc hr]
      · by_cases y : c / 3 = t ∧ c % 3 < d ∧ r = b
        · rw [if_pos y, if_pos (by omega)]
        · rw [if_neg y, if_neg (by omega)]
      · intro w
        have e1 : c / 3 = t := by omega
        have e2 : r = b := by omega
        have e3 : c % 3 = d := by omega
        exact z ⟨by omega, e2⟩
theorem ym_shrink {post : Int32 → SY → Prop} {E : Nat → Nat → Int64} {u : Nat} (hu : u < 3) (h16 : ∀ t, t < 3 → N t ≤ 16) (hm : ∀ x, x < 48 → geY x = bo_i (M x)) (hI : dp_I N E M u (fun c r => ceY (48 * (c / 3) + 3 * r + c % 3)) maY)
    (h : ∀ ce ma, dp_I N E M (u + 1) (fun c r => ce (48 * (c / 3) + 3 * r + c % 3)) ma → post (nI (N u - sh_N N M u)) (opY, soY, coY, ouY, kyY, liY, diY, cmY, rrY, wiY, ce, oceY, bceY, ma, omaY, bmaY, unY, rqY, bunY, brqY, rfY, acY, brfY, bacY, srY, csY, ccY, cpY, cwY, okY, osY, ocY, koY, ciY, kfY, cbY, goY, rsY, geY, keY)) : wpY_shrink post (opY, soY, coY, ouY, kyY, liY, diY, cmY, rrY, wiY, ceY, oceY, bceY, maY, omaY, bmaY, unY, rqY, bunY, brqY, rfY, acY, brfY, bacY, srY, csY, ccY, cpY, cwY, okY, osY, ocY, koY, ciY, kfY, cbY, goY, rsY, geY, keY) (nI u) := by
  have hr : maY u = nI (N u) := by
    have := hI.2 u hu
    rw [if_neg (Nat.lt_irrefl u)] at this
    exact this
  have hNu := h16 u hu
  have hi3 : vp_in (nI u) 3 := vp_in_nI hu (by decide)
  have eu : (nI u).toNatClampNeg = u := nI_clamp (by omega)
  refine loop_0 (fun m i s => wY_shrink_4 post (nI u) opY soY coY ouY kyY liY diY cmY rrY wiY m (nI (cn_b (sy_b M u) i)) (nI i) s oceY bceY maY omaY bmaY unY rqY bunY brqY rfY acY brfY bacY srY csY ccY cpY cwY okY osY ocY koY ciY kfY cbY goY rsY geY keY) (fun i s => sh_I N E M u i (fun c r => ceY (48 * (c / 3) + 3 * r + c % 3)) (fun c r => s (48 * (c / 3) + 3 * r + c % 3))) (N u) ceY (dp_init hI hu) ?_ ?_
  · intro m s hJ
    have hle := cn_le (sy_b M u) (N u)
    refine ⟨hi3, ?_⟩
    rw [eu, hr]
    refine br_t (nI_le (Nat.le_refl _) (by omega)) ⟨hi3, nm_r (pk_sub hle) ⟨hi3, nm_e (h s _ ?_)⟩⟩
    exact dp_step h16 hI hJ hu (fun t ht => rfl)
  · intro m i s hi hJ hm'
    refine ⟨hi3, ?_⟩
    rw [eu, hr]
    refine br_f (nI_ge hi (by omega)) ?_
    rw [nz_16, nI_clamp (by omega), hm _ (by omega)]
    refine ⟨vp_in_nI (by omega) (by decide), ?_⟩
    have hle := cn_le (sy_b M u) i
    cases hb : M (16 * u + i) with
    | true =>
      refine br_f (by decide) (nm_r (nI_1 i) ?_)
      have := hm' s (sh_no hJ hb)
      rw [cn_f (show ¬ sy_b M u i = true by rw [sy_i, hb]; decide)] at this
      exact this
    | false =>
      refine br_t rfl (ym_copy hu (by omega) (by omega) (fun ce' hce => ?_))
      have := hm' ce' (sh_go hJ hNu hi hb (fun c r hc hr => hce c r hc hr))
      rw [cn_t (sy_i.mpr hb)] at this
      exact this
theorem ym_shrinks {post : Int32 → SY → Prop} {E : Nat → Nat → Int64} (hC : db_yc N E ceY maY) (hm : ∀ x, x < 48 → geY x = bo_i (M x))
    (h : ∀ ce ma, db_yc (sh_N N M) (sh_D N E M) ce ma → wpY_settle post (opY, soY, coY, ouY, kyY, liY, diY, cmY, rrY, wiY, ce, oceY, bceY, ma, omaY, bmaY, unY, rqY, bunY, brqY, rfY, acY, brfY, bacY, srY, csY, ccY, cpY, cwY, okY, osY, ocY, koY, ciY, kfY, cbY, goY, rsY, geY, keY) (nI (dp_n N M 3))) : ∃ n, wY_erase_357 post n 0 0 opY soY coY ouY kyY liY diY cmY rrY wiY ceY oceY bceY maY omaY bmaY unY rqY bunY brqY rfY acY brfY bacY srY csY ccY cpY cwY okY osY ocY koY ciY kfY cbY goY rsY geY keY := by
  have h16 : ∀ t, t < 3 → N t ≤ 16 := fun t ht => (hC.1 t ht).2
  refine loop_0 (fun n u (s : (Nat → Int64) × (Nat → Int32)) => wY_erase_357 post n (nI (dp_n N M u)) (nI u) opY soY coY ouY kyY liY diY cmY rrY wiY s.1 oceY bceY s.2 omaY bmaY unY rqY bunY brqY rfY acY brfY bacY srY csY ccY cpY cwY okY osY ocY koY ciY kfY cbY goY rsY geY keY) (fun u s => dp_I N E M u (fun c r => s.1 (48 * (c / 3) + 3 * r + c % 3)) s.2) 3 (ceY, maY) ⟨fun c r hc hr hm' => by rw [if_neg (Nat.not_lt_zero _)]; exact hC.2 c r hc hr, fun t ht => by rw [if_neg (Nat.not_lt_zero _)]; exact (hC.1 t ht).1⟩ ?_ ?_
  · rintro n ⟨ce, ma⟩ hI
    obtain ⟨a, b⟩ := dp_end h16 hI
    exact br_t (by decide) (h ce ma ⟨a, b⟩)
  · rintro n u ⟨ce, ma⟩ hu hI hn
    refine br_f (nI_ge (b := 3) hu (by decide)) (ym_shrink hu h16 hm hI (fun ce' ma' hI' => ?_))
    exact nm_r (e' := nI (dp_n N M (u + 1))) (by rw [nI_add]; rfl) (nm_r (nI_1 u) (hn (ce', ma') hI'))
end
end
section
/-- the least closed set of marks -/
noncomputable def mc_b (N : Nat → Nat) (D : Nat → Nat → Int64) (T A : Nat → Nat) (M0 : Nat → Bool) : Nat → Bool := fun x => @decide (∀ Q, cl_c N D T A Q → le_m M0 Q → Q x = true) (Classical.propDecidable _)
theorem mc_i {N : Nat → Nat} {D : Nat → Nat → Int64} {T A : Nat → Nat} {M0 : Nat → Bool} {x : Nat} : mc_b N D T A M0 x = true ↔ ∀ Q, cl_c N D T A Q → le_m M0 Q → Q x = true := @decide_eq_true_iff _ (Classical.propDecidable _)
theorem mc_e {N : Nat → Nat} {D : Nat → Nat → Int64} {T A : Nat → Nat} {M0 M : Nat → Bool} (sn : sn_d N D T A M0 M) (hcl : cl_c N D T A M) : ∀ x, x < 48 → M x = mc_b N D T A M0 x := fun x hx => Bool.eq_iff_iff.mpr (by
  rw [mc_i]
  exact ⟨fun h Q c l => sn.2 Q c l x hx h, fun h => h M hcl sn.1⟩)
theorem mc_c {N : Nat → Nat} {D : Nat → Nat → Int64} {T A : Nat → Nat} {M0 M : Nat → Bool} (h16 : ∀ t, t < 3 → N t ≤ 16) (sn : sn_d N D T A M0 M) (hcl : cl_c N D T A M) : cl_c N D T A (mc_b N D T A M0) := by
  intro c r hc hr ha hl
  have hN := h16 (c / 3) (by omega)
  rw [← mc_e sn hcl _ (by omega)]
  exact hcl c r hc hr ha (lo_mono h16 (fun x hx h => by rw [mc_e sn hcl x hx]; exact h) hl)
theorem mc_a {N : Nat → Nat} {D : Nat → Nat → Int64} {T A : Nat → Nat} {M0 M : Nat → Bool} (sn : sn_d N D T A M0 M) (hcl : cl_c N D T A M) {f : Nat → Int32} (h : ∀ x, x < 48 → f x = bo_i (M x)) : ∀ x, x < 48 → f x = bo_i (mc_b N D T A M0 x) := fun x hx => (h x hx).trans (congrArg bo_i (mc_e sn hcl x hx))
section
variable {toX soX coX ouX kyX moX diX rrX rwX : Int32} {ceX sceX fvX ovX rsX : Nat → Int64} {rcX unX rqX taX acX srcX sunX srqX staX sacX stX cfX cpX chX csX okX ocX koX kfX cbX mkX rtX : Nat → Int32} {opY soY coY ouY kyY liY diY cmY rrY wiY : Int32} {ceY oceY bceY rsY : Nat → Int64} {maY omaY bmaY unY rqY bunY brqY rfY acY brfY bacY srY csY ccY cpY cwY okY osY ocY koY ciY kfY cbY goY geY keY : Nat → Int32} {N : Nat → Nat} {D : Nat → Nat → Int64} {U R : Nat → Bool} {T A : Nat → Nat} {nc : Nat} {S CS CC CO : Nat → Nat} {CI : Nat → Bool} {CW : Nat → Int32}
theorem yv_erase {post : Int32 → SY → Prop} (hC : db_yc N D ceY maY) (hkk : db_k U R T A unY rqY rfY acY) (hA : ∀ c, c < 9 → A c ≤ 2) {ns : Nat} (hk : ck_c ns nc S CS CC CO CI CW) (hsr : ∀ s, s < ns → srY s = nI (S s)) (hc : cy_c nc CS CC CO CI CW csY ccY cpY ciY cwY)
    (hb : ns ≠ 1 → post (-1) (opY, nI ns, nI nc, ouY, kyY, liY, diY, cmY, rrY, wiY, ceY, oceY, bceY, maY, omaY, bmaY, unY, rqY, bunY, brqY, rfY, acY, brfY, bacY, srY, csY, ccY, cpY, cwY, okY, osY, ocY, koY, ciY, kfY, cbY, goY, rsY, geY, keY))
    (hi : ns = 1 → ∀ M, M = mc_b N D T A (mh_B (S 0) (N (S 0)) (fun r => co_h D S (ro_w (256 * r)) CS CC CO CI CW nc)) → cl_c N D T A M → (∀ q, q < 9 → fi_t (sh_N N M) (sh_D N (cl_D N D T A M) M) (U q) (R q) (T q) q) → ∀ ce ma oce oma ge ke, db_yc (sh_N N M) (sh_D N (cl_D N D T A M) M) ce ma → post (nI (dp_n N M 3)) (opY, nI ns, nI nc, ouY, kyY, liY, diY, cmY, rrY, wiY, ce, oce, bceY, ma, oma, bmaY, unY, rqY, bunY, brqY, rfY, acY, brfY, bacY, srY, csY, ccY, cpY, cwY, okY, osY, ocY, koY, ciY, kfY, cbY, goY, rsY, ge, ke))
    (hv : ns = 1 → ∀ M, M = mc_b N D T A (mh_B (S 0) (N (S 0)) (fun r => co_h D S (ro_w (256 * r)) CS CC CO CI CW nc)) → cl_c N D T A M → (¬ ∀ q, q < 9 → fi_t (sh_N N M) (sh_D N (cl_D N D T A M) M) (U q) (R q) (T q) q) → ∀ ce ma oce oma ge ke, db_yc N D ce ma → post (-3) (opY, nI ns, nI nc, ouY, kyY, liY, diY, cmY, rrY, wiY, ce, oce, bceY, ma, oma, bmaY, unY, rqY, bunY, brqY, rfY, acY, brfY, bacY, srY, csY, ccY, cpY, cwY, okY, osY, ocY, koY, ciY, kfY, cbY, goY, rsY, ge, ke)) : wpY_erase post (opY, nI ns, nI nc, ouY, kyY, liY, diY, cmY, rrY, wiY, ceY, oceY, bceY, maY, omaY, bmaY, unY, rqY, bunY, brqY, rfY, acY, brfY, bacY, srY, csY, ccY, cpY, cwY, okY, osY, ocY, koY, ciY, kfY, cbY, goY, rsY, geY, keY) := by
  have h3 := hk.1
  refine pk_eq ns 1 (fun e => ?_) (fun e => hb e)
  subst e
  have hi2 := hi rfl
  have hv2 := hv rfl
  clear hi hv hb
  have ht : S 0 < 3 := hk.2.2.1 0 (by decide)
  obtain ⟨hn, h16⟩ := hC.1 (S 0) ht
  refine ym_save (fun oce oma g1 g2 => ?_)
  refine nm_r (hsr 0 (by decide)) ?_
  generalize hP : (fun r => co_h D S (ro_w (256 * r)) CS CC CO CI CW nc) = P at hi2 hv2
  have et : (nI (S 0)).toNatClampNeg = S 0 := nI_clamp (by omega)
  have hi0 : vp_in (nI (S 0)) 3 := vp_in_nI ht (by decide)
  refine loop_0 (fun n i s => wY_erase_25 post 0 (nI (S 0)) opY (nI 1) (nI nc) ouY kyY liY diY cmY rrY wiY n (nI i) ceY oce bceY maY oma bmaY unY rqY bunY brqY rfY acY brfY bacY srY csY ccY cpY cwY okY osY ocY koY ciY kfY cbY goY rsY s keY) (fun i s => ∀ x, x < i → s x = bo_i false) 48 geY lt_0 ?_ ?_
  · intro n s hI
    refine br_t (by decide) ?_
    refine loop_0 (fun n i s => wY_erase_46 post 0 (nI (S 0)) opY (nI 1) (nI nc) ouY kyY liY diY cmY rrY wiY n (nI i) ceY oce bceY maY oma bmaY unY rqY bunY brqY rfY acY brfY bacY srY csY ccY cpY cwY okY osY ocY koY ciY kfY cbY goY rsY s keY) (fun i s => ∀ x, x < 48 → s x = bo_i (mh_B (S 0) i P x)) (N (S 0)) s (fun x hx => by rw [mh_0]; exact hI x hx) ?_ ?_
    · intro n s hI
      refine ⟨hi0, ?_⟩
      rw [et, hn]
      refine br_t (nI_le (Nat.le_refl _) (by omega)) ?_
      refine ym_cascade hC hkk hA hI (fun ge M' hm' sn' hcl' => ?_)
      have hm := mc_a sn' hcl' hm'
      have hcl := mc_c (fun t ht => (hC.1 t ht).2) sn' hcl'
      have hi3 := hi2 _ rfl hcl
      have hv3 := hv2 _ rfl hcl
      clear hi2 hv2
      generalize mc_b N D T A (mh_B (S 0) (N (S 0)) P) = M at hm hcl hi3 hv3
      refine ym_kept hC hkk hA hm (fun ke hke => ym_cleared hC hke (fun ce hC1 => ym_shrinks hC1 hm (fun ce2 ma2 hC2 => ?_)))
      exact ym_settle hC2 hkk (fun f => hi3 f _ _ _ _ _ _ hC2) (fun f ce3 ma3 a1 a2 => hv3 f _ _ _ _ _ _ (dy_ext hC (fun i hi => (a1 i hi).trans (g1 i hi)) (fun i hi => (a2 i hi).trans (g2 i hi))))
    · intro n i s hi' hI hn'
      refine ⟨hi0, ?_⟩
      rw [et, hn]
      refine br_f (nI_ge hi' (by omega)) ?_
      rw [show 256 * nI i = nI (256 * i) from pk_mul 256 i]
      have hvx : vp_in (16 * nI (S 0) + nI i) 48 := by rw [nz_16]; exact vp_in_nI (by omega) (by decide)
      have ex : (16 * nI (S 0) + nI i).toNatClampNeg = 16 * S 0 + i := by rw [nz_16, nI_clamp (by omega)]
      refine ym_holds hC hk hsr hc (by omega) (fun q hq => ?_) (fun z => ?_) (fun z => ?_)
      · have : q = 0 := by omega
        subst this
        rw [ro_256 (by omega)]
        exact hi'
      · have hPi : P i := by rw [← hP]; exact z
        exact ⟨hvx, nm_r (e' := upd s (16 * S 0 + i) (bo_i true)) (by rw [ex, bo_nar1]) (nm_r (nI_1 i) (hn' _ (mh_t hPi (by omega) hI)))⟩
      · have hPi : ¬ P i := by rw [← hP]; exact z
        refine ⟨hvx, nm_r (e' := upd s (16 * S 0 + i) (bo_i false)) (by rw [ex, bo_nar0]) (nm_r (nI_1 i) (hn' _ (fun x hx => ?_)))⟩
        have h1 := mh_f hPi hI x hx
        by_cases e : x = 16 * S 0 + i
        · subst e
          rw [pk_us]
          refine congrArg bo_i (Eq.symm ?_)
          rw [Bool.eq_false_iff]
          exact fun w => hPi ((mh_r (by omega)).mp w).2
        · rw [pk_un e]
          exact h1
  · intro n i s hi' hI hn'
    refine br_f (nI_ge (b := 48) hi' (by decide)) ⟨vp_in_nI hi' (by decide), nm_e (nm_r (nI_1 i) (hn' _ ?_))⟩
    rw [nI_clamp (by omega)]
    exact lt_s (fun j hj => by rw [pk_un (by omega)]; exact hI j hj) pk_us
end
end
section
theorem i_vc_erase {k : Nat} {u : SX} {v : SY} (I : i_Rel k u v) (hk : k + 6 ≤ 3072) : wpX_erase (fun r u' => wpY_erase (fun r' v' => r' = r ∧ i_Rel (k + 6) u' v') v) u := by
  rcases u with ⟨toX, soX, coX, ouX, kyX, moX, diX, rrX, rwX, ceX, rcX, unX, rqX, taX, acX, sceX, srcX, sunX, srqX, staX, sacX, stX, cfX, cpX, chX, csX, okX, ocX, koX, kfX, cbX, mkX, fvX, ovX, rsX, rtX⟩
  rcases v with ⟨opY, soY, coY, ouY, kyY, liY, diY, cmY, rrY, wiY, ceY, oceY, bceY, maY, omaY, bmaY, unY, rqY, bunY, brqY, rfY, acY, brfY, bacY, srY, csY, ccY, cpY, cwY, okY, osY, ocY, koY, ciY, kfY, cbY, goY, rsY, geY, keY⟩
  obtain ⟨hdb, hsv, hdr, hli, hre⟩ := I
  have keep := hdb
  have keepd := hdr
  obtain ⟨N, D, U, R, T, A, hx, hxk, hy, hyk, hK⟩ := hdb
  obtain ⟨ns, nc, no, nk, S, CS, CC, CO, CI, CW, OK, OS, OC, KO, ⟨rfl, rfl, rfl, rfl⟩, ⟨rfl, rfl, rfl, rfl⟩, hS, hc, ho, hq, hKd⟩ := hdr
  have hck : ck_c ns nc S CS CC CO CI CW := ⟨hKd.1.1, hKd.1.2.1, hKd.2.1, hKd.2.2.1⟩
  have hcx : cx_c nc CS CC CO CI CW cfX cpX chX csX := fun k hk => (hc k hk).1
  have hcy : cy_c nc CS CC CO CI CW csY ccY cpY ciY cwY := fun k hk => (hc k hk).2
  have hst : ∀ s, s < ns → stX s = nI (S s) := fun s hs => (hS s hs).1
  have hsr : ∀ s, s < ns → srY s = nI (S s) := fun s hs => (hS s hs).2
  have h3 := hKd.1.1
  have hA : ∀ c, c < 9 → A c ≤ 2 := fun c hc => (hK.1 c hc).1
  have hu : ∀ c, c < 9 → T c < 9 → fi_u N D (T c) := fun c hc ht => (hK.1 (T c) ht).2.2.1 ((hK.1 c hc).2.1 ht).2
  have h16 : ∀ t, t < 3 → N t ≤ 16 := fun t ht => (hx.1 t ht).2
  refine pk_eq ns 1 (fun e => ?_) (fun e => yv_erase hy hyk hA hck hsr hcy (fun _ => ⟨rfl, keep, hsv, keepd, hli, hre⟩) (fun z => absurd z e) (fun z => absurd z e))
  subst e
  refine xm_mark hx hck hst hcx (fun cb mk hm => xm_cascade hx hxk hm hu hA (fun mk1 M' hm' sn' hcl' => ?_))
  have hm1 := mc_a sn' hcl' hm'
  have hcl := mc_c h16 sn' hcl'
  generalize hM : mc_b N D T A (mh_B (S 0) (N (S 0)) (fun r => co_h D S (ro_w (256 * r)) CS CC CO CI CW nc)) = M at hm1 hcl
  refine xm_erViol hx hxk hm1 hu hA (fun c i hc' hi' hev => br_f (by decide) ?_) (fun hno => br_t rfl ?_)
  · refine yv_erase hy hyk hA hck hsr hcy (fun z => absurd rfl z) (fun _ Q eQ clQ f => ?_) (fun _ Q eQ clQ f ce ma oce oma ge ke hy' => ?_)
    · rw [hM] at eQ
      subst eQ
      exact absurd f (er_nofit hK hcl hc' hi' hev)
    · exact ⟨rfl, ⟨N, D, U, R, T, A, hx, hxk, hy', hyk, hK⟩, hsv, keepd, hli, hre⟩
  · refine xm_clear hx hxk hm1 hu hA (fun ce1 h1 => xm_drop hx.1 hm1 h1 (fun ce2 rc2 hx2 => ?_))
    have hfit := er_fit hK hcl hno
    refine yv_erase hy hyk hA hck hsr hcy (fun z => absurd rfl z) (fun _ Q eQ clQ f ce ma oce oma ge ke hy' => ?_) (fun _ Q eQ clQ f => ?_)
    · rw [hM] at eQ
      subst eQ
      exact ⟨rfl, ⟨_, _, U, R, T, A, hx2, hxk, hy', hyk, er_K hK f⟩, hsv, keepd, hli, hre⟩
    · rw [hM] at eQ
      subst eQ
      exact absurd hfit f
end
section
theorem pk_least (P : Nat → Prop) (h : ∃ k, P k) : ∃ k, P k ∧ ∀ j, j < k → ¬ P j := by
  obtain ⟨k, hk⟩ := h
  induction k using Nat.strongRecOn with
  | ind k ih =>
    by_cases e : ∃ j, j < k ∧ P j
    · obtain ⟨j, hj, pj⟩ := e
      exact ih j hj pj
    · exact ⟨k, hk, fun j hj pj => e ⟨j, hj, pj⟩⟩
/-! run: the mathematics. The first index that satisfies; the rows of the result; the folds -/
def fi_f (f : Nat → Bool) : Nat → Nat
  | 0 => 0
  | n + 1 => if fi_f f n < n then fi_f f n else if f n = true then n else n + 1
theorem ff_all (f : Nat → Bool) : ∀ n, fi_f f n ≤ n ∧ (∀ g, g < fi_f f n → f g = false) ∧ (fi_f f n < n → f (fi_f f n) = true) := by
  intro n
  induction n with
  | zero => exact ⟨Nat.le_refl _, lt_0, fun z => absurd z (Nat.not_lt_zero _)⟩
  | succ n ih =>
    obtain ⟨a, b, c⟩ := ih
    by_cases h : fi_f f n < n
    · have e : fi_f f (n + 1) = fi_f f n := if_pos h
      rw [e]
      exact ⟨by omega, b, fun _ => c h⟩
    · have en : fi_f f n = n := by omega
      rw [en] at b
      by_cases hf : f n = true
      · have e : fi_f f (n + 1) = n := by
          show (if fi_f f n < n then fi_f f n else if f n = true then n else n + 1) = n
          rw [if_neg h, if_pos hf]
        rw [e]
        exact ⟨by omega, b, fun _ => hf⟩
      · have e : fi_f f (n + 1) = n + 1 := by
          show (if fi_f f n < n then fi_f f n else if f n = true then n else n + 1) = n + 1
          rw [if_neg h, if_neg hf]
        rw [e]
        exact ⟨Nat.le_refl _, lt_s b (by simpa using hf), fun z => absurd z (Nat.lt_irrefl _)⟩
theorem ff_eq {f : Nat → Bool} {n g : Nat} (hg : g ≤ n) (h0 : ∀ x, x < g → f x = false) (h1 : g < n → f g = true) : fi_f f n = g := by
  obtain ⟨a, b, c⟩ := ff_all f n
  rcases Nat.lt_trichotomy (fi_f f n) g with z | z | z
  · have := c (by omega)
    rw [h0 _ z] at this
    exact absurd this (by decide)
  · exact z
  · have := h1 (by omega)
    rw [b g z] at this
    exact absurd this (by decide)
/-- rows of the result and their first combinations -/
def gr_s (al : Nat → Nat → Bool) (jo : Bool) (g0 : Nat) (C : Nat → Nat) : Nat → Nat × (Nat → Nat)
  | 0 => (g0, fun _ => 0)
  | p + 1 => if (if jo = true then fi_f (fun g => al ((gr_s al jo g0 C p).2 g) (C p)) (gr_s al jo g0 C p).1 else (gr_s al jo g0 C p).1) = (gr_s al jo g0 C p).1 then ((gr_s al jo g0 C p).1 + 1, fun x => if x = (gr_s al jo g0 C p).1 then C p else (gr_s al jo g0 C p).2 x) else gr_s al jo g0 C p
def gr_g (al : Nat → Nat → Bool) (jo : Bool) (g0 : Nat) (C : Nat → Nat) (p : Nat) : Nat := if jo = true then fi_f (fun g => al ((gr_s al jo g0 C p).2 g) (C p)) (gr_s al jo g0 C p).1 else (gr_s al jo g0 C p).1
section
variable {al : Nat → Nat → Bool} {jo : Bool} {g0 : Nat} {C : Nat → Nat}
theorem gr_new {p : Nat} (h : gr_g al jo g0 C p = (gr_s al jo g0 C p).1) : gr_s al jo g0 C (p + 1) = ((gr_s al jo g0 C p).1 + 1, fun x => if x = (gr_s al jo g0 C p).1 then C p else (gr_s al jo g0 C p).2 x) := if_pos h
theorem gr_old {p : Nat} (h : gr_g al jo g0 C p ≠ (gr_s al jo g0 C p).1) : gr_s al jo g0 C (p + 1) = gr_s al jo g0 C p := if_neg h
theorem gr_le (p : Nat) : gr_g al jo g0 C p ≤ (gr_s al jo g0 C p).1 := by
  unfold gr_g
  split
  · exact (ff_all _ _).1
  · exact Nat.le_refl _
theorem gr_up (p : Nat) : (gr_s al jo g0 C p).1 ≤ (gr_s al jo g0 C (p + 1)).1 ∧ (gr_s al jo g0 C (p + 1)).1 ≤ (gr_s al jo g0 C p).1 + 1 ∧ gr_g al jo g0 C p < (gr_s al jo g0 C (p + 1)).1 := by
  by_cases h : gr_g al jo g0 C p = (gr_s al jo g0 C p).1
  · rw [gr_new h]
    exact ⟨Nat.le_succ _, Nat.le_refl _, by rw [h]; exact Nat.lt_succ_self _⟩
  · rw [gr_old h]
    have := gr_le (al := al) (jo := jo) (g0 := g0) (C := C) p
    exact ⟨Nat.le_refl _, Nat.le_succ _, by omega⟩
theorem gr_mono {p q : Nat} (h : p ≤ q) : (gr_s al jo g0 C p).1 ≤ (gr_s al jo g0 C q).1 := by
  induction q with
  | zero =>
    have : p = 0 := by omega
    subst this
    exact Nat.le_refl _
  | succ q ih =>
    by_cases e : p = q + 1
    · subst e
      exact Nat.le_refl _
    · exact Nat.le_trans (ih (by omega)) (gr_up q).1
theorem gr_in {p i : Nat} (h : i < p) : gr_g al jo g0 C i < (gr_s al jo g0 C p).1 := Nat.lt_of_lt_of_le (gr_up i).2.2 (gr_mono h)
end
/-- the folds -/
def fo_s (act : Nat → Bool) (x : Nat → Int64) : Nat → Nat × Int64 × Int64 × Int64
  | 0 => (0, 0, nu_l, nu_l)
  | p + 1 => if act p = true then ((fo_s act x p).1 + 1, (fo_s act x p).2.1 + x p, (if (fo_s act x p).1 = 0 ∨ x p < (fo_s act x p).2.2.1 then x p else (fo_s act x p).2.2.1), (if (fo_s act x p).1 = 0 ∨ (fo_s act x p).2.2.2 < x p then x p else (fo_s act x p).2.2.2)) else fo_s act x p
def fo_e (act : Nat → Bool) (r : Nat → Nat) : Nat → Nat → Bool
  | 0 => fun _ => false
  | p + 1 => if act p = true then st_b (fo_e act r p) (r p) else fo_e act r p
theorem fo_t {act : Nat → Bool} {x : Nat → Int64} {p : Nat} (h : act p = true) : fo_s act x (p + 1) = ((fo_s act x p).1 + 1, (fo_s act x p).2.1 + x p, (if (fo_s act x p).1 = 0 ∨ x p < (fo_s act x p).2.2.1 then x p else (fo_s act x p).2.2.1), (if (fo_s act x p).1 = 0 ∨ (fo_s act x p).2.2.2 < x p then x p else (fo_s act x p).2.2.2)) := if_pos h
theorem fo_n {act : Nat → Bool} {x : Nat → Int64} {p : Nat} (h : ¬ act p = true) : fo_s act x (p + 1) = fo_s act x p := if_neg h
theorem fe_t {act : Nat → Bool} {r : Nat → Nat} {p : Nat} (h : act p = true) : fo_e act r (p + 1) = st_b (fo_e act r p) (r p) := if_pos h
theorem fe_n {act : Nat → Bool} {r : Nat → Nat} {p : Nat} (h : ¬ act p = true) : fo_e act r (p + 1) = fo_e act r p := if_neg h
theorem fo_0 {act : Nat → Bool} {x : Nat → Int64} {p : Nat} (h : ∀ i, i < p → ¬ act i = true) : fo_s act x p = (0, 0, nu_l, nu_l) := by
  induction p with
  | zero => rfl
  | succ p ih => rw [fo_n (h p (by omega)), ih (fun i hi => h i (by omega))]
theorem fe_0 {act : Nat → Bool} {r : Nat → Nat} {p : Nat} (h : ∀ i, i < p → ¬ act i = true) : fo_e act r p = fun _ => false := by
  induction p with
  | zero => rfl
  | succ p ih => rw [fe_n (h p (by omega)), ih (fun i hi => h i (by omega))]
theorem nu_i : nu_l.toInt = -9000000000000000000 := by decide
theorem nu_ne (z : Int32) : z.toInt64 ≠ nu_l := by
  intro e
  have h : z.toInt64.toInt = nu_l.toInt := by rw [e]
  rw [Int32.toInt_toInt64, nu_i] at h
  have := Int32.le_toInt z
  omega
theorem fo_b {act : Nat → Bool} {x : Nat → Int64} {p : Nat} (hp : p ≤ 4096) (hx : ∀ i, i < p → act i = true → ∃ z : Int32, x i = z.toInt64) :
    (fo_s act x p).1 ≤ p ∧ (-((fo_s act x p).1 * 2147483648 : Int) ≤ (fo_s act x p).2.1.toInt ∧ (fo_s act x p).2.1.toInt ≤ ((fo_s act x p).1 * 2147483648 : Int)) ∧ ((fo_s act x p).1 ≠ 0 → (∃ z : Int32, (fo_s act x p).2.2.1 = z.toInt64) ∧ ∃ z : Int32, (fo_s act x p).2.2.2 = z.toInt64) := by
  induction p with
  | zero => exact ⟨Nat.le_refl _, ⟨by show -(((0 : Nat) : Int) * 2147483648) ≤ (0 : Int64).toInt; decide, by show (0 : Int64).toInt ≤ (((0 : Nat) : Int) * 2147483648); decide⟩, fun z => absurd rfl z⟩
  | succ p ih =>
    obtain ⟨a, ⟨b, c⟩, d⟩ := ih (by omega) (fun i hi => hx i (by omega))
    by_cases h : act p = true
    · rw [fo_t h]
      obtain ⟨z, ez⟩ := hx p (by omega) h
      have z1 := Int32.le_toInt z
      have z2 := Int32.toInt_lt z
      refine ⟨by omega, ?_, fun _ => ⟨?_, ?_⟩⟩
      · dsimp only
        rw [ez, Int64.toInt_add, Int32.toInt_toInt64]
        rw [Int.bmod_eq_of_le (by omega) (by omega)]
        constructor
        · push_cast
          omega
        · push_cast
          omega
      · dsimp only
        split
        · exact ⟨z, ez⟩
        · rename_i w
          exact (d (fun y => w (Or.inl y))).1
      · dsimp only
        split
        · exact ⟨z, ez⟩
        · rename_i w
          exact (d (fun y => w (Or.inl y))).2
    · rw [fo_n h]
      exact ⟨by omega, ⟨b, c⟩, d⟩
/-- how many different values -/
noncomputable def dn_f (W : Nat → Int64) (E : Nat → Bool) : Nat → Bool := fun r => @decide (E r = true ∧ ∀ q, q < r → E q = true → W q ≠ W r) (Classical.propDecidable _)
theorem dn_i {W : Nat → Int64} {E : Nat → Bool} {r : Nat} : dn_f W E r = true ↔ E r = true ∧ ∀ q, q < r → E q = true → W q ≠ W r := @decide_eq_true_iff _ (Classical.propDecidable _)
noncomputable def dn_n (W : Nat → Int64) (E : Nat → Bool) : Nat := cn_b (dn_f W E) 16
theorem dn_0 {W : Nat → Int64} {E : Nat → Bool} (h : ∀ r, r < 16 → E r = false) : dn_n W E = 0 := by
  unfold dn_n
  rw [cn_ext (g := fun _ => false) (fun i hi => ?_)]
  · rfl
  · rw [Bool.eq_false_iff]
    intro z
    have := (dn_i.mp z).1
    rw [h i hi] at this
    exact absurd this (by decide)
theorem st_i {M : Nat → Bool} {x y : Nat} : st_b M x y = true ↔ y = x ∨ M y = true := by
  by_cases e : y = x
  · subst e
    rw [st_s]
    exact ⟨fun _ => Or.inl rfl, fun _ => rfl⟩
  · rw [st_o e]
    exact ⟨fun h => Or.inr h, fun h => h.resolve_left e⟩
theorem dn_old {W : Nat → Int64} {E : Nat → Bool} {r : Nat} (hr : r < 16) (h : ∃ q, q < 16 ∧ E q = true ∧ W q = W r) : dn_n W (st_b E r) = dn_n W E := by
  cases hE : E r with
  | true =>
    refine cn_ext (fun i hi => Bool.eq_iff_iff.mpr ?_)
    have e : ∀ q, st_b E r q = true ↔ E q = true := fun q => by
      rw [st_i]
      exact ⟨fun z => by rcases z with z | z; exact z ▸ hE; exact z, fun z => Or.inr z⟩
    rw [dn_i, dn_i, e]
    exact ⟨fun z => ⟨z.1, fun q hq h' => z.2 q hq ((e q).mpr h')⟩, fun z => ⟨z.1, fun q hq h' => z.2 q hq ((e q).mp h')⟩⟩
  | false =>
    obtain ⟨q0, ⟨hq0, hE0, hW0⟩, hmin⟩ := pk_least (fun q => q < 16 ∧ E q = true ∧ W q = W r) h
    have hmin' : ∀ j, j < q0 → E j = true → W j ≠ W r := fun j hj he hw => hmin j hj ⟨by omega, he, hw⟩
    have hne : q0 ≠ r := fun z => by rw [z, hE] at hE0; exact absurd hE0 (by decide)
    have f1 : dn_f W E q0 = true := dn_i.mpr ⟨hE0, fun q hq he => by rw [hW0]; exact hmin' q hq he⟩
    have fr : ∀ i, i ≠ r → i ≠ q0 → (dn_f W (st_b E r) i = dn_f W E i) := by
      intro i hi1 hi2
      refine Bool.eq_iff_iff.mpr ?_
      rw [dn_i, dn_i, st_i]
      constructor
      · rintro ⟨a, b⟩
        exact ⟨a.resolve_left hi1, fun q hq he => b q hq (st_i.mpr (Or.inr he))⟩
      · rintro ⟨a, b⟩
        refine ⟨Or.inr a, fun q hq he => ?_⟩
        rcases st_i.mp he with z | z
        · subst z
          intro w
          rcases Nat.lt_or_ge q0 i with y | y
          · exact b q0 y hE0 (hW0.trans w)
          · exact hmin' i (by omega) a w.symm
        · exact b q hq z
    have hr0 : dn_f W E r = false := by
      rw [Bool.eq_false_iff]
      intro z
      have := (dn_i.mp z).1
      rw [hE] at this
      exact absurd this (by decide)
    rcases Nat.lt_or_ge q0 r with y | y
    · refine cn_ext (fun i hi => ?_)
      by_cases e1 : i = r
      · rw [e1, hr0, Bool.eq_false_iff]
        intro z
        exact (dn_i.mp z).2 q0 y (st_i.mpr (Or.inr hE0)) hW0
      · by_cases e2 : i = q0
        · rw [e2, f1]
          refine dn_i.mpr ⟨st_i.mpr (Or.inr hE0), fun q hq he => ?_⟩
          rcases st_i.mp he with z | z
          · omega
          · rw [hW0]
            exact hmin' q hq z
        · exact fr i e1 e2
    · have y : r < q0 := by omega
      have hbase : ∀ i, i ≠ q0 → (fun j => if j = q0 then false else dn_f W E j) i = dn_f W E i := fun i hi => if_neg hi
      have ea : cn_b (dn_f W E) 16 = cn_b (st_b (fun j => if j = q0 then false else dn_f W E j) q0) 16 := by
        refine cn_ext (fun i hi => ?_)
        by_cases e : i = q0
        · rw [e, f1, st_s]
        · rw [st_o e, if_neg e]
      have eb : cn_b (dn_f W (st_b E r)) 16 = cn_b (st_b (fun j => if j = q0 then false else dn_f W E j) r) 16 := by
        refine cn_ext (fun i hi => ?_)
        by_cases e1 : i = r
        · rw [e1, st_s]
          refine dn_i.mpr ⟨st_s, fun q hq he => ?_⟩
          rcases st_i.mp he with z | z
          · omega
          · exact hmin' q (by omega) z
        · rw [st_o e1]
          by_cases e2 : i = q0
          · rw [e2, if_pos rfl, Bool.eq_false_iff]
            intro z
            exact (dn_i.mp z).2 r y st_s hW0.symm
          · rw [if_neg e2]
            exact fr i e1 e2
      unfold dn_n
      have c1 := cn_st (M := fun j => if j = q0 then false else dn_f W E j) (x := q0) (if_pos rfl) 16
      have c2 := cn_st (M := fun j => if j = q0 then false else dn_f W E j) (x := r) ((hbase r (by omega)).trans hr0) 16
      rw [ea, eb, c1, c2, if_pos hq0, if_pos hr]
theorem dn_new {W : Nat → Int64} {E : Nat → Bool} {r : Nat} (hr : r < 16) (h : ∀ q, q < 16 → E q = true → W q ≠ W r) : dn_n W (st_b E r) = dn_n W E + 1 := by
  have hE : E r = false := by
    rw [Bool.eq_false_iff]
    exact fun z => h r hr z rfl
  have hr0 : dn_f W E r = false := by
    rw [Bool.eq_false_iff]
    intro z
    have := (dn_i.mp z).1
    rw [hE] at this
    exact absurd this (by decide)
  have e : cn_b (dn_f W (st_b E r)) 16 = cn_b (st_b (dn_f W E) r) 16 := by
    refine cn_ext (fun i hi => ?_)
    by_cases e1 : i = r
    · rw [e1, st_s]
      refine dn_i.mpr ⟨st_s, fun q hq he => ?_⟩
      rcases st_i.mp he with z | z
      · omega
      · exact h q (by omega) z
    · rw [st_o e1]
      refine Bool.eq_iff_iff.mpr ?_
      rw [dn_i, dn_i, st_i]
      constructor
      · rintro ⟨a, b⟩
        exact ⟨a.resolve_left e1, fun q hq he => b q hq (st_i.mpr (Or.inr he))⟩
      · rintro ⟨a, b⟩
        refine ⟨Or.inr a, fun q hq he => ?_⟩
        rcases st_i.mp he with z | z
        · subst z
          exact (h i hi a).symm
        · exact b q hq z
  unfold dn_n
  rw [e, cn_st hr0, if_pos hr]
/-- what a fold gives, by its kind -/
noncomputable def fo_v (kind : Nat) (W : Nat → Int64) (s : Nat × Int64 × Int64 × Int64) (E : Nat → Bool) : Int64 :=
  if kind < 3 then lN s.1 else if kind = 6 then lN (dn_n W E) else if s.1 = 0 then nu_l else if kind = 3 then s.2.1 else if kind = 4 then s.2.2.1 else s.2.2.2
theorem fv_c {kind : Nat} {W : Nat → Int64} {s : Nat × Int64 × Int64 × Int64} {E : Nat → Bool} (h : kind < 3) : fo_v kind W s E = lN s.1 := if_pos h
theorem fv_6 {W : Nat → Int64} {s : Nat × Int64 × Int64 × Int64} {E : Nat → Bool} : fo_v 6 W s E = lN (dn_n W E) := rfl
theorem fv_0 {kind : Nat} {W : Nat → Int64} {s : Nat × Int64 × Int64 × Int64} {E : Nat → Bool} (h3 : ¬ kind < 3) (h6 : kind ≠ 6) (h : s.1 = 0) : fo_v kind W s E = nu_l := by
  unfold fo_v
  rw [if_neg h3, if_neg h6, if_pos h]
theorem fv_n {kind : Nat} {W : Nat → Int64} {s : Nat × Int64 × Int64 × Int64} {E : Nat → Bool} (h3 : ¬ kind < 3) (h6 : kind ≠ 6) (h : s.1 ≠ 0) : fo_v kind W s E = if kind = 3 then s.2.1 else if kind = 4 then s.2.2.1 else s.2.2.2 := by
  unfold fo_v
  rw [if_neg h3, if_neg h6, if_neg h]
/-! bits -/
theorem bt_1 : ∀ i, i < 32 → bt 1 i = decide (i = 0) := by decide +kernel
theorem bt_s {r i : Nat} (hr : r < 32) (hi : i < 32) : bt ((1 : Int32) <<< (nI r &&& 31)) i = decide (i = r) := by
  rw [b_shl r hr 1 hi, bt_1 _ (by omega)]
  by_cases h : r ≤ i
  · rw [decide_eq_true h, Bool.true_and]
    exact decide_eq_decide.mpr (by omega)
  · rw [decide_eq_false h, Bool.false_and]
    exact (decide_eq_false (by omega)).symm
theorem bt_or {m : Int32} {r i : Nat} (hr : r < 32) (hi : i < 32) : bt (m ||| ((1 : Int32) <<< (nI r &&& 31))) i = st_b (bt m) r i := by
  rw [b_or, bt_s hr hi]
  by_cases e : i = r
  · subst e
    rw [st_s]
    simp
  · rw [st_o e, decide_eq_false e, Bool.or_false]
theorem bt_and {m : Int32} {r : Nat} (hr : r < 32) : (m &&& ((1 : Int32) <<< (nI r &&& 31))) = 0 ↔ bt m r = false := by
  constructor
  · intro h
    have : bt (m &&& ((1 : Int32) <<< (nI r &&& 31))) r = false := by rw [h, b_0]
    rw [b_and, bt_s hr hr] at this
    simpa using this
  · intro h
    refine b_ext (fun i hi => ?_)
    rw [b_and, bt_s hr hi, b_0]
    by_cases e : i = r
    · subst e
      rw [h, Bool.false_and]
    · rw [decide_eq_false e, Bool.and_false]
theorem bt_sh {m : Int32} {r : Nat} (hr : r < 16) : (m >>> (nI r &&& 31)) &&& 1 = if bt m r = true then 1 else 0 := by
  refine b_ext (fun i hi => ?_)
  rw [b_and, bt_1 i hi, b_sshr r (by omega) m hi]
  by_cases e : i = 0
  · subst e
    rw [if_pos (by omega), decide_eq_true rfl, Bool.and_true, Nat.add_zero]
    cases h : bt m r
    · rw [if_neg (by decide), b_0]
    · rw [if_pos rfl]
      rfl
  · rw [decide_eq_false e, Bool.and_false]
    split
    · rw [bt_1 i hi, decide_eq_false e]
    · rw [b_0]
theorem bt_z {i : Nat} : bt 0 i = false := b_0 i
end
section
/-! run: X takes the combinations -/
def ou_v (D : Nat → Nat → Int64) (S OS OC : Nat → Nat) (q k : Nat) : Int64 := co_v D S (ro_w q) (OS k) (OC k)
def ou_w (D : Nat → Nat → Int64) (S OS OC : Nat → Nat) (k r : Nat) : Int64 := D (3 * S (OS k) + OC k) r
def ko_c (ns no : Nat) (OK OS OC : Nat → Nat) : Prop := no ≤ 4 ∧ ∀ k, k < no → OK k < 7 ∧ OS k < ns ∧ OC k < 3
def kx_o (no : Nat) (OK OS OC : Nat → Nat) (ok oc : Nat → Int32) : Prop := ∀ k, k < no → ok k = nI (OK k) ∧ oc k = nI (3 * OS k + OC k)
def ky_o (no : Nat) (OK OS OC : Nat → Nat) (okY osY ocY : Nat → Int32) : Prop := ∀ k, k < no → okY k = nI (OK k) ∧ osY k = nI (OS k) ∧ ocY k = nI (OC k)
noncomputable def al_b (no : Nat) (OK : Nat → Nat) (V : Nat → Nat → Int64) (q q' : Nat) : Bool := @decide (∀ k, k < no → OK k = 0 → V q k = V q' k) (Classical.propDecidable _)
theorem al_i {no : Nat} {OK : Nat → Nat} {V : Nat → Nat → Int64} {q q' : Nat} : al_b no OK V q q' = true ↔ ∀ k, k < no → OK k = 0 → V q k = V q' k := @decide_eq_true_iff _ (Classical.propDecidable _)
def vx_v (OK : Nat → Nat) (V : Nat → Nat → Int64) (C : Nat → Nat) (k i : Nat) : Int64 := if OK k = 1 then 0 else V (C i) k
def ac_b (OK : Nat → Nat) (V : Nat → Nat → Int64) (C G : Nat → Nat) (g k : Nat) : Nat → Bool := fun i => decide (G i = g ∧ vx_v OK V C k i ≠ nu_l)
noncomputable def rv_v (OK OS : Nat → Nat) (V W : Nat → Nat → Int64) (C G : Nat → Nat) (p g k : Nat) : Int64 := fo_v (OK k) (W k) (fo_s (ac_b OK V C G g k) (vx_v OK V C k) p) (fo_e (ac_b OK V C G g k) (fun i => ro_w (C i) (OS k)) p)
def mi_m (W : Nat → Int64) (E : Nat → Bool) (b : Int32) (n : Nat) : Prop := (∀ r, r < 16 → bt b r = true → r < n ∧ E r = true) ∧ ∀ r, r < 16 → E r = true → ∃ q, q < 16 ∧ bt b q = true ∧ W q = W r
theorem ac_i {OK : Nat → Nat} {V : Nat → Nat → Int64} {C G : Nat → Nat} {g k i : Nat} : ac_b OK V C G g k i = true ↔ G i = g ∧ vx_v OK V C k i ≠ nu_l := decide_eq_true_iff
section
variable {toX soX coX ouX kyX moX diX rrX rwX : Int32} {ceX sceX fvX ovX rsX : Nat → Int64} {rcX unX rqX taX acX srcX sunX srqX staX sacX stX cfX cpX chX csX okX ocX koX kfX cbX mkX rtX : Nat → Int32} {N : Nat → Nat} {D : Nat → Nat → Int64} {ns no : Nat} {S OK OS OC : Nat → Nat}
theorem xm_count {post : Int32 → Prop} (hk : ko_c ns no OK OS OC) (ho : kx_o no OK OS OC okX ocX) (h : post (nI (cn_b (fun k => decide (OK k = 0)) no))) : wpX_countPlainOutputs post (toX, soX, coX, nI no, kyX, moX, diX, rrX, rwX, ceX, rcX, unX, rqX, taX, acX, sceX, srcX, sunX, srqX, staX, sacX, stX, cfX, cpX, chX, csX, okX, ocX, koX, kfX, cbX, mkX, fvX, ovX, rsX, rtX) := by
  have h4 := hk.1
  refine loop_0 (fun n i (_ : Unit) => wX_countPlainOutputs_4 post toX soX coX (nI no) kyX moX diX rrX rwX ceX rcX unX rqX taX acX sceX srcX sunX srqX staX sacX stX cfX cpX chX csX okX ocX koX kfX cbX mkX fvX ovX rsX rtX n (nI (cn_b (fun k => decide (OK k = 0)) i)) (nI i)) (fun _ _ => True) no () trivial ?_ ?_
  · intro n _ _
    exact br_t (nI_le (Nat.le_refl _) (by omega)) h
  · intro n i _ hi _ hn
    refine br_f (nI_ge hi (by omega)) ⟨vp_in_nI (by omega) (by decide), ?_⟩
    rw [nI_clamp (by omega), (ho i hi).1]
    have h7 := (hk.2 i hi).1
    by_cases e : OK i = 0
    · refine br_t (by rw [e]; rfl) (nm_r (nI_1 _) (nm_r (nI_1 i) ?_))
      have := hn () trivial
      rw [cn_t (decide_eq_true e)] at this
      exact this
    · refine br_f (op_ne (b := 0) (by omega) (by decide) e) (nm_r (nI_1 i) ?_)
      have := hn () trivial
      rw [cn_f (by simpa using e)] at this
      exact this
theorem xm_readOut {post : SX → Prop} (hC : db_xc N D ceX rcX) (h3 : ns ≤ 3) (hS : ∀ s, s < ns → S s < 3) (hst : ∀ s, s < ns → stX s = nI (S s)) (hk : ko_c ns no OK OS OC) (ho : kx_o no OK OS OC okX ocX) {q : Nat} (hcb : ∀ s, s < ns → cbX s = nI (ro_w q s) ∧ ro_w q s < N (S s)) (h : ∀ ov, (∀ k, k < no → ov k = ou_v D S OS OC q k) → post (toX, soX, coX, nI no, kyX, moX, diX, rrX, rwX, ceX, rcX, unX, rqX, taX, acX, sceX, srcX, sunX, srqX, staX, sacX, stX, cfX, cpX, chX, csX, okX, ocX, koX, kfX, cbX, mkX, fvX, ov, rsX, rtX)) : wpX_readOutputValues post (toX, soX, coX, nI no, kyX, moX, diX, rrX, rwX, ceX, rcX, unX, rqX, taX, acX, sceX, srcX, sunX, srqX, staX, sacX, stX, cfX, cpX, chX, csX, okX, ocX, koX, kfX, cbX, mkX, fvX, ovX, rsX, rtX) := by
  have h4 := hk.1
  refine loop_0 (fun n i s => wX_readOutputValues_2 post toX soX coX (nI no) kyX moX diX rrX rwX n (nI i) ceX rcX unX rqX taX acX sceX srcX sunX srqX staX sacX stX cfX cpX chX csX okX ocX koX kfX cbX mkX fvX s rsX rtX) (fun i s => ∀ k, k < i → s k = ou_v D S OS OC q k) no ovX lt_0 ?_ ?_
  · intro n s hI
    exact br_t (nI_le (Nat.le_refl _) (by omega)) (h s hI)
  · intro n i s hi hI hn
    have hv : vp_in (nI i) 4 := vp_in_nI (by omega) (by decide)
    refine br_f (nI_ge hi (by omega)) ⟨hv, ?_⟩
    rw [nI_clamp (by omega), (ho i hi).2]
    refine xm_val (ρ := ro_w q) hC h3 hS hst hcb (hk.2 i hi).2.1 (hk.2 i hi).2.2 ⟨hv, nm_e (nm_r (nI_1 i) (hn _ (lt_s (fun k hk' => ?_) pk_uLs)))⟩
    rw [pk_uLn (by omega)]
    exact hI k hk'
theorem xm_isAlike {post : Int32 → Prop} (hk : ko_c ns no OK OS OC) (ho : kx_o no OK OS OC okX ocX) {V : Nat → Nat → Int64} {q q' g : Nat} (hg : g < 60) (hov : ∀ k, k < no → ovX k = V q k) (hr : ∀ k, k < no → OK k = 0 → rsX (4 * g + k) = V q' k) (h1 : al_b no OK V q' q = true → post 1) (h0 : al_b no OK V q' q = false → post 0) : wpX_isAlike post (toX, soX, coX, nI no, kyX, moX, diX, rrX, rwX, ceX, rcX, unX, rqX, taX, acX, sceX, srcX, sunX, srqX, staX, sacX, stX, cfX, cpX, chX, csX, okX, ocX, koX, kfX, cbX, mkX, fvX, ovX, rsX, rtX) (nI g) := by
  have h4 := hk.1
  refine loop_0 (fun n i (_ : Unit) => wX_isAlike_2 post (nI g) toX soX coX (nI no) kyX moX diX rrX rwX ceX rcX unX rqX taX acX sceX srcX sunX srqX staX sacX stX cfX cpX chX csX okX ocX koX kfX cbX mkX fvX ovX rsX rtX n (nI i)) (fun i _ => ∀ k, k < i → OK k = 0 → V q' k = V q k) no () lt_0 ?_ ?_
  · intro n _ hI
    exact br_t (nI_le (Nat.le_refl _) (by omega)) (h1 (al_i.mpr hI))
  · intro n i _ hi hI hn
    have hv : vp_in (nI i) 4 := vp_in_nI (by omega) (by decide)
    have h7 := (hk.2 i hi).1
    refine br_f (nI_ge hi (by omega)) ⟨hv, ?_⟩
    rw [nI_clamp (show i < 2 ^ 31 by omega), (ho i hi).1]
    by_cases e : OK i = 0
    · rw [nz_4, nI_clamp (by omega), hr i hi e, hov i hi]
      refine br_t (by rw [e]; rfl) ⟨vp_in_nI (by omega) (by decide), hv, ?_⟩
      by_cases ev : V q' i = V q i
      · exact br_t ev (nm_r (nI_1 i) (hn () (lt_s hI (fun _ => ev))))
      · refine br_f ev (h0 ?_)
        rw [Bool.eq_false_iff]
        exact fun z => ev (al_i.mp z i hi e)
    · exact br_f (op_ne (b := 0) (by omega) (by decide) e) (nm_r (nI_1 i) (hn () (lt_s hI (fun z => absurd z e))))
theorem xm_rowAlike {post : Int32 → Prop} (hk : ko_c ns no OK OS OC) (ho : kx_o no OK OS OC okX ocX) {V : Nat → Nat → Int64} {q m : Nat} {rp : Nat → Nat} (hm : m ≤ 60) (hov : ∀ k, k < no → ovX k = V q k) (hr : ∀ g k, g < m → k < no → OK k = 0 → rsX (4 * g + k) = V (rp g) k) (h : post (nI (fi_f (fun g => al_b no OK V (rp g) q) m))) : wpX_resultRowAlike post (toX, soX, coX, nI no, kyX, moX, diX, nI m, rwX, ceX, rcX, unX, rqX, taX, acX, sceX, srcX, sunX, srqX, staX, sacX, stX, cfX, cpX, chX, csX, okX, ocX, koX, kfX, cbX, mkX, fvX, ovX, rsX, rtX) := by
  refine loop_0 (fun n i (_ : Unit) => wX_resultRowAlike_2 post toX soX coX (nI no) kyX moX diX (nI m) rwX ceX rcX unX rqX taX acX sceX srcX sunX srqX staX sacX stX cfX cpX chX csX okX ocX koX kfX cbX mkX fvX ovX rsX rtX n (nI i)) (fun i _ => ∀ g, g < i → al_b no OK V (rp g) q = false) m () lt_0 ?_ ?_
  · intro n _ hI
    rw [ff_eq (Nat.le_refl m) hI (fun z => absurd z (Nat.lt_irrefl _))] at h
    exact br_t (nI_le (Nat.le_refl _) (by omega)) h
  · intro n i _ hi hI hn
    refine br_f (nI_ge hi (by omega)) (xm_isAlike hk ho (by omega) hov (fun k hk' e => hr i k hi hk' e) (fun z => ?_) (fun z => ?_))
    · rw [ff_eq (Nat.le_of_lt hi) hI (fun _ => z)] at h
      exact br_f (by decide) h
    · exact br_t rfl (nm_r (nI_1 i) (hn () (lt_s hI z)))
def sr_v (kind : Nat) (v : Int64) : Int64 := if kind = 0 then v else if kind = 3 ∨ kind = 4 ∨ kind = 5 then nu_l else 0
theorem xm_startRow {post : SX → Prop} (hk : ko_c ns no OK OS OC) (ho : kx_o no OK OS OC okX ocX) {m : Nat} (hm : m < 60) (h : ∀ rs rt, (∀ x, x < 4 * m → rs x = rsX x ∧ rt x = rtX x) → (∀ k, k < no → rs (4 * m + k) = sr_v (OK k) (ovX k) ∧ rt (4 * m + k) = 0) → post (toX, soX, coX, nI no, kyX, moX, diX, nI (m + 1), rwX, ceX, rcX, unX, rqX, taX, acX, sceX, srcX, sunX, srqX, staX, sacX, stX, cfX, cpX, chX, csX, okX, ocX, koX, kfX, cbX, mkX, fvX, ovX, rs, rt)) : wpX_startResultRow post (toX, soX, coX, nI no, kyX, moX, diX, nI m, rwX, ceX, rcX, unX, rqX, taX, acX, sceX, srcX, sunX, srqX, staX, sacX, stX, cfX, cpX, chX, csX, okX, ocX, koX, kfX, cbX, mkX, fvX, ovX, rsX, rtX) := by
  have h4 := hk.1
  refine loop_0 (fun n i (s : (Nat → Int64) × (Nat → Int32)) => wX_startResultRow_2 post toX soX coX (nI no) kyX moX diX (nI m) rwX n (nI i) ceX rcX unX rqX taX acX sceX srcX sunX srqX staX sacX stX cfX cpX chX csX okX ocX koX kfX cbX mkX fvX ovX s.1 s.2) (fun i s => (∀ x, x < 4 * m → s.1 x = rsX x ∧ s.2 x = rtX x) ∧ ∀ k, k < i → s.1 (4 * m + k) = sr_v (OK k) (ovX k) ∧ s.2 (4 * m + k) = 0) no (rsX, rtX) ⟨fun _ _ => ⟨rfl, rfl⟩, lt_0⟩ ?_ ?_
  · rintro n ⟨rs, rt⟩ hI
    exact br_t (nI_le (Nat.le_refl _) (by omega)) (nm_r (nI_1 m) (h rs rt hI.1 hI.2))
  · rintro n i ⟨rs, rt⟩ hi hI hn
    have hv : vp_in (nI i) 4 := vp_in_nI (by omega) (by decide)
    have hv2 : vp_in (nI (4 * m + i)) 240 := vp_in_nI (by omega) (by decide)
    have h7 := (hk.2 i hi).1
    have ex : (nI (4 * m + i)).toNatClampNeg = 4 * m + i := nI_clamp (by omega)
    have nxt : ∀ w, w = sr_v (OK i) (ovX i) → wX_startResultRow_2 post toX soX coX (nI no) kyX moX diX (nI m) rwX n (nI (i + 1)) ceX rcX unX rqX taX acX sceX srcX sunX srqX staX sacX stX cfX cpX chX csX okX ocX koX kfX cbX mkX fvX ovX (vp_updL rs (4 * m + i) w) (upd rt (4 * m + i) 0) := by
      intro w ew
      refine hn (vp_updL rs (4 * m + i) w, upd rt (4 * m + i) 0) ⟨fun x hx => ?_, lt_s (fun k hk' => ?_) ?_⟩
      · show vp_updL rs (4 * m + i) w x = _ ∧ upd rt (4 * m + i) 0 x = _
        rw [pk_uLn (by omega), pk_un (by omega)]
        exact hI.1 x hx
      · show vp_updL rs (4 * m + i) w (4 * m + k) = _ ∧ upd rt (4 * m + i) 0 (4 * m + k) = _
        rw [pk_uLn (by omega), pk_un (by omega)]
        exact hI.2 k hk'
      · show vp_updL rs (4 * m + i) w (4 * m + i) = _ ∧ upd rt (4 * m + i) 0 (4 * m + i) = _
        rw [pk_uLs, pk_us]
        exact ⟨ew, rfl⟩
    refine br_f (nI_ge hi (by omega)) (nm_r (nz_4 m i) ⟨hv, nm_r (e' := nI (OK i)) (by rw [nI_clamp (by omega)]; exact (ho i hi).1) ⟨hv2, nm_r (e' := upd rt (4 * m + i) 0) (by rw [ex]) ?_⟩⟩)
    by_cases e0 : OK i = 0
    · refine br_t (by rw [e0]; rfl) ⟨hv, hv2, nm_r (e' := vp_updL rs (4 * m + i) (ovX i)) (by rw [ex, nI_clamp (by omega)]) (nm_r (nI_1 i) (nxt _ ?_))⟩
      unfold sr_v
      rw [if_pos e0]
    · refine br_f (op_ne (b := 0) (by omega) (by decide) e0) ?_
      have nul : (OK i = 3 ∨ OK i = 4 ∨ OK i = 5) → wX_startResultRow_67 post (wX_startResultRow_2 post toX soX coX (nI no) kyX moX diX (nI m) rwX n) (nI i) (nI (4 * m + i)) toX soX coX (nI no) kyX moX diX (nI m) rwX ceX rcX unX rqX taX acX sceX srcX sunX srqX staX sacX stX cfX cpX chX csX okX ocX koX kfX cbX mkX fvX ovX rs (upd rt (4 * m + i) 0) := by
        intro hor
        refine ⟨hv2, nm_r (e' := vp_updL rs (4 * m + i) nu_l) (by rw [ex]) (nm_r (nI_1 i) (nxt _ ?_))⟩
        unfold sr_v
        rw [if_neg e0, if_pos hor]
      by_cases e3 : OK i = 3
      · exact br_t (by rw [e3]; rfl) (nul (Or.inl e3))
      · refine br_f (op_ne (b := 3) (by omega) (by decide) e3) ?_
        by_cases e4 : OK i = 4
        · exact br_t (by rw [e4]; rfl) (nul (Or.inr (Or.inl e4)))
        · refine br_f (op_ne (b := 4) (by omega) (by decide) e4) ?_
          by_cases e5 : OK i = 5
          · exact br_t (by rw [e5]; rfl) (nul (Or.inr (Or.inr e5)))
          · refine br_f (op_ne (b := 5) (by omega) (by decide) e5) ⟨hv2, nm_r (e' := vp_updL rs (4 * m + i) 0) (by rw [ex]) (nm_r (nI_1 i) (nxt _ ?_))⟩
            unfold sr_v
            rw [if_neg e0, if_neg (by omega)]
/-- one more int, on X's side -/
theorem xm_joined {post : Int64 → Prop} {kind : Nat} {W : Nat → Int64} {act : Nat → Bool} {x : Nat → Int64} {E E' : Nat → Bool} {p : Nat} (hk : kind = 3 ∨ kind = 4 ∨ kind = 5) (hp : p < 4096) (ha : act p = true) (hx : ∀ i, i < p + 1 → act i = true → ∃ z : Int32, x i = z.toInt64) (h : post (fo_v kind W (fo_s act x (p + 1)) E')) : wpX_joinedInts post (nI kind) (fo_v kind W (fo_s act x p) E) (x p) := by
  have h3 : ¬ kind < 3 := by omega
  have h6 : kind ≠ 6 := by omega
  obtain ⟨b1, ⟨b2, b3⟩, b4⟩ := fo_b (p := p) (by omega) (fun i hi => hx i (by omega))
  rw [fo_t ha, fv_n h3 h6 (by exact Nat.succ_ne_zero _)] at h
  dsimp only at h
  by_cases h0 : (fo_s act x p).1 = 0
  · rw [fv_0 h3 h6 h0]
    refine br_t rfl ?_
    have es : (fo_s act x p).2.1 = 0 := by
      apply Int64.toInt_inj.mp
      rw [h0] at b2 b3
      show _ = 0
      omega
    rw [es, Int64.zero_add, if_pos (Or.inl h0), if_pos (Or.inl h0)] at h
    rcases hk with z | z | z
    · rw [if_pos z] at h
      exact h
    · rw [if_neg (by omega), if_pos z] at h
      exact h
    · rw [if_neg (by omega), if_neg (by omega)] at h
      exact h
  · rw [fv_n h3 h6 h0]
    obtain ⟨⟨z4, e4⟩, z5, e5⟩ := b4 h0
    rcases hk with z | z | z
    · subst z
      rw [if_pos rfl] at h ⊢
      refine br_f (fun w => ?_) (br_t rfl h)
      rw [w, nu_i] at b2
      omega
    · subst z
      rw [if_neg (by decide), if_pos rfl] at h ⊢
      refine br_f (by rw [e4]; exact nu_ne z4) (br_f (by decide) (br_t rfl (br_c (fun w => ?_) (fun w => ?_))))
      · rw [if_neg (fun y => by rcases y with y | y; exact h0 y; exact absurd y (Int64.not_lt.mpr w))] at h
        exact h
      · rw [if_pos (Or.inr (Int64.not_le.mp w))] at h
        exact h
    · subst z
      rw [if_neg (by decide), if_neg (by decide)] at h ⊢
      refine br_f (by rw [e5]; exact nu_ne z5) (br_f (by decide) (br_f (by decide) (br_c (fun w => ?_) (fun w => ?_))))
      · rw [if_neg (fun y => by rcases y with y | y; exact h0 y; exact absurd y (Int64.not_lt.mpr w))] at h
        exact h
      · rw [if_pos (Or.inr (Int64.not_le.mp w))] at h
        exact h
theorem xm_new {post : SX → Prop} (hC : db_xc N D ceX rcX) (h3 : ns ≤ 3) (hS : ∀ s, s < ns → S s < 3) (hst : ∀ s, s < ns → stX s = nI (S s)) {s c x r : Nat} (hs : s < ns) (hc : c < 3) (hx : x < 240) (hcb : cbX s = nI r) (hr : r < N (S s)) {E : Nat → Bool} (hm : mi_m (fun r => D (3 * S s + c) r) E (rtX x) (N (S s)))
    (h0 : (∃ q, q < 16 ∧ E q = true ∧ D (3 * S s + c) q = D (3 * S s + c) r) → mi_m (fun r => D (3 * S s + c) r) (st_b E r) (rtX x) (N (S s)) → post (toX, soX, coX, ouX, kyX, moX, diX, rrX, rwX, ceX, rcX, unX, rqX, taX, acX, sceX, srcX, sunX, srqX, staX, sacX, stX, cfX, cpX, chX, csX, okX, ocX, koX, kfX, cbX, mkX, fvX, ovX, rsX, rtX))
    (h1 : ∀ b, (∀ q, q < 16 → E q = true → D (3 * S s + c) q ≠ D (3 * S s + c) r) → mi_m (fun r => D (3 * S s + c) r) (st_b E r) b (N (S s)) → post (toX, soX, coX, ouX, kyX, moX, diX, rrX, rwX, ceX, rcX, unX, rqX, taX, acX, sceX, srcX, sunX, srqX, staX, sacX, stX, cfX, cpX, chX, csX, okX, ocX, koX, kfX, cbX, mkX, fvX, ovX, vp_updL rsX x (rsX x + 1), upd rtX x b)) : wpX_countIfNew post (toX, soX, coX, ouX, kyX, moX, diX, rrX, rwX, ceX, rcX, unX, rqX, taX, acX, sceX, srcX, sunX, srqX, staX, sacX, stX, cfX, cpX, chX, csX, okX, ocX, koX, kfX, cbX, mkX, fvX, ovX, rsX, rtX) (nI x) (nI (3 * s + c)) (D (3 * S s + c) r) := by
  have e1 : nI (3 * s + c) / 3 = nI s := by
    rw [nz_d3 (by omega)]
    exact congrArg nI (by omega)
  have e2 : nI (3 * s + c) - nI (3 * s + c) / 3 * 3 = nI c := by
    rw [nz_r3 (by omega)]
    exact congrArg nI (by omega)
  have es : (nI s).toNatClampNeg = s := nI_clamp (by omega)
  have ex : (nI x).toNatClampNeg = x := nI_clamp (by omega)
  have hs3 := hS s hs
  have h16 := (hC.1 (S s) hs3).2
  have hi3 : vp_in (nI s) 3 := vp_in_nI (by omega) (by decide)
  have hvx : vp_in (nI x) 240 := vp_in_nI hx (by decide)
  refine ⟨nz_3ne, nm_r e1 ⟨hi3, nz_3ne, nm_r (e' := nI (3 * S s + c)) (by rw [es, hst s hs, e2, nz_3]) ?_⟩⟩
  refine loop_0 (fun n i (_ : Unit) => wX_countIfNew_23 post (nI x) (D (3 * S s + c) r) (nI s) (nI (3 * S s + c)) toX soX coX ouX kyX moX diX rrX rwX ceX rcX unX rqX taX acX sceX srcX sunX srqX staX sacX stX cfX cpX chX csX okX ocX koX kfX cbX mkX fvX ovX rsX rtX n (nI i)) (fun i _ => ∀ q, q < i → bt (rtX x) q = true → D (3 * S s + c) q ≠ D (3 * S s + c) r) 16 () lt_0 ?_ ?_
  · intro n _ hI
    refine br_t (by decide) ⟨hvx, hi3, hvx, ?_⟩
    rw [ex, es, hcb]
    refine nm_e ⟨hvx, hvx, nm_e (h1 _ (fun q hq he hw => ?_) ⟨fun q hq hb => ?_, fun q hq he => ?_⟩)⟩
    · obtain ⟨q', hq', hb', hw'⟩ := hm.2 q hq he
      exact hI q' hq' hb' (hw'.trans hw)
    · rw [bt_or (by omega) (by omega), st_i] at hb
      rcases hb with z | z
      · subst z
        exact ⟨hr, st_s⟩
      · obtain ⟨a, b⟩ := hm.1 q hq z
        exact ⟨a, st_i.mpr (Or.inr b)⟩
    · rcases st_i.mp he with z | z
      · subst z
        refine ⟨q, hq, ?_, rfl⟩
        rw [bt_or (by omega) (by omega)]
        exact st_s
      · obtain ⟨q', hq', hb', hw'⟩ := hm.2 q hq z
        refine ⟨q', hq', ?_, hw'⟩
        rw [bt_or (by omega) (by omega)]
        exact st_i.mpr (Or.inr hb')
  · intro n i _ hi hI hn
    refine br_f (nI_ge (b := 16) hi (by decide)) ⟨hvx, ?_⟩
    rw [ex]
    cases hb : bt (rtX x) i with
    | false => exact br_t ((bt_and (by omega)).mpr hb) (nm_r (nI_1 i) (hn () (lt_s hI (fun z => by rw [hb] at z; exact absurd z (by decide)))))
    | true =>
      obtain ⟨hiN, hiE⟩ := hm.1 i hi hb
      refine br_f (fun z => by rw [(bt_and (by omega)).mp z] at hb; exact absurd hb (by decide)) ?_
      rw [nz_16, nI_clamp (by omega), hC.2 (3 * S s + c) i (by omega) (by rw [show (3 * S s + c) / 3 = S s by omega]; exact hiN)]
      refine ⟨vp_in_nI (by omega) (by decide), ?_⟩
      by_cases ev : D (3 * S s + c) i = D (3 * S s + c) r
      · refine br_t ev (h0 ⟨i, hi, hiE, ev⟩ ⟨fun q hq hb' => ?_, fun q hq he => ?_⟩)
        · obtain ⟨a, b⟩ := hm.1 q hq hb'
          exact ⟨a, st_i.mpr (Or.inr b)⟩
        · rcases st_i.mp he with z | z
          · subst z
            exact ⟨i, hi, hb, ev⟩
          · exact hm.2 q hq z
      · exact br_f ev (nm_r (nI_1 i) (hn () (lt_s hI (fun _ => ev))))
end
end
section
/-- what X holds of the result after p combinations -/
noncomputable def rx_I (D : Nat → Nat → Int64) (N S OK OS OC : Nat → Nat) (no : Nat) (jo : Bool) (g0 : Nat) (C : Nat → Nat) (p : Nat) (rs : Nat → Int64) (rt : Nat → Int32) : Prop :=
  ∀ g k, g < (gr_s (al_b no OK (ou_v D S OS OC)) jo g0 C p).1 → k < no →
    (OK k = 0 → rs (4 * g + k) = ou_v D S OS OC ((gr_s (al_b no OK (ou_v D S OS OC)) jo g0 C p).2 g) k) ∧
    (OK k ≠ 0 → rs (4 * g + k) = rv_v OK OS (ou_v D S OS OC) (ou_w D S OS OC) C (gr_g (al_b no OK (ou_v D S OS OC)) jo g0 C) p g k) ∧
    (OK k = 6 → mi_m (ou_w D S OS OC k) (fo_e (ac_b OK (ou_v D S OS OC) C (gr_g (al_b no OK (ou_v D S OS OC)) jo g0 C) g k) (fun i => ro_w (C i) (OS k)) p) (rt (4 * g + k)) (N (S (OS k))))
section
variable {toX soX coX ouX kyX moX diX rrX rwX : Int32} {ceX sceX fvX ovX rsX : Nat → Int64} {rcX unX rqX taX acX srcX sunX srqX staX sacX stX cfX cpX chX csX okX ocX koX kfX cbX mkX rtX : Nat → Int32} {N : Nat → Nat} {D : Nat → Nat → Int64} {ns no : Nat} {S OK OS OC : Nat → Nat} {G C : Nat → Nat}
theorem rv_skip {V W : Nat → Nat → Int64} {p g k : Nat} (h : ¬ ac_b OK V C G g k p = true) : rv_v OK OS V W C G (p + 1) g k = rv_v OK OS V W C G p g k := by
  unfold rv_v
  rw [fo_n h, fe_n h]
theorem xm_add {post : SX → Prop} (hC : db_xc N D ceX rcX) (h3 : ns ≤ 3) (hS : ∀ s, s < ns → S s < 3) (hst : ∀ s, s < ns → stX s = nI (S s)) (hk : ko_c ns no OK OS OC) (ho : kx_o no OK OS OC okX ocX) {k g p : Nat} (hkn : k < no) (hg : g < 60) (hp : p < 4096) (hG : G p = g)
    (hcb : ∀ s, s < ns → cbX s = nI (ro_w (C p) s) ∧ ro_w (C p) s < N (S s)) (hov : ovX k = ou_v D S OS OC (C p) k)
    (hval : ∀ i, i < p + 1 → ou_v D S OS OC (C i) k = nu_l ∨ ∃ z : Int32, ou_v D S OS OC (C i) k = z.toInt64)
    (hcur : OK k ≠ 0 → rsX (4 * g + k) = rv_v OK OS (ou_v D S OS OC) (ou_w D S OS OC) C G p g k)
    (hmi : OK k = 6 → mi_m (ou_w D S OS OC k) (fo_e (ac_b OK (ou_v D S OS OC) C G g k) (fun i => ro_w (C i) (OS k)) p) (rtX (4 * g + k)) (N (S (OS k))))
    (h : ∀ rs rt, (∀ y, y ≠ 4 * g + k → rs y = rsX y ∧ rt y = rtX y) → (OK k = 0 → rs (4 * g + k) = rsX (4 * g + k)) → (OK k ≠ 0 → rs (4 * g + k) = rv_v OK OS (ou_v D S OS OC) (ou_w D S OS OC) C G (p + 1) g k) → (OK k = 6 → mi_m (ou_w D S OS OC k) (fo_e (ac_b OK (ou_v D S OS OC) C G g k) (fun i => ro_w (C i) (OS k)) (p + 1)) (rt (4 * g + k)) (N (S (OS k)))) → post (toX, soX, coX, ouX, kyX, moX, diX, rrX, rwX, ceX, rcX, unX, rqX, taX, acX, sceX, srcX, sunX, srqX, staX, sacX, stX, cfX, cpX, chX, csX, okX, ocX, koX, kfX, cbX, mkX, fvX, ovX, rs, rt)) : wpX_addToOutput post (toX, soX, coX, ouX, kyX, moX, diX, rrX, rwX, ceX, rcX, unX, rqX, taX, acX, sceX, srcX, sunX, srqX, staX, sacX, stX, cfX, cpX, chX, csX, okX, ocX, koX, kfX, cbX, mkX, fvX, ovX, rsX, rtX) (nI (4 * g + k)) (nI k) := by
  obtain ⟨h4, hko⟩ := hk
  obtain ⟨h7, hs, hc⟩ := hko k hkn
  have hv : vp_in (nI k) 4 := vp_in_nI (by omega) (by decide)
  have hvx : vp_in (nI (4 * g + k)) 240 := vp_in_nI (by omega) (by decide)
  have ek : (nI k).toNatClampNeg = k := nI_clamp (by omega)
  have ex : (nI (4 * g + k)).toNatClampNeg = 4 * g + k := nI_clamp (by omega)
  refine ⟨hv, nm_r (e' := nI (OK k)) (by rw [ek]; exact (ho k hkn).1) ⟨hv, nm_r (e' := ou_v D S OS OC (C p) k) (by rw [ek]; exact hov) ?_⟩⟩
  rw [ex, ek, (ho k hkn).2]
  -- a place that gets w
  have put : ∀ w, OK k ≠ 0 → OK k ≠ 6 → w = rv_v OK OS (ou_v D S OS OC) (ou_w D S OS OC) C G (p + 1) g k → post (toX, soX, coX, ouX, kyX, moX, diX, rrX, rwX, ceX, rcX, unX, rqX, taX, acX, sceX, srcX, sunX, srqX, staX, sacX, stX, cfX, cpX, chX, csX, okX, ocX, koX, kfX, cbX, mkX, fvX, ovX, vp_updL rsX (4 * g + k) w, rtX) := by
    intro w h0 h6 ew
    refine h _ _ (fun y hy => ⟨pk_uLn hy, rfl⟩) (fun z => absurd z h0) (fun _ => ?_) (fun z => absurd z h6)
    rw [pk_uLs, ew]
  have ac1 : vx_v OK (ou_v D S OS OC) C k p ≠ nu_l → ac_b OK (ou_v D S OS OC) C G g k p = true := fun z => ac_i.mpr ⟨hG, z⟩
  by_cases k0 : OK k = 0
  · exact br_t (by rw [k0]; rfl) (h _ _ (fun _ _ => ⟨rfl, rfl⟩) (fun _ => rfl) (fun z => absurd k0 z) (fun z => by omega))
  · refine br_f (op_ne (b := 0) (by omega) (by decide) k0) ?_
    have hcur := hcur k0
    by_cases k1 : OK k = 1
    · refine br_t (by rw [k1]; rfl) ⟨hvx, hvx, nm_e (put _ k0 (by omega) ?_)⟩
      have ha := ac1 (by unfold vx_v; rw [if_pos k1]; decide)
      rw [hcur]
      unfold rv_v
      rw [fv_c (by omega), fv_c (by omega), fo_t ha, lN_1]
    · refine br_f (op_ne (b := 1) (by omega) (by decide) k1) ?_
      have evx : ∀ i, vx_v OK (ou_v D S OS OC) C k i = ou_v D S OS OC (C i) k := fun i => if_neg k1
      by_cases hn : ou_v D S OS OC (C p) k = nu_l
      · have ha : ¬ ac_b OK (ou_v D S OS OC) C G g k p = true := fun z => (ac_i.mp z).2 ((evx p).trans hn)
        refine br_t hn (h _ _ (fun _ _ => ⟨rfl, rfl⟩) (fun _ => rfl) (fun _ => ?_) (fun z => ?_))
        · rw [rv_skip ha]
          exact hcur
        · rw [fe_n ha]
          exact hmi z
      · have ha := ac1 (by rw [evx]; exact hn)
        refine br_f hn ?_
        by_cases k2 : OK k = 2
        · refine br_t (by rw [k2]; rfl) ⟨hvx, hvx, nm_e (put _ k0 (by omega) ?_)⟩
          rw [hcur]
          unfold rv_v
          rw [fv_c (by omega), fv_c (by omega), fo_t ha, lN_1]
        · refine br_f (op_ne (b := 2) (by omega) (by decide) k2) ?_
          by_cases k6 : OK k = 6
          · refine br_t (by rw [k6]; rfl) ⟨hv, ?_⟩
            obtain ⟨ecb, hr⟩ := hcb (OS k) hs
            have h16 := (hC.1 (S (OS k)) (hS _ hs)).2
            refine xm_new (post := fun u => post u) hC h3 hS hst hs hc (by omega) ecb hr (hmi k6) (fun hex hm' => ?_) (fun b hno hm' => ?_)
            · refine h _ _ (fun _ _ => ⟨rfl, rfl⟩) (fun _ => rfl) (fun _ => ?_) (fun _ => ?_)
              · rw [hcur]
                unfold rv_v
                rw [k6, fv_6, fv_6, fe_t ha, dn_old (W := ou_w D S OS OC k) (by omega) hex]
              · rw [fe_t ha]
                exact hm'
            · refine h _ _ (fun y hy => ⟨pk_uLn hy, pk_un hy⟩) (fun z => absurd z k0) (fun _ => ?_) (fun _ => ?_)
              · rw [pk_uLs, hcur]
                unfold rv_v
                rw [k6, fv_6, fv_6, fe_t ha, dn_new (W := ou_w D S OS OC k) (by omega) hno, lN_1]
              · rw [pk_us, fe_t ha]
                exact hm'
          · refine br_f (op_ne (b := 6) (by omega) (by decide) k6) ⟨hvx, ?_⟩
            rw [hcur, ← evx p]
            refine xm_joined (by omega) hp ha (fun i hi hai => ?_) ⟨hvx, nm_e (put _ k0 k6 rfl)⟩
            rcases hval i hi with z | z
            · exact absurd ((evx i).trans z) (ac_i.mp hai).2
            · rw [evx]
              exact z
theorem xm_addAll {post : Int32 → SX → Prop} (hC : db_xc N D ceX rcX) (h3 : ns ≤ 3) (hS : ∀ s, s < ns → S s < 3) (hst : ∀ s, s < ns → stX s = nI (S s)) (hk : ko_c ns no OK OS OC) (ho : kx_o no OK OS OC okX ocX) {g p : Nat} (hg : g < 60) (hp : p < 4096) (hG : G p = g)
    (hcb : ∀ s, s < ns → cbX s = nI (ro_w (C p) s) ∧ ro_w (C p) s < N (S s)) (hov : ∀ k, k < no → ovX k = ou_v D S OS OC (C p) k)
    (hval : ∀ k i, k < no → i < p + 1 → ou_v D S OS OC (C i) k = nu_l ∨ ∃ z : Int32, ou_v D S OS OC (C i) k = z.toInt64)
    (hcur : ∀ k, k < no → OK k ≠ 0 → rsX (4 * g + k) = rv_v OK OS (ou_v D S OS OC) (ou_w D S OS OC) C G p g k)
    (hmi : ∀ k, k < no → OK k = 6 → mi_m (ou_w D S OS OC k) (fo_e (ac_b OK (ou_v D S OS OC) C G g k) (fun i => ro_w (C i) (OS k)) p) (rtX (4 * g + k)) (N (S (OS k))))
    (h : ∀ rs rt, (∀ g' k, g' ≠ g → k < 4 → rs (4 * g' + k) = rsX (4 * g' + k) ∧ rt (4 * g' + k) = rtX (4 * g' + k)) → (∀ k, k < no → OK k = 0 → rs (4 * g + k) = rsX (4 * g + k)) → (∀ k, k < no → OK k ≠ 0 → rs (4 * g + k) = rv_v OK OS (ou_v D S OS OC) (ou_w D S OS OC) C G (p + 1) g k) → (∀ k, k < no → OK k = 6 → mi_m (ou_w D S OS OC k) (fo_e (ac_b OK (ou_v D S OS OC) C G g k) (fun i => ro_w (C i) (OS k)) (p + 1)) (rt (4 * g + k)) (N (S (OS k)))) → post 1 (toX, soX, coX, nI no, kyX, moX, diX, rrX, rwX, ceX, rcX, unX, rqX, taX, acX, sceX, srcX, sunX, srqX, staX, sacX, stX, cfX, cpX, chX, csX, okX, ocX, koX, kfX, cbX, mkX, fvX, ovX, rs, rt)) : ∃ n, wX_takeCombination_45 post (nI g) n 0 toX soX coX (nI no) kyX moX diX rrX rwX ceX rcX unX rqX taX acX sceX srcX sunX srqX staX sacX stX cfX cpX chX csX okX ocX koX kfX cbX mkX fvX ovX rsX rtX := by
  have h4 := hk.1
  refine loop_0 (fun n i (s : (Nat → Int64) × (Nat → Int32)) => wX_takeCombination_45 post (nI g) n (nI i) toX soX coX (nI no) kyX moX diX rrX rwX ceX rcX unX rqX taX acX sceX srcX sunX srqX staX sacX stX cfX cpX chX csX okX ocX koX kfX cbX mkX fvX ovX s.1 s.2) (fun i s => (∀ g' k, g' ≠ g → k < 4 → s.1 (4 * g' + k) = rsX (4 * g' + k) ∧ s.2 (4 * g' + k) = rtX (4 * g' + k)) ∧ (∀ k, k < no → OK k = 0 → s.1 (4 * g + k) = rsX (4 * g + k)) ∧ (∀ k, k < no → OK k ≠ 0 → s.1 (4 * g + k) = rv_v OK OS (ou_v D S OS OC) (ou_w D S OS OC) C G (if k < i then p + 1 else p) g k) ∧ ∀ k, k < no → OK k = 6 → mi_m (ou_w D S OS OC k) (fo_e (ac_b OK (ou_v D S OS OC) C G g k) (fun i => ro_w (C i) (OS k)) (if k < i then p + 1 else p)) (s.2 (4 * g + k)) (N (S (OS k)))) no (rsX, rtX) ⟨fun _ _ _ _ => ⟨rfl, rfl⟩, fun _ _ _ => rfl, fun k hk' e => by rw [if_neg (Nat.not_lt_zero _)]; exact hcur k hk' e, fun k hk' e => by rw [if_neg (Nat.not_lt_zero _)]; exact hmi k hk' e⟩ ?_ ?_
  · rintro n ⟨rs, rt⟩ ⟨a, b, c, d⟩
    refine br_t (nI_le (Nat.le_refl _) (by omega)) (h rs rt a b (fun k hk' e => ?_) (fun k hk' e => ?_))
    · have := c k hk' e
      rw [if_pos hk'] at this
      exact this
    · have := d k hk' e
      rw [if_pos hk'] at this
      exact this
  · rintro n i ⟨rs, rt⟩ hi ⟨a, b, c, d⟩ hn
    refine br_f (nI_ge hi (by omega)) ?_
    rw [nz_4]
    refine xm_add hC h3 hS hst hk ho hi hg hp hG hcb (hov i hi) (fun j hj => hval i j hi hj) (fun e => ?_) (fun e => ?_) (fun rs' rt' a' b' c' d' => ?_)
    · have := c i hi e
      rw [if_neg (Nat.lt_irrefl _)] at this
      exact this
    · have := d i hi e
      rw [if_neg (Nat.lt_irrefl _)] at this
      exact this
    · refine nm_r (nI_1 i) (hn (rs', rt') ⟨fun g' k hg' hk' => ?_, fun k hk' e => ?_, fun k hk' e => ?_, fun k hk' e => ?_⟩)
      · show rs' _ = _ ∧ rt' _ = _
        rw [(a' _ (by omega)).1, (a' _ (by omega)).2]
        exact a g' k hg' hk'
      · show rs' _ = _
        by_cases ek : k = i
        · subst ek
          rw [b' e]
          exact b k hk' e
        · rw [(a' _ (by omega)).1]
          exact b k hk' e
      · show rs' _ = _
        by_cases ek : k = i
        · subst ek
          rw [if_pos (Nat.lt_succ_self _)]
          exact c' e
        · rw [(a' _ (by omega)).1]
          have := c k hk' e
          by_cases z : k < i
          · rw [if_pos z] at this
            rw [if_pos (by omega)]
            exact this
          · rw [if_neg z] at this
            rw [if_neg (by omega)]
            exact this
      · show mi_m _ _ (rt' _) _
        by_cases ek : k = i
        · subst ek
          rw [if_pos (Nat.lt_succ_self _)]
          exact d' e
        · rw [(a' _ (by omega)).2]
          have := d k hk' e
          by_cases z : k < i
          · rw [if_pos z] at this
            rw [if_pos (by omega)]
            exact this
          · rw [if_neg z] at this
            rw [if_neg (by omega)]
            exact this
theorem sr_rv {V W : Nat → Nat → Int64} {p g k : Nat} {v : Int64} (h7 : OK k < 7) (h0 : OK k ≠ 0) (hno : ∀ i, i < p → G i ≠ g) : sr_v (OK k) v = rv_v OK OS V W C G p g k := by
  have ha : ∀ i, i < p → ¬ ac_b OK V C G g k i = true := fun i hi z => hno i hi (ac_i.mp z).1
  unfold rv_v
  rw [fo_0 ha, fe_0 ha]
  unfold sr_v
  rw [if_neg h0]
  by_cases h3 : OK k < 3
  · rw [fv_c h3, if_neg (by omega)]
    rfl
  · by_cases h6 : OK k = 6
    · rw [h6, fv_6, dn_0 (fun _ _ => rfl), if_neg (by decide)]
      rfl
    · rw [fv_0 h3 h6 rfl, if_pos (by omega)]
theorem mi_0 {W : Nat → Int64} {p g k n : Nat} {V : Nat → Nat → Int64} (hno : ∀ i, i < p → G i ≠ g) : mi_m W (fo_e (ac_b OK V C G g k) (fun i => ro_w (C i) (OS k)) p) 0 n := by
  have ha : ∀ i, i < p → ¬ ac_b OK V C G g k i = true := fun i hi z => hno i hi (ac_i.mp z).1
  rw [fe_0 ha]
  exact ⟨fun r _ z => by rw [bt_z] at z; exact absurd z (by decide), fun r _ z => absurd z Bool.false_ne_true⟩
end
section
variable {toX soX coX ouX kyX moX diX rrX rwX : Int32} {ceX sceX fvX ovX rsX : Nat → Int64} {rcX unX rqX taX acX srcX sunX srqX staX sacX stX cfX cpX chX csX okX ocX koX kfX cbX mkX rtX : Nat → Int32} {N : Nat → Nat} {D : Nat → Nat → Int64} {ns no : Nat} {S OK OS OC : Nat → Nat} {C : Nat → Nat} {jo : Bool} {g0 : Nat}
theorem xm_take {post : Int32 → SX → Prop} (hC : db_xc N D ceX rcX) (h3 : ns ≤ 3) (hS : ∀ s, s < ns → S s < 3) (hst : ∀ s, s < ns → stX s = nI (S s)) (hk : ko_c ns no OK OS OC) (ho : kx_o no OK OS OC okX ocX) {p : Nat} (hp : p < 4096)
    (hcb : ∀ s, s < ns → cbX s = nI (ro_w (C p) s) ∧ ro_w (C p) s < N (S s))
    (hval : ∀ k i, k < no → i < p + 1 → ou_v D S OS OC (C i) k = nu_l ∨ ∃ z : Int32, ou_v D S OS OC (C i) k = z.toInt64)
    (hm : (gr_s (al_b no OK (ou_v D S OS OC)) jo g0 C p).1 ≤ 60) (hI : rx_I D N S OK OS OC no jo g0 C p rsX rtX)
    (h1 : (gr_s (al_b no OK (ou_v D S OS OC)) jo g0 C (p + 1)).1 ≤ 60 → ∀ ov rs rt, rx_I D N S OK OS OC no jo g0 C (p + 1) rs rt → post 1 (toX, soX, coX, nI no, kyX, moX, diX, nI (gr_s (al_b no OK (ou_v D S OS OC)) jo g0 C (p + 1)).1, rwX, ceX, rcX, unX, rqX, taX, acX, sceX, srcX, sunX, srqX, staX, sacX, stX, cfX, cpX, chX, csX, okX, ocX, koX, kfX, cbX, mkX, fvX, ov, rs, rt))
    (h0 : 60 < (gr_s (al_b no OK (ou_v D S OS OC)) jo g0 C (p + 1)).1 → ∀ ov, post 0 (toX, soX, coX, nI no, kyX, moX, diX, nI (gr_s (al_b no OK (ou_v D S OS OC)) jo g0 C p).1, rwX, ceX, rcX, unX, rqX, taX, acX, sceX, srcX, sunX, srqX, staX, sacX, stX, cfX, cpX, chX, csX, okX, ocX, koX, kfX, cbX, mkX, fvX, ov, rsX, rtX)) : wpX_takeCombination post (toX, soX, coX, nI no, kyX, moX, diX, nI (gr_s (al_b no OK (ou_v D S OS OC)) jo g0 C p).1, rwX, ceX, rcX, unX, rqX, taX, acX, sceX, srcX, sunX, srqX, staX, sacX, stX, cfX, cpX, chX, csX, okX, ocX, koX, kfX, cbX, mkX, fvX, ovX, rsX, rtX) (bo_i jo) := by
  unfold wpX_takeCombination
  dsimp only
  refine xm_readOut hC h3 hS hst hk ho hcb (fun ov hov => ?_)
  dsimp only
  have h4 := hk.1
  have main : wX_takeCombination_19 post (nI (gr_g (al_b no OK (ou_v D S OS OC)) jo g0 C p)) toX soX coX (nI no) kyX moX diX (nI (gr_s (al_b no OK (ou_v D S OS OC)) jo g0 C p).1) rwX ceX rcX unX rqX taX acX sceX srcX sunX srqX staX sacX stX cfX cpX chX csX okX ocX koX kfX cbX mkX fvX ov rsX rtX := by
    have hup := gr_up (al := al_b no OK (ou_v D S OS OC)) (jo := jo) (g0 := g0) (C := C) p
    have hgle := gr_le (al := al_b no OK (ou_v D S OS OC)) (jo := jo) (g0 := g0) (C := C) p
    have hgin : ∀ i, i < p → gr_g (al_b no OK (ou_v D S OS OC)) jo g0 C i < (gr_s (al_b no OK (ou_v D S OS OC)) jo g0 C p).1 := fun i hi => gr_in hi
    have hnew := gr_new (al := al_b no OK (ou_v D S OS OC)) (jo := jo) (g0 := g0) (C := C) (p := p)
    have hold := gr_old (al := al_b no OK (ou_v D S OS OC)) (jo := jo) (g0 := g0) (C := C) (p := p)
    unfold rx_I at hI h1
    generalize hs1 : gr_s (al_b no OK (ou_v D S OS OC)) jo g0 C p = s1 at *
    generalize hs2 : gr_s (al_b no OK (ou_v D S OS OC)) jo g0 C (p + 1) = s2 at *
    generalize hgg : gr_g (al_b no OK (ou_v D S OS OC)) jo g0 C = G at *
    by_cases e : G p = s1.1
    · have e2 := hnew e
      rw [e]
      refine br_t rfl (pk_lt s1.1 60 (fun hlt => ?_) (fun hge => ?_))
      · refine xm_startRow hk ho hlt (fun rs rt a b => ?_)
        refine xm_addAll hC h3 hS hst hk ho hlt hp e hcb hov hval (fun k hk' hne => ?_) (fun k hk' h6 => ?_) (fun rs' rt' a' b' c' d' => ?_)
        · rw [(b k hk').1]
          exact sr_rv (hk.2 k hk').1 hne (fun i hi => by have := hgin i hi; omega)
        · rw [(b k hk').2]
          exact mi_0 (fun i hi => by have := hgin i hi; omega)
        · have e3 : s2.1 = s1.1 + 1 := by rw [e2]
          rw [← e3]
          refine h1 (by omega) ov rs' rt' (fun g k hg hk' => ?_)
          rw [e2] at hg ⊢
          dsimp only at hg ⊢
          by_cases eg : g = s1.1
          · subst eg
            refine ⟨fun z => ?_, fun z => c' k hk' z, fun z => d' k hk' z⟩
            rw [if_pos rfl, b' k hk' z, (b k hk').1]
            unfold sr_v
            rw [if_pos z]
            exact hov k hk'
          · obtain ⟨i1, i2, i3⟩ := hI g k (by omega) hk'
            have hna : ¬ ac_b OK (ou_v D S OS OC) C G g k p = true := fun z => eg ((ac_i.mp z).1.symm.trans e)
            rw [if_neg eg, (a' g k eg (by omega)).1, (a' g k eg (by omega)).2, (a _ (by omega)).1, (a _ (by omega)).2, rv_skip hna, fe_n hna]
            exact ⟨i1, i2, i3⟩
      · exact h0 (by rw [e2]; exact Nat.lt_succ_of_le hge) ov
    · have e2 := hold e
      have hlt : G p < s1.1 := by omega
      refine br_f (op_ne (by omega) (by omega) e) ?_
      refine xm_addAll hC h3 hS hst hk ho (by omega) hp rfl hcb hov hval (fun k hk' hne => (hI _ k hlt hk').2.1 hne) (fun k hk' h6 => (hI _ k hlt hk').2.2 h6) (fun rs' rt' a' b' c' d' => ?_)
      rw [← e2]
      refine h1 (by rw [e2]; exact hm) ov rs' rt' (fun g k hg hk' => ?_)
      rw [e2] at hg ⊢
      obtain ⟨i1, i2, i3⟩ := hI g k hg hk'
      by_cases eg : g = G p
      · subst eg
        refine ⟨fun z => ?_, fun z => c' k hk' z, fun z => d' k hk' z⟩
        rw [b' k hk' z]
        exact i1 z
      · have hna : ¬ ac_b OK (ou_v D S OS OC) C G g k p = true := fun z => eg (ac_i.mp z).1.symm
        rw [(a' g k eg (by omega)).1, (a' g k eg (by omega)).2, rv_skip hna, fe_n hna]
        exact ⟨i1, i2, i3⟩
  cases jo with
  | false => exact br_t rfl main
  | true =>
    refine br_f (by decide) ?_
    refine xm_rowAlike (rp := (gr_s (al_b no OK (ou_v D S OS OC)) true g0 C p).2) hk ho hm hov (fun g k hg hk' e => (hI g k hg hk').1 e) ?_
    exact main
end
end
section
/-! the combinations that hold, in their order -/
def nn_f (N S : Nat → Nat) (ns s : Nat) : Nat := if s < ns then N (S s) else 1
noncomputable def hq_b (N : Nat → Nat) (D : Nat → Nat → Int64) (ns nc : Nat) (S CS CC CO : Nat → Nat) (CI : Nat → Bool) (CW : Nat → Int32) : Nat → Bool := fun q => @decide ((∀ s, s < 3 → ro_w q s < nn_f N S ns s) ∧ co_h D S (ro_w q) CS CC CO CI CW nc) (Classical.propDecidable _)
theorem hq_i {N : Nat → Nat} {D : Nat → Nat → Int64} {ns nc : Nat} {S CS CC CO : Nat → Nat} {CI : Nat → Bool} {CW : Nat → Int32} {q : Nat} : hq_b N D ns nc S CS CC CO CI CW q = true ↔ (∀ s, s < 3 → ro_w q s < nn_f N S ns s) ∧ co_h D S (ro_w q) CS CC CO CI CW nc := @decide_eq_true_iff _ (Classical.propDecidable _)
theorem cn_skip {f : Nat → Bool} {a b : Nat} (hab : a ≤ b) (h : ∀ q, a ≤ q → q < b → f q = false) : cn_b f b = cn_b f a := by
  induction b with
  | zero =>
    have : a = 0 := by omega
    subst this
    rfl
  | succ b ih =>
    by_cases e : a = b + 1
    · subst e
      rfl
    · rw [cn_f (by rw [h b (by omega) (by omega)]; decide)]
      exact ih (by omega) (fun q h1 h2 => h q h1 (by omega))
theorem ro_q {i j k : Nat} (hi : i < 16) (hj : j < 16) (hk : k < 16) : ro_w (256 * i + 16 * j + k) 0 = i ∧ ro_w (256 * i + 16 * j + k) 1 = j ∧ ro_w (256 * i + 16 * j + k) 2 = k := by
  refine ⟨?_, ?_, ?_⟩
  · show (256 * i + 16 * j + k) / 256 % 16 = i
    omega
  · show (256 * i + 16 * j + k) / 16 % 16 = j
    omega
  · show (256 * i + 16 * j + k) % 16 = k
    omega
theorem nn_le {N S : Nat → Nat} {ns : Nat} (hN : ∀ t, t < 3 → N t ≤ 16) (hS : ∀ s, s < ns → S s < 3) (s : Nat) : nn_f N S ns s ≤ 16 := by
  unfold nn_f
  split
  · rename_i h
    exact hN _ (hS s h)
  · decide
section
variable {toX soX coX ouX kyX moX diX rrX rwX : Int32} {ceX sceX fvX ovX rsX : Nat → Int64} {rcX unX rqX taX acX srcX sunX srqX staX sacX stX cfX cpX chX csX okX ocX koX kfX cbX mkX rtX : Nat → Int32} {N : Nat → Nat} {D : Nat → Nat → Int64} {ns nc no : Nat} {S CS CC CO OK OS OC : Nat → Nat} {CI : Nat → Bool} {CW : Nat → Int32} {jo : Bool} {g0 : Nat}
theorem xm_toCombine {post : Int32 → Prop} (hC : db_xc N D ceX rcX) (h3 : ns ≤ 3) (hS : ∀ s, s < ns → S s < 3) (hst : ∀ s, s < ns → stX s = nI (S s)) {s : Nat} (hs : s < 3) (h : post (nI (nn_f N S ns s))) : wpX_rowsToCombine post (toX, nI ns, coX, ouX, kyX, moX, diX, rrX, rwX, ceX, rcX, unX, rqX, taX, acX, sceX, srcX, sunX, srqX, staX, sacX, stX, cfX, cpX, chX, csX, okX, ocX, koX, kfX, cbX, mkX, fvX, ovX, rsX, rtX) (nI s) := by
  refine pk_le ns s (fun z => ?_) (fun z => ?_)
  · unfold nn_f at h
    rw [if_neg (by omega)] at h
    exact h
  · unfold nn_f at h
    rw [if_pos z] at h
    have hs3 := hS s z
    refine ⟨vp_in_nI hs (by decide), ?_⟩
    rw [nI_clamp (by omega), hst s z, nI_clamp (by omega), (hC.1 _ hs3).1]
    exact ⟨vp_in_nI hs3 (by decide), h⟩
/-- X at the place Q of the 4096 -/
noncomputable def xq_I (N : Nat → Nat) (D : Nat → Nat → Int64) (S OK OS OC : Nat → Nat) (no : Nat) (jo : Bool) (g0 : Nat) (hb : Nat → Bool) (Q : Nat) (s : Int32 × (Nat → Int32) × (Nat → Int64) × (Nat → Int64) × (Nat → Int32)) : Prop :=
  s.1 = nI (gr_s (al_b no OK (ou_v D S OS OC)) jo g0 (se_l hb 4096) (cn_b hb Q)).1 ∧ (gr_s (al_b no OK (ou_v D S OS OC)) jo g0 (se_l hb 4096) (cn_b hb Q)).1 ≤ 60 ∧ rx_I D N S OK OS OC no jo g0 (se_l hb 4096) (cn_b hb Q) s.2.2.2.1 s.2.2.2.2
theorem xq_skip {hb : Nat → Bool} {a b : Nat} {s : Int32 × (Nat → Int32) × (Nat → Int64) × (Nat → Int64) × (Nat → Int32)} (hab : a ≤ b) (h : ∀ q, a ≤ q → q < b → hb q = false) (hI : xq_I N D S OK OS OC no jo g0 hb a s) : xq_I N D S OK OS OC no jo g0 hb b s := by
  unfold xq_I at hI ⊢
  rw [cn_skip hab h]
  exact hI
theorem xm_combs {post : Int32 → SX → Prop} (hC : db_xc N D ceX rcX) (hck : ck_c ns nc S CS CC CO CI CW) (hst : ∀ s, s < ns → stX s = nI (S s)) (hcx : cx_c nc CS CC CO CI CW cfX cpX chX csX) (hk : ko_c ns no OK OS OC) (ho : kx_o no OK OS OC okX ocX)
    (hrng : ∀ c r, c < 9 → r < N (c / 3) → D c r = nu_l ∨ ∃ z : Int32, D c r = z.toInt64) {hb : Nat → Bool} (ehb : hb = hq_b N D ns nc S CS CC CO CI CW)
    (hstart : xq_I N D S OK OS OC no jo g0 hb 0 (rrX, cbX, ovX, rsX, rtX))
    (h1 : (gr_s (al_b no OK (ou_v D S OS OC)) jo g0 (se_l hb 4096) (cn_b hb 4096)).1 ≤ 60 → ∀ cb ov rs rt, rx_I D N S OK OS OC no jo g0 (se_l hb 4096) (cn_b hb 4096) rs rt → post 1 (toX, nI ns, nI nc, nI no, kyX, moX, diX, nI (gr_s (al_b no OK (ou_v D S OS OC)) jo g0 (se_l hb 4096) (cn_b hb 4096)).1, rwX, ceX, rcX, unX, rqX, taX, acX, sceX, srcX, sunX, srqX, staX, sacX, stX, cfX, cpX, chX, csX, okX, ocX, koX, kfX, cb, mkX, fvX, ov, rs, rt))
    (h0 : 60 < (gr_s (al_b no OK (ou_v D S OS OC)) jo g0 (se_l hb 4096) (cn_b hb 4096)).1 → ∀ rr cb ov rs rt, post 0 (toX, nI ns, nI nc, nI no, kyX, moX, diX, rr, rwX, ceX, rcX, unX, rqX, taX, acX, sceX, srcX, sunX, srqX, staX, sacX, stX, cfX, cpX, chX, csX, okX, ocX, koX, kfX, cb, mkX, fvX, ov, rs, rt)) : wpX_takeCombinations post (toX, nI ns, nI nc, nI no, kyX, moX, diX, rrX, rwX, ceX, rcX, unX, rqX, taX, acX, sceX, srcX, sunX, srqX, staX, sacX, stX, cfX, cpX, chX, csX, okX, ocX, koX, kfX, cbX, mkX, fvX, ovX, rsX, rtX) (bo_i jo) := by
  obtain ⟨h3, h6, hS, hcK⟩ := hck
  have hck : ck_c ns nc S CS CC CO CI CW := ⟨h3, h6, hS, hcK⟩
  have hN : ∀ t, t < 3 → N t ≤ 16 := fun t ht => (hC.1 t ht).2
  have n0 := nn_le (S := S) (ns := ns) hN hS 0
  have n1 := nn_le (S := S) (ns := ns) hN hS 1
  have n2 := nn_le (S := S) (ns := ns) hN hS 2
  have hbv : ∀ q, hb q = true → ∀ s, s < 3 → ro_w q s < nn_f N S ns s := by
    intro q hq
    rw [ehb] at hq
    exact (hq_i.mp hq).1
  have hbf : ∀ q s, s < 3 → nn_f N S ns s ≤ ro_w q s → hb q = false := by
    intro q s hs hle
    rw [Bool.eq_false_iff]
    intro z
    have := hbv q z s hs
    omega
  unfold wpX_takeCombinations
  dsimp only
  refine xm_toCombine hC h3 hS hst (s := 0) (by decide) (xm_toCombine hC h3 hS hst (s := 1) (by decide) (xm_toCombine hC h3 hS hst (s := 2) (by decide) ?_))
  refine loop_0 (fun n i (s : Int32 × (Nat → Int32) × (Nat → Int64) × (Nat → Int64) × (Nat → Int32)) => wX_takeCombinations_22 post (bo_i jo) (nI (nn_f N S ns 0)) (nI (nn_f N S ns 1)) (nI (nn_f N S ns 2)) n (nI i) toX (nI ns) (nI nc) (nI no) kyX moX diX s.1 rwX ceX rcX unX rqX taX acX sceX srcX sunX srqX staX sacX stX cfX cpX chX csX okX ocX koX kfX s.2.1 mkX fvX s.2.2.1 s.2.2.2.1 s.2.2.2.2) (fun i s => xq_I N D S OK OS OC no jo g0 hb (256 * i) s) (nn_f N S ns 0) (rrX, cbX, ovX, rsX, rtX) hstart ?_ ?_
  · rintro n ⟨rr, cb, ov, rs, rt⟩ hI
    have hI2 := xq_skip (b := 4096) (by omega) (fun q h1 h2 => hbf q 0 (by decide) (by show _ ≤ q / 256 % 16; omega)) hI
    obtain ⟨e, a, b⟩ := hI2
    have e : rr = _ := e
    subst e
    exact br_t (nI_le (Nat.le_refl _) (by omega)) (h1 a cb ov rs rt b)
  · rintro n i s hi hI hn
    refine br_f (nI_ge hi (by omega)) ?_
    refine loop_0 (fun m j (s : Int32 × (Nat → Int32) × (Nat → Int64) × (Nat → Int64) × (Nat → Int32)) => wX_takeCombinations_31 post (wX_takeCombinations_22 post (bo_i jo) (nI (nn_f N S ns 0)) (nI (nn_f N S ns 1)) (nI (nn_f N S ns 2)) n) (bo_i jo) (nI (nn_f N S ns 0)) (nI (nn_f N S ns 1)) (nI (nn_f N S ns 2)) (nI i) m (nI j) toX (nI ns) (nI nc) (nI no) kyX moX diX s.1 rwX ceX rcX unX rqX taX acX sceX srcX sunX srqX staX sacX stX cfX cpX chX csX okX ocX koX kfX s.2.1 mkX fvX s.2.2.1 s.2.2.2.1 s.2.2.2.2) (fun j s => xq_I N D S OK OS OC no jo g0 hb (256 * i + 16 * j) s) (nn_f N S ns 1) s hI ?_ ?_
    · intro m s hJ
      refine br_t (nI_le (Nat.le_refl _) (by omega)) (nm_r (nI_1 i) (hn s ?_))
      exact xq_skip (by omega) (fun q h1 h2 => hbf q 1 (by decide) (by show _ ≤ q / 16 % 16; omega)) hJ
    · rintro m j s hj hJ hm
      refine br_f (nI_ge hj (by omega)) ?_
      refine loop_0 (fun o k (s : Int32 × (Nat → Int32) × (Nat → Int64) × (Nat → Int64) × (Nat → Int32)) => wX_takeCombinations_40 post (wX_takeCombinations_22 post (bo_i jo) (nI (nn_f N S ns 0)) (nI (nn_f N S ns 1)) (nI (nn_f N S ns 2)) n) (wX_takeCombinations_31 post (wX_takeCombinations_22 post (bo_i jo) (nI (nn_f N S ns 0)) (nI (nn_f N S ns 1)) (nI (nn_f N S ns 2)) n) (bo_i jo) (nI (nn_f N S ns 0)) (nI (nn_f N S ns 1)) (nI (nn_f N S ns 2)) (nI i) m) (bo_i jo) (nI (nn_f N S ns 0)) (nI (nn_f N S ns 1)) (nI (nn_f N S ns 2)) (nI i) (nI j) o (nI k) toX (nI ns) (nI nc) (nI no) kyX moX diX s.1 rwX ceX rcX unX rqX taX acX sceX srcX sunX srqX staX sacX stX cfX cpX chX csX okX ocX koX kfX s.2.1 mkX fvX s.2.2.1 s.2.2.2.1 s.2.2.2.2) (fun k s => xq_I N D S OK OS OC no jo g0 hb (256 * i + 16 * j + k) s) (nn_f N S ns 2) s hJ ?_ ?_
      · intro o s hL
        refine br_t (nI_le (Nat.le_refl _) (by omega)) (nm_r (nI_1 j) (hm s ?_))
        exact xq_skip (by omega) (fun q h1 h2 => hbf q 2 (by decide) (by show _ ≤ q % 16; omega)) hL
      · rintro o k ⟨rr, cb, ov, rs, rt⟩ hk' hL hl
        obtain ⟨r0, r1, r2⟩ := ro_q (i := i) (j := j) (k := k) (by omega) (by omega) (by omega)
        have hQ : 256 * i + 16 * j + k < 4096 := by omega
        have hlQ : ∀ s, xq_I N D S OK OS OC no jo g0 hb (256 * i + 16 * j + k + 1) s → wX_takeCombinations_40 post (wX_takeCombinations_22 post (bo_i jo) (nI (nn_f N S ns 0)) (nI (nn_f N S ns 1)) (nI (nn_f N S ns 2)) n) (wX_takeCombinations_31 post (wX_takeCombinations_22 post (bo_i jo) (nI (nn_f N S ns 0)) (nI (nn_f N S ns 1)) (nI (nn_f N S ns 2)) n) (bo_i jo) (nI (nn_f N S ns 0)) (nI (nn_f N S ns 1)) (nI (nn_f N S ns 2)) (nI i) m) (bo_i jo) (nI (nn_f N S ns 0)) (nI (nn_f N S ns 1)) (nI (nn_f N S ns 2)) (nI i) (nI j) o (nI (k + 1)) toX (nI ns) (nI nc) (nI no) kyX moX diX s.1 rwX ceX rcX unX rqX taX acX sceX srcX sunX srqX staX sacX stX cfX cpX chX csX okX ocX koX kfX s.2.1 mkX fvX s.2.2.1 s.2.2.2.1 s.2.2.2.2 := hl
        generalize hq : 256 * i + 16 * j + k = Q at *
        have hcb3 : ∀ s, s < 3 → upd (upd (upd cb 0 (nI i)) 1 (nI j)) 2 (nI k) s = nI (ro_w Q s) := by
          intro s hs
          have : s = 0 ∨ s = 1 ∨ s = 2 := by omega
          rcases this with z | z | z
          · subst z
            rw [r0]
            rfl
          · subst z
            rw [r1]
            rfl
          · subst z
            rw [r2]
            rfl
        have hval3 : ∀ s, s < 3 → ro_w Q s < nn_f N S ns s := by
          intro s hs
          have : s = 0 ∨ s = 1 ∨ s = 2 := by omega
          rcases this with z | z | z
          · subst z
            rw [r0]
            exact hi
          · subst z
            rw [r1]
            exact hj
          · subst z
            rw [r2]
            exact hk'
        have hcb : ∀ s, s < ns → upd (upd (upd cb 0 (nI i)) 1 (nI j)) 2 (nI k) s = nI (ro_w Q s) ∧ ro_w Q s < N (S s) := by
          intro s hs
          refine ⟨hcb3 s (by omega), ?_⟩
          have := hval3 s (by omega)
          unfold nn_f at this
          rw [if_pos hs] at this
          exact this
        refine br_f (nI_ge hk' (by omega)) (nm_e (nm_e (nm_e ?_)))
        refine xm_holds hC hck hst hcx hcb (fun hh => br_f (by decide) ?_) (fun hh => br_t rfl ?_)
        · have hbQ : hb Q = true := by
            rw [ehb]
            exact hq_i.mpr ⟨hval3, hh⟩
          have eC : se_l hb 4096 (cn_b hb Q) = Q := se_cn hQ hbQ
          have hpM : cn_b hb Q < cn_b hb 4096 := cn_lt hQ hbQ
          have hpQ := cn_le hb Q
          obtain ⟨e, a, b⟩ := hL
          have e : rr = _ := e
          have eN := cn_t hbQ
          subst e
          refine xm_take hC h3 hS hst hk ho (p := cn_b hb Q) (by omega) (by rw [eC]; exact hcb) (fun k' i' hk2 hi2 => ?_) a b (fun hle ov' rs' rt' hI' => br_f (by decide) ?_) (fun hgt ov' => br_t rfl ?_)
          · obtain ⟨x1, x2, x3⟩ := se_i (f := hb) 4096 i' (by omega)
            obtain ⟨o1, o2, o3⟩ := hk.2 k' hk2
            have hv := hbv _ x2 (OS k') (by omega)
            unfold nn_f at hv
            rw [if_pos o2] at hv
            have hs3 := hS _ o2
            exact hrng (3 * S (OS k') + OC k') _ (by omega) (by rw [show (3 * S (OS k') + OC k') / 3 = S (OS k') by omega]; exact hv)
          · refine nm_r (nI_1 k) (hlQ (_, _, _, _, _) ?_)
            unfold xq_I
            rw [eN]
            exact ⟨rfl, hle, hI'⟩
          · refine h0 (Nat.lt_of_lt_of_le hgt (gr_mono hpM)) _ _ _ _ _
        · have hbQ : hb Q = false := by
            rw [Bool.eq_false_iff]
            intro z
            rw [ehb] at z
            exact hh (hq_i.mp z).2
          refine nm_r (nI_1 k) (hlQ (rr, upd (upd (upd cb 0 (nI i)) 1 (nI j)) 2 (nI k), ov, rs, rt) ?_)
          unfold xq_I
          rw [cn_f (by rw [hbQ]; decide)]
          exact hL
end
end
section
/-! the order of the result -/
def so_w (r : Nat → Nat → Int64) (a b : Nat) : Nat → Nat → Int64 := fun g => if g = a then r b else if g = b then r a else r g
def be_p (nk : Nat) (KO : Nat → Nat) (KF : Nat → Int32) (r : Nat → Nat → Int64) (a b : Nat) : Prop := ∃ i, i < nk ∧ (∀ j, j < i → r a (KO j) = r b (KO j)) ∧ r a (KO i) ≠ r b (KO i) ∧ (if KF i = 0 then r a (KO i) < r b (KO i) else r b (KO i) < r a (KO i))
noncomputable def so_i (nk : Nat) (KO : Nat → Nat) (KF : Nat → Int32) : Nat → (Nat → Nat → Int64) → Nat → Nat → Int64
  | 0 => fun r => r
  | j + 1 => fun r => @ite _ (be_p nk KO KF r (j + 1) j) (Classical.propDecidable _) (so_i nk KO KF j (so_w r (j + 1) j)) r
theorem so_t {nk : Nat} {KO : Nat → Nat} {KF : Nat → Int32} {j : Nat} {r : Nat → Nat → Int64} (h : be_p nk KO KF r (j + 1) j) : so_i nk KO KF (j + 1) r = so_i nk KO KF j (so_w r (j + 1) j) := if_pos h
theorem so_f {nk : Nat} {KO : Nat → Nat} {KF : Nat → Int32} {j : Nat} {r : Nat → Nat → Int64} (h : ¬ be_p nk KO KF r (j + 1) j) : so_i nk KO KF (j + 1) r = r := if_neg h
noncomputable def so_a (nk : Nat) (KO : Nat → Nat) (KF : Nat → Int32) (r : Nat → Nat → Int64) : Nat → Nat → Nat → Int64
  | 0 => r
  | i + 1 => so_i nk KO KF i (so_a nk KO KF r i)
def re_q (n no : Nat) (rs : Nat → Int64) (r : Nat → Nat → Int64) : Prop := ∀ g k, g < n → k < no → rs (4 * g + k) = r g k
section
variable {toX soX coX ouX kyX moX diX rrX rwX : Int32} {ceX sceX fvX ovX rsX : Nat → Int64} {rcX unX rqX taX acX srcX sunX srqX staX sacX stX cfX cpX chX csX okX ocX koX kfX cbX mkX rtX : Nat → Int32} {opY soY coY ouY kyY liY diY cmY rrY wiY : Int32} {ceY oceY bceY rsY : Nat → Int64} {maY omaY bmaY unY rqY bunY brqY rfY acY brfY bacY srY csY ccY cpY cwY okY osY ocY koY ciY kfY cbY goY geY keY : Nat → Int32} {n no nk : Nat} {KO : Nat → Nat} {KF : Nat → Int32} {r : Nat → Nat → Int64}
theorem xm_before {post : Int32 → Prop} (hn : n ≤ 60) (h4 : no ≤ 4) (h2 : nk ≤ 2) (hko : ∀ k, k < nk → koX k = nI (KO k) ∧ KO k < no) (hkf : ∀ k, k < nk → kfX k = KF k) (hr : re_q n no rsX r) {a b : Nat} (ha : a < n) (hb : b < n) (h1 : be_p nk KO KF r a b → post 1) (h0 : ¬ be_p nk KO KF r a b → post 0) : wpX_comesBefore post (toX, soX, coX, ouX, nI nk, moX, diX, rrX, rwX, ceX, rcX, unX, rqX, taX, acX, sceX, srcX, sunX, srqX, staX, sacX, stX, cfX, cpX, chX, csX, okX, ocX, koX, kfX, cbX, mkX, fvX, ovX, rsX, rtX) (nI a) (nI b) := by
  refine loop_0 (fun m i (_ : Unit) => wX_comesBefore_2 post (nI a) (nI b) toX soX coX ouX (nI nk) moX diX rrX rwX ceX rcX unX rqX taX acX sceX srcX sunX srqX staX sacX stX cfX cpX chX csX okX ocX koX kfX cbX mkX fvX ovX rsX rtX m (nI i)) (fun i _ => ∀ j, j < i → r a (KO j) = r b (KO j)) nk () lt_0 ?_ ?_
  · intro m _ hI
    refine br_t (nI_le (Nat.le_refl _) (by omega)) (h0 (fun z => ?_))
    obtain ⟨i, hi, _, hne, _⟩ := z
    exact hne (hI i hi)
  · intro m i _ hi hI hm
    have hv : vp_in (nI i) 2 := vp_in_nI (by omega) (by decide)
    obtain ⟨e1, e2⟩ := hko i hi
    refine br_f (nI_ge hi (by omega)) ⟨hv, ?_⟩
    rw [nI_clamp (show i < 2 ^ 31 by omega), e1, nz_4, nz_4, nI_clamp (show 4 * a + KO i < 2 ^ 31 by omega), nI_clamp (show 4 * b + KO i < 2 ^ 31 by omega), hr a _ ha e2, hr b _ hb e2, hkf i hi]
    refine ⟨vp_in_nI (by omega) (by decide), nm_e ⟨hv, vp_in_nI (by omega) (by decide), nm_e ?_⟩⟩
    have only : ∀ i', i' < nk → (∀ j, j < i' → r a (KO j) = r b (KO j)) → r a (KO i') ≠ r b (KO i') → r a (KO i) ≠ r b (KO i) → i' = i := by
      intro i' hi' hj' hne' hne
      rcases Nat.lt_trichotomy i' i with z | z | z
      · exact absurd (hI i' z) hne'
      · exact z
      · exact absurd (hj' i z) hne
    by_cases e : r a (KO i) = r b (KO i)
    · exact br_t e (nm_r (nI_1 i) (hm () (lt_s hI e)))
    · refine br_f e ⟨hv, ?_⟩
      by_cases f : KF i = 0
      · refine br_t f (br_c (fun z => h0 (fun w => ?_)) (fun z => h1 ⟨i, hi, hI, e, by rw [if_pos f]; exact Int64.not_le.mp z⟩))
        obtain ⟨i', hi', hj', hne', hc'⟩ := w
        have := only i' hi' hj' hne' e
        subst this
        rw [if_pos f] at hc'
        exact absurd hc' (Int64.not_lt.mpr z)
      · refine br_f f (br_c (fun z => h0 (fun w => ?_)) (fun z => h1 ⟨i, hi, hI, e, by rw [if_neg f]; exact Int64.not_le.mp z⟩))
        obtain ⟨i', hi', hj', hne', hc'⟩ := w
        have := only i' hi' hj' hne' e
        subst this
        rw [if_neg f] at hc'
        exact absurd hc' (Int64.not_lt.mpr z)
theorem ym_after {post : Int32 → Prop} (hn : n ≤ 60) (h4 : no ≤ 4) (h2 : nk ≤ 2) (hko : ∀ k, k < nk → koY k = nI (KO k) ∧ KO k < no) (hkf : ∀ k, k < nk → kfY k = KF k) (hr : re_q n no rsY r) {a b : Nat} (ha : a < n) (hb : b < n) (h1 : be_p nk KO KF r a b → post 1) (h0 : ¬ be_p nk KO KF r a b → post 0) : wpY_after post (opY, soY, coY, ouY, nI nk, liY, diY, cmY, rrY, wiY, ceY, oceY, bceY, maY, omaY, bmaY, unY, rqY, bunY, brqY, rfY, acY, brfY, bacY, srY, csY, ccY, cpY, cwY, okY, osY, ocY, koY, ciY, kfY, cbY, goY, rsY, geY, keY) (nI b) (nI a) := by
  refine loop_0 (fun m i (_ : Unit) => wY_after_2 post (nI b) (nI a) opY soY coY ouY (nI nk) liY diY cmY rrY wiY ceY oceY bceY maY omaY bmaY unY rqY bunY brqY rfY acY brfY bacY srY csY ccY cpY cwY okY osY ocY koY ciY kfY cbY goY rsY geY keY m (nI i)) (fun i _ => ∀ j, j < i → r a (KO j) = r b (KO j)) nk () lt_0 ?_ ?_
  · intro m _ hI
    refine br_t (nI_le (Nat.le_refl _) (by omega)) (h0 (fun z => ?_))
    obtain ⟨i, hi, _, hne, _⟩ := z
    exact hne (hI i hi)
  · intro m i _ hi hI hm
    have hv : vp_in (nI i) 2 := vp_in_nI (by omega) (by decide)
    obtain ⟨e1, e2⟩ := hko i hi
    refine br_f (nI_ge hi (by omega)) ⟨hv, ?_⟩
    rw [nI_clamp (show i < 2 ^ 31 by omega), e1, nz_4, nz_4, nI_clamp (show 4 * a + KO i < 2 ^ 31 by omega), nI_clamp (show 4 * b + KO i < 2 ^ 31 by omega), hr a _ ha e2, hr b _ hb e2, hkf i hi]
    refine ⟨vp_in_nI (by omega) (by decide), nm_e ⟨hv, vp_in_nI (by omega) (by decide), nm_e ?_⟩⟩
    have only : ∀ i', i' < nk → (∀ j, j < i' → r a (KO j) = r b (KO j)) → r a (KO i') ≠ r b (KO i') → r a (KO i) ≠ r b (KO i) → i' = i := by
      intro i' hi' hj' hne' hne
      rcases Nat.lt_trichotomy i' i with z | z | z
      · exact absurd (hI i' z) hne'
      · exact z
      · exact absurd (hj' i z) hne
    by_cases e : r a (KO i) = r b (KO i)
    · exact br_t e.symm (nm_r (nI_1 i) (hm () (lt_s hI e)))
    · refine br_f (fun z => e z.symm) ⟨hv, ?_⟩
      by_cases f : KF i = 0
      · refine br_t f (br_c (fun z => h0 (fun w => ?_)) (fun z => h1 ⟨i, hi, hI, e, by rw [if_pos f]; exact Int64.not_le.mp z⟩))
        obtain ⟨i', hi', hj', hne', hc'⟩ := w
        have := only i' hi' hj' hne' e
        subst this
        rw [if_pos f] at hc'
        exact absurd hc' (Int64.not_lt.mpr z)
      · refine br_f f (br_c (fun z => h0 (fun w => ?_)) (fun z => h1 ⟨i, hi, hI, e, by rw [if_neg f]; exact Int64.not_le.mp z⟩))
        obtain ⟨i', hi', hj', hne', hc'⟩ := w
        have := only i' hi' hj' hne' e
        subst this
        rw [if_neg f] at hc'
        exact absurd hc' (Int64.not_lt.mpr z)
/-- a swap by columns: after i columns -/
theorem sw_step {s rs : Nat → Int64} {a b i : Nat} (hab : a ≠ b) (hi : i < 4) (hI : ∀ g k, k < 4 → s (4 * g + k) = if k < i then (if g = a then rs (4 * b + k) else if g = b then rs (4 * a + k) else rs (4 * g + k)) else rs (4 * g + k)) : ∀ g k, k < 4 → vp_updL (vp_updL s (4 * a + i) (s (4 * b + i))) (4 * b + i) (s (4 * a + i)) (4 * g + k) = if k < i + 1 then (if g = a then rs (4 * b + k) else if g = b then rs (4 * a + k) else rs (4 * g + k)) else rs (4 * g + k) := by
  intro g k hk
  have ea := hI a i hi
  have eb := hI b i hi
  rw [if_neg (Nat.lt_irrefl _)] at ea eb
  by_cases ek : k = i
  · subst ek
    rw [if_pos (Nat.lt_succ_self _)]
    by_cases e1 : g = a
    · subst e1
      rw [pk_uLn (by omega), pk_uLs, if_pos rfl, eb]
    · rw [if_neg e1]
      by_cases e2 : g = b
      · subst e2
        rw [pk_uLs, if_pos rfl, ea]
      · rw [if_neg e2, pk_uLn (by omega), pk_uLn (by omega), hI g k hk, if_neg (Nat.lt_irrefl _)]
  · rw [pk_uLn (by omega), pk_uLn (by omega), hI g k hk]
    by_cases z : k < i
    · rw [if_pos z, if_pos (show k < i + 1 by omega)]
    · rw [if_neg z, if_neg (show ¬ k < i + 1 by omega)]
theorem sw_end {s rs : Nat → Int64} {a b m : Nat} (hm : no ≤ m) (h4 : no ≤ 4) (hr : re_q n no rs r) (ha : a < n) (hb : b < n) (hI : ∀ g k, k < 4 → s (4 * g + k) = if k < m then (if g = a then rs (4 * b + k) else if g = b then rs (4 * a + k) else rs (4 * g + k)) else rs (4 * g + k)) : re_q n no s (so_w r a b) := by
  intro g k hg hk
  rw [hI g k (by omega), if_pos (by omega)]
  unfold so_w
  by_cases e1 : g = a
  · rw [if_pos e1, if_pos e1]
    exact hr b k hb hk
  · rw [if_neg e1, if_neg e1]
    by_cases e2 : g = b
    · rw [if_pos e2, if_pos e2]
      exact hr a k ha hk
    · rw [if_neg e2, if_neg e2]
      exact hr g k hg hk
theorem so_sym {a b : Nat} (h : a ≠ b) : so_w r a b = so_w r b a := by
  funext g
  unfold so_w
  by_cases e1 : g = a
  · rw [if_pos e1, if_neg (by omega), if_pos e1]
  · rw [if_neg e1]
    by_cases e2 : g = b
    · rw [if_pos e2, if_pos e2]
    · rw [if_neg e2, if_neg e2, if_neg e1]
theorem xm_swap {post : SX → Prop} (hn : n ≤ 60) (h4 : no ≤ 4) (hr : re_q n no rsX r) {a b : Nat} (ha : a < n) (hb : b < n) (hab : a ≠ b) (h : ∀ rs, re_q n no rs (so_w r a b) → post (toX, soX, coX, nI no, kyX, moX, diX, rrX, rwX, ceX, rcX, unX, rqX, taX, acX, sceX, srcX, sunX, srqX, staX, sacX, stX, cfX, cpX, chX, csX, okX, ocX, koX, kfX, cbX, mkX, fvX, ovX, rs, rtX)) : wpX_swapResultRows post (toX, soX, coX, nI no, kyX, moX, diX, rrX, rwX, ceX, rcX, unX, rqX, taX, acX, sceX, srcX, sunX, srqX, staX, sacX, stX, cfX, cpX, chX, csX, okX, ocX, koX, kfX, cbX, mkX, fvX, ovX, rsX, rtX) (nI a) (nI b) := by
  refine loop_0 (fun m i s => wX_swapResultRows_2 post (nI a) (nI b) toX soX coX (nI no) kyX moX diX rrX rwX m (nI i) ceX rcX unX rqX taX acX sceX srcX sunX srqX staX sacX stX cfX cpX chX csX okX ocX koX kfX cbX mkX fvX ovX s rtX) (fun i s => ∀ g k, k < 4 → s (4 * g + k) = if k < i then (if g = a then rsX (4 * b + k) else if g = b then rsX (4 * a + k) else rsX (4 * g + k)) else rsX (4 * g + k)) no rsX (fun g k _ => by rw [if_neg (Nat.not_lt_zero _)]) ?_ ?_
  · intro m s hI
    exact br_t (nI_le (Nat.le_refl _) (by omega)) (h s (sw_end (Nat.le_refl _) h4 hr ha hb hI))
  · intro m i s hi hI hm
    have va : vp_in (4 * nI a + nI i) 240 := by rw [nz_4]; exact vp_in_nI (by omega) (by decide)
    have vb : vp_in (4 * nI b + nI i) 240 := by rw [nz_4]; exact vp_in_nI (by omega) (by decide)
    have ea : (4 * nI a + nI i).toNatClampNeg = 4 * a + i := by rw [nz_4, nI_clamp (by omega)]
    have eb : (4 * nI b + nI i).toNatClampNeg = 4 * b + i := by rw [nz_4, nI_clamp (by omega)]
    refine br_f (nI_ge hi (by omega)) ⟨va, nm_r (e' := s (4 * a + i)) (by rw [ea]) ⟨vb, va, nm_r (e' := vp_updL s (4 * a + i) (s (4 * b + i))) (by rw [ea, eb]) ⟨vb, nm_r (e' := vp_updL (vp_updL s (4 * a + i) (s (4 * b + i))) (4 * b + i) (s (4 * a + i))) (by rw [eb]) (nm_r (nI_1 i) (hm _ (sw_step hab (by omega) hI)))⟩⟩⟩
theorem ym_exch {post : SY → Prop} (hn : n ≤ 60) (h4 : no ≤ 4) (hr : re_q n no rsY r) {a b : Nat} (ha : a < n) (hb : b < n) (hab : a ≠ b) (h : ∀ rs, re_q n no rs (so_w r a b) → post (opY, soY, coY, ouY, kyY, liY, diY, cmY, rrY, wiY, ceY, oceY, bceY, maY, omaY, bmaY, unY, rqY, bunY, brqY, rfY, acY, brfY, bacY, srY, csY, ccY, cpY, cwY, okY, osY, ocY, koY, ciY, kfY, cbY, goY, rs, geY, keY)) : wpY_exchange post (opY, soY, coY, ouY, kyY, liY, diY, cmY, rrY, wiY, ceY, oceY, bceY, maY, omaY, bmaY, unY, rqY, bunY, brqY, rfY, acY, brfY, bacY, srY, csY, ccY, cpY, cwY, okY, osY, ocY, koY, ciY, kfY, cbY, goY, rsY, geY, keY) (nI a) (nI b) := by
  refine loop_0 (fun m i s => wY_exchange_2 post (nI a) (nI b) opY soY coY ouY kyY liY diY cmY rrY wiY m (nI i) ceY oceY bceY maY omaY bmaY unY rqY bunY brqY rfY acY brfY bacY srY csY ccY cpY cwY okY osY ocY koY ciY kfY cbY goY s geY keY) (fun i s => ∀ g k, k < 4 → s (4 * g + k) = if k < i then (if g = a then rsY (4 * b + k) else if g = b then rsY (4 * a + k) else rsY (4 * g + k)) else rsY (4 * g + k)) 4 rsY (fun g k _ => by rw [if_neg (Nat.not_lt_zero _)]) ?_ ?_
  · intro m s hI
    exact br_t (by decide) (h s (sw_end h4 h4 hr ha hb hI))
  · intro m i s hi hI hm
    have va : vp_in (4 * nI a + nI i) 250 := by rw [nz_4]; exact vp_in_nI (by omega) (by decide)
    have vb : vp_in (4 * nI b + nI i) 250 := by rw [nz_4]; exact vp_in_nI (by omega) (by decide)
    have ea : (4 * nI a + nI i).toNatClampNeg = 4 * a + i := by rw [nz_4, nI_clamp (by omega)]
    have eb : (4 * nI b + nI i).toNatClampNeg = 4 * b + i := by rw [nz_4, nI_clamp (by omega)]
    refine br_f (nI_ge (b := 4) hi (by decide)) ⟨va, nm_r (e' := s (4 * a + i)) (by rw [ea]) ⟨vb, va, nm_r (e' := vp_updL s (4 * a + i) (s (4 * b + i))) (by rw [ea, eb]) ⟨vb, nm_r (e' := vp_updL (vp_updL s (4 * a + i) (s (4 * b + i))) (4 * b + i) (s (4 * a + i))) (by rw [eb]) (nm_r (nI_1 i) (hm _ (sw_step hab (by omega) hI)))⟩⟩⟩
end
section
variable {toX soX coX ouX kyX moX diX rrX rwX : Int32} {ceX sceX fvX ovX rsX : Nat → Int64} {rcX unX rqX taX acX srcX sunX srqX staX sacX stX cfX cpX chX csX okX ocX koX kfX cbX mkX rtX : Nat → Int32} {opY soY coY ouY kyY liY diY cmY rrY wiY : Int32} {ceY oceY bceY rsY : Nat → Int64} {maY omaY bmaY unY rqY bunY brqY rfY acY brfY bacY srY csY ccY cpY cwY okY osY ocY koY ciY kfY cbY goY geY keY : Nat → Int32} {n no nk : Nat} {KO : Nat → Nat} {KF : Nat → Int32} {r : Nat → Nat → Int64}
theorem xm_ins {post : SX → Prop} {J : Int32 → (Int32) → (Int32) → (Int32) → (Int32) → (Int32) → (Int32) → (Int32) → (Int32) → (Int32) → (Nat → Int64) → (Nat → Int32) → (Nat → Int32) → (Nat → Int32) → (Nat → Int32) → (Nat → Int32) → (Nat → Int64) → (Nat → Int32) → (Nat → Int32) → (Nat → Int32) → (Nat → Int32) → (Nat → Int32) → (Nat → Int32) → (Nat → Int32) → (Nat → Int32) → (Nat → Int32) → (Nat → Int32) → (Nat → Int32) → (Nat → Int32) → (Nat → Int32) → (Nat → Int32) → (Nat → Int32) → (Nat → Int32) → (Nat → Int64) → (Nat → Int64) → (Nat → Int64) → (Nat → Int32) → Prop} (hn : n ≤ 60) (h4 : no ≤ 4) (h2 : nk ≤ 2) (hko : ∀ k, k < nk → koX k = nI (KO k) ∧ KO k < no) (hkf : ∀ k, k < nk → kfX k = KF k) {i : Nat} (hin : i < n) : ∀ j m (r : Nat → Nat → Int64) (rs : Nat → Int64), j ≤ i → j < m → re_q n no rs r → (∀ rs', re_q n no rs' (so_i nk KO KF j r) → J (nI (i + 1)) toX soX coX (nI no) (nI nk) moX diX rrX rwX ceX rcX unX rqX taX acX sceX srcX sunX srqX staX sacX stX cfX cpX chX csX okX ocX koX kfX cbX mkX fvX ovX rs' rtX) → wX_orderResult_12 post J (nI i) m (nI j) toX soX coX (nI no) (nI nk) moX diX rrX rwX ceX rcX unX rqX taX acX sceX srcX sunX srqX staX sacX stX cfX cpX chX csX okX ocX koX kfX cbX mkX fvX ovX rs rtX := by
  intro j
  induction j with
  | zero =>
    intro m r rs hji hm hr h
    obtain ⟨m, rfl⟩ : ∃ q, m = q + 1 := ⟨m - 1, by omega⟩
    exact br_t (by decide) (nm_r (nI_1 i) (h rs hr))
  | succ j ih =>
    intro m r rs hji hm hr h
    obtain ⟨m, rfl⟩ : ∃ q, m = q + 1 := ⟨m - 1, by omega⟩
    refine br_f (nI_nle (by omega) (by omega)) ?_
    rw [nI_pred]
    refine xm_before hn h4 h2 hko hkf hr (show j + 1 < n by omega) (show j < n by omega) (fun hb => br_f (by decide) ?_) (fun hb => br_t rfl ?_)
    · refine xm_swap hn h4 hr (show j + 1 < n by omega) (show j < n by omega) (by omega) (fun rs' hr' => ?_)
      rw [so_t hb] at h
      exact nm_r (pk_m1 j) (ih m _ rs' (by omega) (by omega) hr' h)
    · rw [so_f hb] at h
      exact nm_r (nI_1 i) (h rs hr)
theorem ym_ins {post : SY → Prop} {J : Int32 → (Int32) → (Int32) → (Int32) → (Int32) → (Int32) → (Int32) → (Int32) → (Int32) → (Int32) → (Int32) → (Nat → Int64) → (Nat → Int64) → (Nat → Int64) → (Nat → Int32) → (Nat → Int32) → (Nat → Int32) → (Nat → Int32) → (Nat → Int32) → (Nat → Int32) → (Nat → Int32) → (Nat → Int32) → (Nat → Int32) → (Nat → Int32) → (Nat → Int32) → (Nat → Int32) → (Nat → Int32) → (Nat → Int32) → (Nat → Int32) → (Nat → Int32) → (Nat → Int32) → (Nat → Int32) → (Nat → Int32) → (Nat → Int32) → (Nat → Int32) → (Nat → Int32) → (Nat → Int32) → (Nat → Int32) → (Nat → Int64) → (Nat → Int32) → (Nat → Int32) → Prop} (hn : n ≤ 60) (h4 : no ≤ 4) (h2 : nk ≤ 2) (hko : ∀ k, k < nk → koY k = nI (KO k) ∧ KO k < no) (hkf : ∀ k, k < nk → kfY k = KF k) {i : Nat} (hin : i < n) : ∀ j m (r : Nat → Nat → Int64) (rs : Nat → Int64), j ≤ i → j < m → re_q n no rs r → (∀ rs', re_q n no rs' (so_i nk KO KF j r) → J (nI (i + 1)) opY soY coY ouY (nI nk) liY diY cmY rrY wiY ceY oceY bceY maY omaY bmaY unY rqY bunY brqY rfY acY brfY bacY srY csY ccY cpY cwY okY osY ocY koY ciY kfY cbY goY rs' geY keY) → wY_sort_12 post J (nI i) m (nI j) opY soY coY ouY (nI nk) liY diY cmY rrY wiY ceY oceY bceY maY omaY bmaY unY rqY bunY brqY rfY acY brfY bacY srY csY ccY cpY cwY okY osY ocY koY ciY kfY cbY goY rs geY keY := by
  intro j
  induction j with
  | zero =>
    intro m r rs hji hm hr h
    obtain ⟨m, rfl⟩ : ∃ q, m = q + 1 := ⟨m - 1, by omega⟩
    exact br_t (by decide) (nm_r (nI_1 i) (h rs hr))
  | succ j ih =>
    intro m r rs hji hm hr h
    obtain ⟨m, rfl⟩ : ∃ q, m = q + 1 := ⟨m - 1, by omega⟩
    refine br_f (nI_nle (by omega) (by omega)) ?_
    rw [nI_pred]
    refine ym_after hn h4 h2 hko hkf hr (show j + 1 < n by omega) (show j < n by omega) (fun hb => br_f (by decide) ?_) (fun hb => br_t rfl ?_)
    · refine ym_exch hn h4 hr (show j < n by omega) (show j + 1 < n by omega) (by omega) (fun rs' hr' => ?_)
      rw [so_sym (by omega)] at hr'
      rw [so_t hb] at h
      exact nm_r (pk_m1 j) (ih m _ rs' (by omega) (by omega) hr' h)
    · rw [so_f hb] at h
      exact nm_r (nI_1 i) (h rs hr)
theorem xm_order {post : SX → Prop} (hn : n ≤ 60) (h4 : no ≤ 4) (h2 : nk ≤ 2) (hko : ∀ k, k < nk → koX k = nI (KO k) ∧ KO k < no) (hkf : ∀ k, k < nk → kfX k = KF k) (hr : re_q n no rsX r) (h : ∀ rs, re_q n no rs (so_a nk KO KF r n) → post (toX, soX, coX, nI no, nI nk, moX, diX, nI n, rwX, ceX, rcX, unX, rqX, taX, acX, sceX, srcX, sunX, srqX, staX, sacX, stX, cfX, cpX, chX, csX, okX, ocX, koX, kfX, cbX, mkX, fvX, ovX, rs, rtX)) : wpX_orderResult post (toX, soX, coX, nI no, nI nk, moX, diX, nI n, rwX, ceX, rcX, unX, rqX, taX, acX, sceX, srcX, sunX, srqX, staX, sacX, stX, cfX, cpX, chX, csX, okX, ocX, koX, kfX, cbX, mkX, fvX, ovX, rsX, rtX) := by
  by_cases hz : n = 0
  · subst hz
    exact ⟨1, br_t (by decide) (h rsX hr)⟩
  · refine pk_loop (fun m i s => wX_orderResult_2 post m (nI i) toX soX coX (nI no) (nI nk) moX diX (nI n) rwX ceX rcX unX rqX taX acX sceX srcX sunX srqX staX sacX stX cfX cpX chX csX okX ocX koX kfX cbX mkX fvX ovX s rtX) (fun i s => re_q n no s (so_a nk KO KF r i)) n 1 rsX (by omega) hr ?_ ?_
    · intro m s hI
      exact br_t (nI_le (Nat.le_refl _) (by omega)) (h s hI)
    · intro m i s hi hI hm
      refine br_f (nI_ge hi (by omega)) ⟨i + 1, ?_⟩
      exact xm_ins hn h4 h2 hko hkf hi i (i + 1) _ s (Nat.le_refl _) (Nat.lt_succ_self _) hI (fun rs' hr' => hm rs' hr')
theorem ym_sort {post : SY → Prop} (hn : n ≤ 60) (h4 : no ≤ 4) (h2 : nk ≤ 2) (hko : ∀ k, k < nk → koY k = nI (KO k) ∧ KO k < no) (hkf : ∀ k, k < nk → kfY k = KF k) (hr : re_q n no rsY r) (h : ∀ rs, re_q n no rs (so_a nk KO KF r n) → post (opY, soY, coY, ouY, nI nk, liY, diY, cmY, nI n, wiY, ceY, oceY, bceY, maY, omaY, bmaY, unY, rqY, bunY, brqY, rfY, acY, brfY, bacY, srY, csY, ccY, cpY, cwY, okY, osY, ocY, koY, ciY, kfY, cbY, goY, rs, geY, keY)) : wpY_sort post (opY, soY, coY, ouY, nI nk, liY, diY, cmY, nI n, wiY, ceY, oceY, bceY, maY, omaY, bmaY, unY, rqY, bunY, brqY, rfY, acY, brfY, bacY, srY, csY, ccY, cpY, cwY, okY, osY, ocY, koY, ciY, kfY, cbY, goY, rsY, geY, keY) := by
  by_cases hz : n = 0
  · subst hz
    exact ⟨1, br_t (by decide) (h rsY hr)⟩
  · refine pk_loop (fun m i s => wY_sort_2 post m (nI i) opY soY coY ouY (nI nk) liY diY cmY (nI n) wiY ceY oceY bceY maY omaY bmaY unY rqY bunY brqY rfY acY brfY bacY srY csY ccY cpY cwY okY osY ocY koY ciY kfY cbY goY s geY keY) (fun i s => re_q n no s (so_a nk KO KF r i)) n 1 rsY (by omega) hr ?_ ?_
    · intro m s hI
      exact br_t (nI_le (Nat.le_refl _) (by omega)) (h s hI)
    · intro m i s hi hI hm
      refine br_f (nI_ge hi (by omega)) ⟨i + 1, ?_⟩
      exact ym_ins hn h4 h2 hko hkf hi i (i + 1) _ s (Nat.le_refl _) (Nat.lt_succ_self _) hI (fun rs' hr' => hm rs' hr')
end
end
section
section
variable {opY soY coY ouY kyY liY diY cmY rrY wiY : Int32} {ceY oceY bceY rsY : Nat → Int64} {maY omaY bmaY unY rqY bunY brqY rfY acY brfY bacY srY csY ccY cpY cwY okY osY ocY koY ciY kfY cbY goY geY keY : Nat → Int32} {N : Nat → Nat} {D : Nat → Nat → Int64} {ns nc no : Nat} {S CS CC CO OK OS OC : Nat → Nat} {CI : Nat → Bool} {CW : Nat → Int32} {jo : Bool} {g0 : Nat}
theorem ym_list {post : SY → Prop} (hC : db_yc N D ceY maY) (hck : ck_c ns nc S CS CC CO CI CW) (hsr : ∀ s, s < ns → srY s = nI (S s)) (hcy : cy_c nc CS CC CO CI CW csY ccY cpY ciY cwY) {hb : Nat → Bool} (ehb : hb = hq_b N D ns nc S CS CC CO CI CW)
    (h : ∀ cb, (∀ i, i < cn_b hb 4096 → cb i = nI (se_l hb 4096 i)) → post (opY, nI ns, nI nc, ouY, kyY, liY, diY, nI (cn_b hb 4096), rrY, wiY, ceY, oceY, bceY, maY, omaY, bmaY, unY, rqY, bunY, brqY, rfY, acY, brfY, bacY, srY, csY, ccY, cpY, cwY, okY, osY, ocY, koY, ciY, kfY, cb, goY, rsY, geY, keY)) : wpY_list post (opY, nI ns, nI nc, ouY, kyY, liY, diY, cmY, rrY, wiY, ceY, oceY, bceY, maY, omaY, bmaY, unY, rqY, bunY, brqY, rfY, acY, brfY, bacY, srY, csY, ccY, cpY, cwY, okY, osY, ocY, koY, ciY, kfY, cbY, goY, rsY, geY, keY) := by
  obtain ⟨h3, h6, hS, hcK⟩ := hck
  have hck : ck_c ns nc S CS CC CO CI CW := ⟨h3, h6, hS, hcK⟩
  have hN : ∀ t, t < 3 → N t ≤ 16 := fun t ht => (hC.1 t ht).2
  refine loop_0 (fun n q (s : Int32 × (Nat → Int32)) => wY_list_7 post opY (nI ns) (nI nc) ouY kyY liY diY rrY wiY n (nI q) s.1 ceY oceY bceY maY omaY bmaY unY rqY bunY brqY rfY acY brfY bacY srY csY ccY cpY cwY okY osY ocY koY ciY kfY s.2 goY rsY geY keY) (fun q s => s.1 = nI (cn_b hb q) ∧ ∀ q', q' < q → hb q' = true → s.2 (cn_b hb q') = nI q') 4096 (0, cbY) ⟨rfl, lt_0⟩ ?_ ?_
  · rintro n ⟨cm, cb⟩ ⟨e, hI⟩
    have e : cm = _ := e
    subst e
    refine br_t (by decide) (h cb (fun i hi => ?_))
    obtain ⟨x1, x2, x3⟩ := se_i (f := hb) 4096 i hi
    have := hI _ x1 x2
    rw [x3] at this
    exact this
  · rintro n q ⟨cm, cb⟩ hq ⟨e, hI⟩ hn
    have e : cm = _ := e
    subst e
    refine br_f (nI_ge (b := 4096) hq (by decide)) ?_
    have hle := cn_le hb q
    -- the combination is none
    have no' : hb q = false → wY_list_7 post opY (nI ns) (nI nc) ouY kyY liY diY rrY wiY n (nI (q + 1)) (nI (cn_b hb q)) ceY oceY bceY maY omaY bmaY unY rqY bunY brqY rfY acY brfY bacY srY csY ccY cpY cwY okY osY ocY koY ciY kfY cb goY rsY geY keY := by
      intro hf
      refine hn (nI (cn_b hb q), cb) ⟨?_, lt_s hI (fun z => by rw [hf] at z; exact absurd z (by decide))⟩
      rw [cn_f (by rw [hf]; decide)]
    refine loop_0 (fun m s (x : Int32) => wY_list_18 post (wY_list_7 post opY (nI ns) (nI nc) ouY kyY liY diY rrY wiY n) (nI q) opY (nI ns) (nI nc) ouY kyY liY diY (nI (cn_b hb q)) rrY wiY ceY oceY bceY maY omaY bmaY unY rqY bunY brqY rfY acY brfY bacY srY csY ccY cpY cwY okY osY ocY koY ciY kfY cb goY rsY geY keY m x (nI s)) (fun s x => (x = 1 ∧ ∀ s', s' < s → ro_w q s' < nn_f N S ns s') ∨ (x = 0 ∧ hb q = false)) 3 1 (Or.inl ⟨rfl, lt_0⟩) ?_ ?_
    · intro m x hx
      refine br_t (by decide) ?_
      rcases hx with ⟨ex, hv⟩ | ⟨ex, hf⟩
      · subst ex
        refine br_f (by decide) (ym_holds hC hck hsr hcy hq (fun s hs => ?_) (fun hh => br_f (by decide) ?_) (fun hh => br_t rfl ?_))
        · have := hv s (by omega)
          unfold nn_f at this
          rw [if_pos hs] at this
          exact this
        · have hbq : hb q = true := by
            rw [ehb]
            exact hq_i.mpr ⟨hv, hh⟩
          refine nm_r (nI_1 _) ⟨vp_in_nI (by omega) (by decide), nm_r (e' := upd cb (cn_b hb q) (nI q)) (by rw [nI_clamp (by omega)]) (nm_r (nI_1 q) ?_)⟩
          refine hn (nI (cn_b hb q + 1), upd cb (cn_b hb q) (nI q)) ⟨?_, lt_s (fun q' hq' hb' => ?_) (fun _ => pk_us)⟩
          · rw [cn_t hbq]
          · show upd cb (cn_b hb q) (nI q) _ = _
            have := cn_lt hq' hb'
            rw [pk_un (by omega)]
            exact hI q' hq' hb'
        · refine nm_r (nI_1 q) (no' ?_)
          rw [Bool.eq_false_iff]
          intro z
          rw [ehb] at z
          exact hh (hq_i.mp z).2
      · subst ex
        exact br_t rfl (nm_r (nI_1 q) (no' hf))
    · intro m s x hs hx hm
      refine br_f (nI_ge (b := 3) hs (by decide)) ?_
      rcases hx with ⟨ex, hv⟩ | ⟨ex, hf⟩
      · subst ex
        refine br_f (by decide) ?_
        unfold wpY_rowOf
        dsimp only
        rw [ro_e hq hs]
        have fin : wY_list_56 post (wY_list_7 post opY (nI ns) (nI nc) ouY kyY liY diY rrY wiY n) (wY_list_18 post (wY_list_7 post opY (nI ns) (nI nc) ouY kyY liY diY rrY wiY n) (nI q) opY (nI ns) (nI nc) ouY kyY liY diY (nI (cn_b hb q)) rrY wiY ceY oceY bceY maY omaY bmaY unY rqY bunY brqY rfY acY brfY bacY srY csY ccY cpY cwY okY osY ocY koY ciY kfY cb goY rsY geY keY m) (nI q) (nI s) (nI (nn_f N S ns s)) (nI (ro_w q s)) opY (nI ns) (nI nc) ouY kyY liY diY (nI (cn_b hb q)) rrY wiY ceY oceY bceY maY omaY bmaY unY rqY bunY brqY rfY acY brfY bacY srY csY ccY cpY cwY okY osY ocY koY ciY kfY cb goY rsY geY keY := by
          have b1 := nn_le (S := S) (ns := ns) hN hS s
          have b2 : ro_w q s < 16 := by
            unfold ro_w
            split
            · omega
            · split <;> omega
          refine pk_le (nn_f N S ns s) (ro_w q s) (fun z => nm_r (nI_1 s) (hm 0 (Or.inr ⟨rfl, ?_⟩))) (fun z => nm_r (nI_1 s) (hm 1 (Or.inl ⟨rfl, lt_s hv z⟩)))
          rw [Bool.eq_false_iff]
          intro w
          rw [ehb] at w
          have := (hq_i.mp w).1 s hs
          omega
        refine pk_le ns s (fun z => ?_) (fun z => ?_)
        · rw [show nn_f N S ns s = 1 from if_neg (by omega)] at fin
          exact fin
        · rw [show nn_f N S ns s = N (S s) from if_pos z] at fin
          have hs3 := hS s z
          refine ⟨vp_in_nI hs (by decide), ?_⟩
          rw [nI_clamp (show s < 2 ^ 31 by omega), hsr s z, nI_clamp (show S s < 2 ^ 31 by omega), (hC.1 _ hs3).1]
          exact ⟨vp_in_nI hs3 (by decide), fin⟩
      · subst ex
        exact br_t rfl (nm_r (nI_1 s) (hm 0 (Or.inr ⟨rfl, hf⟩)))
theorem ym_put {post : SY → Prop} (hC : db_yc N D ceY maY) (h3 : ns ≤ 3) (hS : ∀ s, s < ns → S s < 3) (hsr : ∀ s, s < ns → srY s = nI (S s)) (hk : ko_c ns no OK OS OC) (ho : ky_o no OK OS OC okY osY ocY) {m q : Nat} (hm : m ≤ 60) (hq : q < 4096) (hro : ∀ s, s < ns → ro_w q s < N (S s))
    (h : ∀ rs, (∀ g k, g < m → k < 4 → rs (4 * g + k) = rsY (4 * g + k)) → (∀ k, k < no → OK k = 0 → rs (4 * m + k) = ou_v D S OS OC q k) → post (opY, soY, coY, nI no, kyY, liY, diY, cmY, rrY, wiY, ceY, oceY, bceY, maY, omaY, bmaY, unY, rqY, bunY, brqY, rfY, acY, brfY, bacY, srY, csY, ccY, cpY, cwY, okY, osY, ocY, koY, ciY, kfY, cbY, goY, rs, geY, keY)) : wpY_put post (opY, soY, coY, nI no, kyY, liY, diY, cmY, rrY, wiY, ceY, oceY, bceY, maY, omaY, bmaY, unY, rqY, bunY, brqY, rfY, acY, brfY, bacY, srY, csY, ccY, cpY, cwY, okY, osY, ocY, koY, ciY, kfY, cbY, goY, rsY, geY, keY) (nI m) (nI q) := by
  have h4 := hk.1
  refine loop_0 (fun n i s => wY_put_2 post (nI m) (nI q) opY soY coY (nI no) kyY liY diY cmY rrY wiY n (nI i) ceY oceY bceY maY omaY bmaY unY rqY bunY brqY rfY acY brfY bacY srY csY ccY cpY cwY okY osY ocY koY ciY kfY cbY goY s geY keY) (fun i s => (∀ g k, g < m → k < 4 → s (4 * g + k) = rsY (4 * g + k)) ∧ ∀ k, k < i → OK k = 0 → s (4 * m + k) = ou_v D S OS OC q k) no rsY ⟨fun _ _ _ _ => rfl, lt_0⟩ ?_ ?_
  · intro n s hI
    exact br_t (nI_le (Nat.le_refl _) (by omega)) (h s hI.1 hI.2)
  · intro n i s hi hI hn
    have hv : vp_in (nI i) 4 := vp_in_nI (by omega) (by decide)
    obtain ⟨o1, o2, o3⟩ := ho i hi
    obtain ⟨k1, k2, k3⟩ := hk.2 i hi
    refine br_f (nI_ge hi (by omega)) ⟨hv, ?_⟩
    rw [nI_clamp (show i < 2 ^ 31 by omega), o1, o2, o3]
    by_cases e : OK i = 0
    · refine br_t (by rw [e]; rfl) ⟨hv, hv, ym_in hC h3 hS hsr hq hro k2 k3 ?_⟩
      refine ⟨by rw [nz_4]; exact vp_in_nI (by omega) (by decide), nm_r (e' := vp_updL s (4 * m + i) (ou_v D S OS OC q i)) (by rw [nz_4, nI_clamp (by omega)]; rfl) (nm_r (nI_1 i) (hn _ ⟨fun g k hg hk' => ?_, lt_s (fun k hk' e' => ?_) (fun _ => pk_uLs)⟩))⟩
      · rw [pk_uLn (by omega)]
        exact hI.1 g k hg hk'
      · rw [pk_uLn (by omega)]
        exact hI.2 k hk' e'
    · exact br_f (op_ne (b := 0) (by omega) (by decide) e) (nm_r (nI_1 i) (hn s ⟨hI.1, lt_s hI.2 (fun z => absurd z e)⟩))
theorem ym_same {post : Int32 → Prop} (hk : ko_c ns no OK OS OC) (ho : ky_o no OK OS OC okY osY ocY) {a b : Nat} {al : Bool} (ha : a ≤ 60) (hb : b ≤ 60) (h1 : (∀ k, k < no → (al = true ∨ OK k = 0) → rsY (4 * a + k) = rsY (4 * b + k)) → post 1) (h0 : (¬ ∀ k, k < no → (al = true ∨ OK k = 0) → rsY (4 * a + k) = rsY (4 * b + k)) → post 0) : wpY_same post (opY, soY, coY, nI no, kyY, liY, diY, cmY, rrY, wiY, ceY, oceY, bceY, maY, omaY, bmaY, unY, rqY, bunY, brqY, rfY, acY, brfY, bacY, srY, csY, ccY, cpY, cwY, okY, osY, ocY, koY, ciY, kfY, cbY, goY, rsY, geY, keY) (nI a) (nI b) (bo_i al) := by
  have h4 := hk.1
  refine loop_0 (fun n i (_ : Unit) => wY_same_3 post (nI a) (nI b) (bo_i al) opY soY coY (nI no) kyY liY diY cmY rrY wiY ceY oceY bceY maY omaY bmaY unY rqY bunY brqY rfY acY brfY bacY srY csY ccY cpY cwY okY osY ocY koY ciY kfY cbY goY rsY geY keY n (nI i)) (fun i _ => ∀ k, k < i → (al = true ∨ OK k = 0) → rsY (4 * a + k) = rsY (4 * b + k)) no () lt_0 ?_ ?_
  · intro n _ hI
    exact br_t (nI_le (Nat.le_refl _) (by omega)) (h1 hI)
  · intro n i _ hi hI hn
    have hv : vp_in (nI i) 4 := vp_in_nI (by omega) (by decide)
    obtain ⟨o1, o2, o3⟩ := ho i hi
    obtain ⟨k1, k2, k3⟩ := hk.2 i hi
    have cmp : (al = true ∨ OK i = 0) → wY_same_26 post (wY_same_3 post (nI a) (nI b) (bo_i al) opY soY coY (nI no) kyY liY diY cmY rrY wiY ceY oceY bceY maY omaY bmaY unY rqY bunY brqY rfY acY brfY bacY srY csY ccY cpY cwY okY osY ocY koY ciY kfY cbY goY rsY geY keY n) (nI a) (nI b) (bo_i al) (nI i) opY soY coY (nI no) kyY liY diY cmY rrY wiY ceY oceY bceY maY omaY bmaY unY rqY bunY brqY rfY acY brfY bacY srY csY ccY cpY cwY okY osY ocY koY ciY kfY cbY goY rsY geY keY := by
      intro hor
      unfold wY_same_26
      rw [nz_4, nz_4, nI_clamp (show 4 * a + i < 2 ^ 31 by omega), nI_clamp (show 4 * b + i < 2 ^ 31 by omega)]
      refine ⟨vp_in_nI (by omega) (by decide), vp_in_nI (by omega) (by decide), ?_⟩
      by_cases e : rsY (4 * a + i) = rsY (4 * b + i)
      · exact br_t e (nm_r (nI_1 i) (hn () (lt_s hI (fun _ => e))))
      · exact br_f e (h0 (fun z => e (z i hi hor)))
    refine br_f (nI_ge hi (by omega)) ?_
    cases al with
    | true => exact br_f (by decide) (cmp (Or.inl rfl))
    | false =>
      refine br_t rfl ⟨hv, ?_⟩
      rw [nI_clamp (by omega), o1]
      by_cases e : OK i = 0
      · exact br_t (by rw [e]; rfl) (cmp (Or.inr e))
      · exact br_f (op_ne (b := 0) (by omega) (by decide) e) (nm_r (nI_1 i) (hn () (lt_s hI (fun z => by rcases z with z | z; exact absurd z (by decide); exact absurd z e))))
end
end
section
section
variable {opY soY coY ouY kyY liY diY cmY rrY wiY : Int32} {ceY oceY bceY rsY : Nat → Int64} {maY omaY bmaY unY rqY bunY brqY rfY acY brfY bacY srY csY ccY cpY cwY okY osY ocY koY ciY kfY cbY goY geY keY : Nat → Int32} {N : Nat → Nat} {D : Nat → Nat → Int64} {ns no M : Nat} {S OK OS OC : Nat → Nat} {C : Nat → Nat} {jo : Bool}
theorem ym_plain {post : Int32 → SY → Prop} (hC : db_yc N D ceY maY) (h3 : ns ≤ 3) (hS : ∀ s, s < ns → S s < 3) (hsr : ∀ s, s < ns → srY s = nI (S s)) (hk : ko_c ns no OK OS OC) (ho : ky_o no OK OS OC okY osY ocY) (hM : M ≤ 4096) (hcb : ∀ i, i < M → cbY i = nI (C i) ∧ C i < 4096 ∧ ∀ s, s < ns → ro_w (C i) s < N (S s)) (hall : ∀ k, k < no → OK k = 0)
    (h1 : (gr_s (al_b no OK (ou_v D S OS OC)) jo 0 C M).1 ≤ 60 → ∀ rs, (∀ g k, g < (gr_s (al_b no OK (ou_v D S OS OC)) jo 0 C M).1 → k < no → rs (4 * g + k) = ou_v D S OS OC ((gr_s (al_b no OK (ou_v D S OS OC)) jo 0 C M).2 g) k) → post (nI (gr_s (al_b no OK (ou_v D S OS OC)) jo 0 C M).1) (opY, soY, coY, nI no, kyY, liY, bo_i jo, nI M, rrY, wiY, ceY, oceY, bceY, maY, omaY, bmaY, unY, rqY, bunY, brqY, rfY, acY, brfY, bacY, srY, csY, ccY, cpY, cwY, okY, osY, ocY, koY, ciY, kfY, cbY, goY, rs, geY, keY))
    (h0 : 60 < (gr_s (al_b no OK (ou_v D S OS OC)) jo 0 C M).1 → ∀ rs, post (nI 61) (opY, soY, coY, nI no, kyY, liY, bo_i jo, nI M, rrY, wiY, ceY, oceY, bceY, maY, omaY, bmaY, unY, rqY, bunY, brqY, rfY, acY, brfY, bacY, srY, csY, ccY, cpY, cwY, okY, osY, ocY, koY, ciY, kfY, cbY, goY, rs, geY, keY)) : wpY_plainRows post (opY, soY, coY, nI no, kyY, liY, bo_i jo, nI M, rrY, wiY, ceY, oceY, bceY, maY, omaY, bmaY, unY, rqY, bunY, brqY, rfY, acY, brfY, bacY, srY, csY, ccY, cpY, cwY, okY, osY, ocY, koY, ciY, kfY, cbY, goY, rsY, geY, keY) := by
  have h4 := hk.1
  refine loop_0 (fun m p s => wY_plainRows_4 post m (nI (gr_s (al_b no OK (ou_v D S OS OC)) jo 0 C p).1) (nI p) opY soY coY (nI no) kyY liY (bo_i jo) (nI M) rrY wiY ceY oceY bceY maY omaY bmaY unY rqY bunY brqY rfY acY brfY bacY srY csY ccY cpY cwY okY osY ocY koY ciY kfY cbY goY s geY keY) (fun p s => (gr_s (al_b no OK (ou_v D S OS OC)) jo 0 C p).1 ≤ 61 ∧ ∀ g k, g < (gr_s (al_b no OK (ou_v D S OS OC)) jo 0 C p).1 → k < no → s (4 * g + k) = ou_v D S OS OC ((gr_s (al_b no OK (ou_v D S OS OC)) jo 0 C p).2 g) k) M rsY ⟨Nat.zero_le _, fun g k hg => absurd hg (Nat.not_lt_zero _)⟩ ?_ ?_
  · intro m s hI
    refine br_t (nI_le (Nat.le_refl _) (by omega)) ?_
    by_cases z : (gr_s (al_b no OK (ou_v D S OS OC)) jo 0 C M).1 ≤ 60
    · exact h1 z s hI.2
    · rw [show (gr_s (al_b no OK (ou_v D S OS OC)) jo 0 C M).1 = 61 by have := hI.1; omega]
      exact h0 (by omega) s
  · intro m p s hp hI hn
    have hup := gr_up (al := al_b no OK (ou_v D S OS OC)) (jo := jo) (g0 := 0) (C := C) p
    have hmono := gr_mono (al := al_b no OK (ou_v D S OS OC)) (jo := jo) (g0 := 0) (C := C) (show p ≤ M by omega)
    have hnew := gr_new (al := al_b no OK (ou_v D S OS OC)) (jo := jo) (g0 := 0) (C := C) (p := p)
    have hold := gr_old (al := al_b no OK (ou_v D S OS OC)) (jo := jo) (g0 := 0) (C := C) (p := p)
    have hgd : gr_g (al_b no OK (ou_v D S OS OC)) jo 0 C p = if jo = true then fi_f (fun g => al_b no OK (ou_v D S OS OC) ((gr_s (al_b no OK (ou_v D S OS OC)) jo 0 C p).2 g) (C p)) (gr_s (al_b no OK (ou_v D S OS OC)) jo 0 C p).1 else (gr_s (al_b no OK (ou_v D S OS OC)) jo 0 C p).1 := rfl
    generalize gr_s (al_b no OK (ou_v D S OS OC)) jo 0 C M = sM at *
    generalize gr_s (al_b no OK (ou_v D S OS OC)) jo 0 C p = s1 at *
    generalize gr_s (al_b no OK (ou_v D S OS OC)) jo 0 C (p + 1) = s2 at *
    generalize gr_g (al_b no OK (ou_v D S OS OC)) jo 0 C p = gp at *
    obtain ⟨c1, c2, c3⟩ := hcb p hp
    have h61 := hI.1
    refine br_f (nI_ge hp (by omega)) (pk_le 61 s1.1 (fun z => ?_) (fun z => ⟨vp_in_nI (by omega) (by decide), ?_⟩))
    · rw [show s1.1 = 61 by omega]
      exact h0 (by omega) s
    · rw [nI_clamp (by omega), c1]
      refine ym_put hC h3 hS hsr hk ho (by omega) c2 c3 (fun rs hkeep hput => ?_)
      dsimp only
      have nxt1 : gp = s1.1 → wY_plainRows_4 post m (nI (s1.1 + 1)) (nI (p + 1)) opY soY coY (nI no) kyY liY (bo_i jo) (nI M) rrY wiY ceY oceY bceY maY omaY bmaY unY rqY bunY brqY rfY acY brfY bacY srY csY ccY cpY cwY okY osY ocY koY ciY kfY cbY goY rs geY keY := by
        intro e
        have e2 := hnew e
        have e3 : s2.1 = s1.1 + 1 := by rw [e2]
        have := hn rs
        rw [e3] at this
        refine this ⟨by omega, fun g k hg hk' => ?_⟩
        rw [e2]
        dsimp only
        by_cases eg : g = s1.1
        · subst eg
          rw [if_pos rfl]
          exact hput k hk' (hall k hk')
        · rw [if_neg eg, hkeep g k (by omega) (by omega)]
          exact hI.2 g k (by omega) hk'
      have nxt0 : gp ≠ s1.1 → wY_plainRows_4 post m (nI s1.1) (nI (p + 1)) opY soY coY (nI no) kyY liY (bo_i jo) (nI M) rrY wiY ceY oceY bceY maY omaY bmaY unY rqY bunY brqY rfY acY brfY bacY srY csY ccY cpY cwY okY osY ocY koY ciY kfY cbY goY rs geY keY := by
        intro e
        have e2 := hold e
        have := hn rs
        rw [e2] at this
        refine this ⟨by omega, fun g k hg hk' => ?_⟩
        rw [hkeep g k hg (by omega)]
        exact hI.2 g k hg hk'
      have g1 : gp = s1.1 → wY_plainRows_74 post (wY_plainRows_4 post m) (nI s1.1) (nI p) 1 opY soY coY (nI no) kyY liY (bo_i jo) (nI M) rrY wiY ceY oceY bceY maY omaY bmaY unY rqY bunY brqY rfY acY brfY bacY srY csY ccY cpY cwY okY osY ocY koY ciY kfY cbY goY rs geY keY := fun e => br_f (by decide) (nm_r (nI_1 _) (nm_r (nI_1 p) (nxt1 e)))
      have g0' : gp ≠ s1.1 → wY_plainRows_74 post (wY_plainRows_4 post m) (nI s1.1) (nI p) 0 opY soY coY (nI no) kyY liY (bo_i jo) (nI M) rrY wiY ceY oceY bceY maY omaY bmaY unY rqY bunY brqY rfY acY brfY bacY srY csY ccY cpY cwY okY osY ocY koY ciY kfY cbY goY rs geY keY := fun e => br_t rfl (nm_r (nI_1 p) (nxt0 e))
      cases jo with
      | false =>
        have eg : gp = s1.1 := hgd
        exact ⟨1, br_c (fun _ => g1 eg) (fun _ => br_t rfl (g1 eg))⟩
      | true =>
        have eg : gp = fi_f (fun g => al_b no OK (ou_v D S OS OC) (s1.2 g) (C p)) s1.1 := hgd
        refine loop_0 (fun m' j (x : Int32) => wY_plainRows_34 post (wY_plainRows_4 post m) (nI s1.1) (nI p) opY soY coY (nI no) kyY liY (bo_i true) (nI M) rrY wiY ceY oceY bceY maY omaY bmaY unY rqY bunY brqY rfY acY brfY bacY srY csY ccY cpY cwY okY osY ocY koY ciY kfY cbY goY rs geY keY m' x (nI j)) (fun j x => (x = 1 ∧ ∀ j', j' < j → al_b no OK (ou_v D S OS OC) (s1.2 j') (C p) = false) ∨ (x = 0 ∧ ∃ j', j' < s1.1 ∧ al_b no OK (ou_v D S OS OC) (s1.2 j') (C p) = true)) s1.1 1 (Or.inl ⟨rfl, lt_0⟩) ?_ ?_
        · intro m' x hx
          refine br_t (nI_le (Nat.le_refl _) (by omega)) ?_
          rcases hx with ⟨ex, ha⟩ | ⟨ex, j', hj', ha⟩
          · subst ex
            exact g1 (by rw [eg]; exact ff_eq (Nat.le_refl _) ha (fun w => absurd w (Nat.lt_irrefl _)))
          · subst ex
            refine g0' (fun w => ?_)
            rw [eg] at w
            have := (ff_all (fun g => al_b no OK (ou_v D S OS OC) (s1.2 g) (C p)) s1.1).2.1 j' (by omega)
            rw [ha] at this
            exact absurd this (by decide)
        · intro m' j x hj hx hm'
          refine br_f (nI_ge hj (by omega)) (br_f (by decide) ?_)
          rcases hx with ⟨ex, ha⟩ | ⟨ex, hex⟩
          · subst ex
            refine br_f (by decide) (ym_same (al := true) hk ho (by omega) (by omega) (fun hs => br_f (by decide) (nm_r (nI_1 j) (hm' 0 (Or.inr ⟨rfl, j, hj, ?_⟩)))) (fun hs => br_t rfl (nm_r (nI_1 j) (hm' 1 (Or.inl ⟨rfl, lt_s ha ?_⟩)))))
            · refine al_i.mpr (fun k hk' e0 => ?_)
              have := hs k hk' (Or.inl rfl)
              rw [hkeep j k hj (by omega), hput k hk' e0, hI.2 j k hj hk'] at this
              exact this
            · rw [Bool.eq_false_iff]
              intro w
              refine hs (fun k hk' _ => ?_)
              rw [hkeep j k hj (by omega), hput k hk' (hall k hk'), hI.2 j k hj hk']
              exact al_i.mp w k hk' (hall k hk')
          · subst ex
            exact br_t rfl (nm_r (nI_1 j) (hm' 0 (Or.inr ⟨rfl, hex⟩)))
theorem ym_groups {post : Int32 → SY → Prop} (hC : db_yc N D ceY maY) (h3 : ns ≤ 3) (hS : ∀ s, s < ns → S s < 3) (hsr : ∀ s, s < ns → srY s = nI (S s)) (hk : ko_c ns no OK OS OC) (ho : ky_o no OK OS OC okY osY ocY) (hM : M ≤ 4096) (hcb : ∀ i, i < M → cbY i = nI (C i) ∧ C i < 4096 ∧ ∀ s, s < ns → ro_w (C i) s < N (S s))
    (h1 : (gr_s (al_b no OK (ou_v D S OS OC)) true 0 C M).1 ≤ 60 → ∀ rs go, (∀ g k, g < (gr_s (al_b no OK (ou_v D S OS OC)) true 0 C M).1 → k < no → OK k = 0 → rs (4 * g + k) = ou_v D S OS OC ((gr_s (al_b no OK (ou_v D S OS OC)) true 0 C M).2 g) k) → (∀ i, i < M → go i = nI (gr_g (al_b no OK (ou_v D S OS OC)) true 0 C i)) → ∃ n, wY_groups_70 post (nI (gr_s (al_b no OK (ou_v D S OS OC)) true 0 C M).1) n 0 opY soY coY (nI no) kyY liY diY (nI M) rrY wiY ceY oceY bceY maY omaY bmaY unY rqY bunY brqY rfY acY brfY bacY srY csY ccY cpY cwY okY osY ocY koY ciY kfY cbY go rs geY keY)
    (h0 : 60 < (gr_s (al_b no OK (ou_v D S OS OC)) true 0 C M).1 → ∀ rs go, post (nI 61) (opY, soY, coY, nI no, kyY, liY, diY, nI M, rrY, wiY, ceY, oceY, bceY, maY, omaY, bmaY, unY, rqY, bunY, brqY, rfY, acY, brfY, bacY, srY, csY, ccY, cpY, cwY, okY, osY, ocY, koY, ciY, kfY, cbY, go, rs, geY, keY)) : wpY_groups post (opY, soY, coY, nI no, kyY, liY, diY, nI M, rrY, wiY, ceY, oceY, bceY, maY, omaY, bmaY, unY, rqY, bunY, brqY, rfY, acY, brfY, bacY, srY, csY, ccY, cpY, cwY, okY, osY, ocY, koY, ciY, kfY, cbY, goY, rsY, geY, keY) := by
  have h4 := hk.1
  have over : 60 < (gr_s (al_b no OK (ou_v D S OS OC)) true 0 C M).1 → ∀ rs go, ∃ n, wY_groups_70 post (nI 61) n 0 opY soY coY (nI no) kyY liY diY (nI M) rrY wiY ceY oceY bceY maY omaY bmaY unY rqY bunY brqY rfY acY brfY bacY srY csY ccY cpY cwY okY osY ocY koY ciY kfY cbY go rs geY keY := fun z rs go => ⟨1, br_f (by decide) (br_t (by decide) (h0 z rs go))⟩
  refine loop_0 (fun m p (s : (Nat → Int64) × (Nat → Int32)) => wY_groups_4 post m (nI (gr_s (al_b no OK (ou_v D S OS OC)) true 0 C p).1) (nI p) opY soY coY (nI no) kyY liY diY (nI M) rrY wiY ceY oceY bceY maY omaY bmaY unY rqY bunY brqY rfY acY brfY bacY srY csY ccY cpY cwY okY osY ocY koY ciY kfY cbY s.2 s.1 geY keY) (fun p s => (gr_s (al_b no OK (ou_v D S OS OC)) true 0 C p).1 ≤ 61 ∧ (∀ g k, g < (gr_s (al_b no OK (ou_v D S OS OC)) true 0 C p).1 → k < no → OK k = 0 → s.1 (4 * g + k) = ou_v D S OS OC ((gr_s (al_b no OK (ou_v D S OS OC)) true 0 C p).2 g) k) ∧ ∀ i, i < p → s.2 i = nI (gr_g (al_b no OK (ou_v D S OS OC)) true 0 C i)) M (rsY, goY) ⟨Nat.zero_le _, fun g k hg => absurd hg (Nat.not_lt_zero _), lt_0⟩ ?_ ?_
  · rintro m ⟨rs, go⟩ ⟨a, b, c⟩
    refine br_t (nI_le (Nat.le_refl _) (by omega)) ?_
    by_cases z : (gr_s (al_b no OK (ou_v D S OS OC)) true 0 C M).1 ≤ 60
    · exact h1 z rs go b c
    · have := over (by omega) rs go
      rw [show (gr_s (al_b no OK (ou_v D S OS OC)) true 0 C M).1 = 61 by omega]
      exact this
  · rintro m p ⟨rs, go⟩ hp ⟨a, b, c⟩ hn
    have hup := gr_up (al := al_b no OK (ou_v D S OS OC)) (jo := true) (g0 := 0) (C := C) p
    have hmono := gr_mono (al := al_b no OK (ou_v D S OS OC)) (jo := true) (g0 := 0) (C := C) (show p ≤ M by omega)
    have hnew := gr_new (al := al_b no OK (ou_v D S OS OC)) (jo := true) (g0 := 0) (C := C) (p := p)
    have hold := gr_old (al := al_b no OK (ou_v D S OS OC)) (jo := true) (g0 := 0) (C := C) (p := p)
    have hgd : gr_g (al_b no OK (ou_v D S OS OC)) true 0 C p = fi_f (fun g => al_b no OK (ou_v D S OS OC) ((gr_s (al_b no OK (ou_v D S OS OC)) true 0 C p).2 g) (C p)) (gr_s (al_b no OK (ou_v D S OS OC)) true 0 C p).1 := rfl
    obtain ⟨c1, c2, c3⟩ := hcb p hp
    refine br_f (nI_ge hp (by omega)) (pk_le 61 (gr_s (al_b no OK (ou_v D S OS OC)) true 0 C p).1 (fun z => ?_) (fun z => ⟨vp_in_nI (by omega) (by decide), ?_⟩))
    · have := over (by omega) rs go
      rw [show (gr_s (al_b no OK (ou_v D S OS OC)) true 0 C p).1 = 61 by omega]
      exact this
    · rw [nI_clamp (by omega), c1]
      refine ym_put hC h3 hS hsr hk ho (by omega) c2 c3 (fun rs1 hkeep hput => ?_)
      dsimp only
      clear h1 h0 over
      have hff := ff_all (fun g => al_b no OK (ou_v D S OS OC) ((gr_s (al_b no OK (ou_v D S OS OC)) true 0 C p).2 g) (C p)) (gr_s (al_b no OK (ou_v D S OS OC)) true 0 C p).1
      rw [← hgd] at hff
      obtain ⟨f1, f2, f3⟩ := hff
      have hgo : ∀ i, i < p + 1 → upd go p (nI (gr_g (al_b no OK (ou_v D S OS OC)) true 0 C p)) i = nI (gr_g (al_b no OK (ou_v D S OS OC)) true 0 C i) := lt_s (fun i hi => by rw [pk_un (by omega)]; exact c i hi) pk_us
      generalize gr_s (al_b no OK (ou_v D S OS OC)) true 0 C p = s1 at *
      generalize gr_s (al_b no OK (ou_v D S OS OC)) true 0 C (p + 1) = s2 at *
      generalize gr_g (al_b no OK (ou_v D S OS OC)) true 0 C = G at *
      have sm : ∀ g, g < s1.1 → ((∀ k, k < no → (false = true ∨ OK k = 0) → rs1 (4 * g + k) = rs1 (4 * s1.1 + k)) ↔ al_b no OK (ou_v D S OS OC) (s1.2 g) (C p) = true) := by
        intro g hg
        rw [al_i]
        constructor
        · intro hs k hk' e0
          have := hs k hk' (Or.inr e0)
          rw [hkeep g k hg (by omega), hput k hk' e0, b g k hg hk' e0] at this
          exact this
        · intro hs k hk' e0
          have e0 : OK k = 0 := by rcases e0 with w | w; exact absurd w (by decide); exact w
          rw [hkeep g k hg (by omega), hput k hk' e0, b g k hg hk' e0]
          exact hs k hk' e0
      refine loop_0 (fun m' g (_ : Unit) => wY_groups_31 post (wY_groups_4 post m) (nI s1.1) (nI p) opY soY coY (nI no) kyY liY diY (nI M) rrY wiY ceY oceY bceY maY omaY bmaY unY rqY bunY brqY rfY acY brfY bacY srY csY ccY cpY cwY okY osY ocY koY ciY kfY cbY go rs1 geY keY m' (nI g)) (fun _ _ => True) (G p) () trivial ?_ ?_
      · intro m' _ _
        rw [wY_groups_31]
        refine ym_same (al := false) hk ho (by omega) (by omega) (fun hs => br_f (by decide) ?_) (fun hs => ?_)
        · refine ⟨vp_in_nI (by omega) (by decide), nm_r (e' := upd go p (nI (G p))) (by rw [nI_clamp (by omega)]) (pk_eq (G p) s1.1 (fun e => ?_) (fun e => ?_))⟩
          · have e2 := hnew e
            have e3 : s2.1 = s1.1 + 1 := by rw [e2]
            have := hn (rs1, upd go p (nI (G p)))
            rw [e3] at this
            refine nm_r (nI_1 _) (nm_r (nI_1 p) (this ⟨by omega, fun g k hg hk' e0 => ?_, hgo⟩))
            show rs1 (4 * g + k) = _
            rw [e2]
            dsimp only
            by_cases eg : g = s1.1
            · subst eg
              rw [if_pos rfl]
              exact hput k hk' e0
            · rw [if_neg eg, hkeep g k (by omega) (by omega)]
              exact b g k (by omega) hk' e0
          · have e2 := hold e
            have := hn (rs1, upd go p (nI (G p)))
            rw [e2] at this
            refine nm_r (nI_1 p) (this ⟨by omega, fun g k hg hk' e0 => ?_, hgo⟩)
            show rs1 (4 * g + k) = _
            rw [hkeep g k hg (by omega)]
            exact b g k hg hk' e0
        · exfalso
          rcases Nat.lt_or_ge (G p) s1.1 with w | w
          · exact hs ((sm _ w).mpr (f3 w))
          · have : G p = s1.1 := by omega
            rw [this] at hs
            exact hs (fun _ _ _ => rfl)
      · intro m' g _ hg _ hm'
        rw [wY_groups_31]
        refine ym_same (al := false) hk ho (by omega) (by omega) (fun hs => ?_) (fun hs => br_t rfl (nm_r (nI_1 g) (hm' () trivial)))
        exfalso
        have := f2 g hg
        rw [(sm g (by omega)).mp hs] at this
        exact absurd this (by decide)
end
end
section
section
variable {opY soY coY ouY kyY liY diY cmY rrY wiY : Int32} {ceY oceY bceY rsY : Nat → Int64} {maY omaY bmaY unY rqY bunY brqY rfY acY brfY bacY srY csY ccY cpY cwY okY osY ocY koY ciY kfY cbY goY geY keY : Nat → Int32} {N : Nat → Nat} {D : Nat → Nat → Int64} {ns no M : Nat} {S OK OS OC : Nat → Nat} {C G : Nat → Nat}
theorem bo_if (b : Bool) : (if b = true then (1 : Int32) else 0) = bo_i b := by cases b <;> rfl
theorem ym_diff {post : Int32 → Prop} (hC : db_yc N D ceY maY) (h3 : ns ≤ 3) (hS : ∀ s, s < ns → S s < 3) (hsr : ∀ s, s < ns → srY s = nI (S s)) {s c : Nat} (hs : s < ns) (hc : c < 3) {b : Int32} {E : Nat → Bool} (hb : ∀ r, r < 16 → bt b r = E r) (hE : ∀ r, r < 16 → E r = true → r < N (S s)) (h : post (nI (dn_n (fun r => D (3 * S s + c) r) E))) : wpY_different post (opY, soY, coY, ouY, kyY, liY, diY, cmY, rrY, wiY, ceY, oceY, bceY, maY, omaY, bmaY, unY, rqY, bunY, brqY, rfY, acY, brfY, bacY, srY, csY, ccY, cpY, cwY, okY, osY, ocY, koY, ciY, kfY, cbY, goY, rsY, geY, keY) b (nI s) (nI c) := by
  have hs3 := hS s hs
  have h16 := (hC.1 (S s) hs3).2
  have ecell : ∀ r, r < N (S s) → ceY (48 * S s + c + 3 * r) = D (3 * S s + c) r := by
    intro r hr
    have := hC.2 (3 * S s + c) r (by omega) (by rw [show (3 * S s + c) / 3 = S s by omega]; exact hr)
    rw [show (3 * S s + c) / 3 = S s by omega, show (3 * S s + c) % 3 = c by omega] at this
    rw [← this]
    exact congrArg ceY (by omega)
  refine ⟨vp_in_nI (by omega) (by decide), nm_r (e' := nI (48 * S s + c)) (by rw [nI_clamp (by omega), hsr s hs, nz_48, nI_add]) ?_⟩
  refine loop_0 (fun n r (_ : Unit) => wY_different_19 post b (nI (48 * S s + c)) opY soY coY ouY kyY liY diY cmY rrY wiY ceY oceY bceY maY omaY bmaY unY rqY bunY brqY rfY acY brfY bacY srY csY ccY cpY cwY okY osY ocY koY ciY kfY cbY goY rsY geY keY n (nI (cn_b (dn_f (fun r => D (3 * S s + c) r) E) r)) (nI r)) (fun _ _ => True) 16 () trivial ?_ ?_
  · intro n _ _
    exact br_t (by decide) h
  · intro n r _ hr _ hn
    have hn := hn () trivial
    refine br_f (nI_ge (b := 16) hr (by decide)) ?_
    rw [bt_sh hr, bo_if, hb r hr]
    cases he : E r with
    | false =>
      refine br_t rfl (nm_r (nI_1 r) ?_)
      rw [cn_f (fun z => by rw [(dn_i.mp z).1] at he; exact absurd he (by decide))] at hn
      exact hn
    | true =>
      refine br_f (by decide) ?_
      have hrN := hE r hr he
      refine loop_0 (fun m q (x : Int32) => wY_different_44 post (wY_different_19 post b (nI (48 * S s + c)) opY soY coY ouY kyY liY diY cmY rrY wiY ceY oceY bceY maY omaY bmaY unY rqY bunY brqY rfY acY brfY bacY srY csY ccY cpY cwY okY osY ocY koY ciY kfY cbY goY rsY geY keY n) b (nI (cn_b (dn_f (fun r => D (3 * S s + c) r) E) r)) (nI (48 * S s + c)) (nI r) opY soY coY ouY kyY liY diY cmY rrY wiY ceY oceY bceY maY omaY bmaY unY rqY bunY brqY rfY acY brfY bacY srY csY ccY cpY cwY okY osY ocY koY ciY kfY cbY goY rsY geY keY m x (nI q)) (fun q x => (x = 1 ∧ ∀ q', q' < q → E q' = true → D (3 * S s + c) q' ≠ D (3 * S s + c) r) ∨ (x = 0 ∧ ∃ q', q' < r ∧ E q' = true ∧ D (3 * S s + c) q' = D (3 * S s + c) r)) r 1 (Or.inl ⟨rfl, lt_0⟩) ?_ ?_
      · intro m x hx
        refine br_t (nI_le (Nat.le_refl _) (by omega)) ?_
        rcases hx with ⟨ex, ha⟩ | ⟨ex, q', hq', he', hw'⟩
        · subst ex
          rw [cn_t (dn_i.mpr ⟨he, ha⟩)] at hn
          exact br_f (by decide) (nm_r (nI_1 _) (nm_r (nI_1 r) hn))
        · subst ex
          rw [cn_f (fun z => (dn_i.mp z).2 q' hq' he' hw')] at hn
          exact br_t rfl (nm_r (nI_1 r) hn)
      · intro m q x hq hx hm
        refine br_f (nI_ge hq (by omega)) ?_
        rw [bt_sh (show q < 16 by omega), bo_if, hb q (by omega)]
        cases heq : E q with
        | false =>
          refine br_f (by decide) (nm_r (nI_1 q) (hm x ?_))
          rcases hx with ⟨ex, ha⟩ | z
          · exact Or.inl ⟨ex, lt_s ha (fun z => by rw [heq] at z; exact absurd z (by decide))⟩
          · exact Or.inr z
        | true =>
          have hqN := hE q (by omega) heq
          rw [nz_3m, nz_3m, nI_add, nI_add, nI_clamp (show 48 * S s + c + 3 * q < 2 ^ 31 by omega), nI_clamp (show 48 * S s + c + 3 * r < 2 ^ 31 by omega), ecell q hqN, ecell r hrN]
          refine br_t rfl ⟨vp_in_nI (by omega) (by decide), vp_in_nI (by omega) (by decide), ?_⟩
          by_cases ev : D (3 * S s + c) q = D (3 * S s + c) r
          · exact br_t ev (nm_r (nI_1 q) (hm 0 (Or.inr ⟨rfl, q, hq, heq, ev⟩)))
          · refine br_f ev (nm_r (nI_1 q) (hm x ?_))
            rcases hx with ⟨ex, ha⟩ | z
            · exact Or.inl ⟨ex, lt_s ha (fun _ => ev)⟩
            · exact Or.inr z
theorem lN_z {n : Nat} (h : n < 2 ^ 31) : lN n = 0 ↔ n = 0 := lN_eq (b := 0) h (by decide)
/-- one value into Y's fold -/
theorem ym_f103 {post : SY → Prop} {J2 : Int32 → (Nat → Int64) → (Nat → Int64) → (Nat → Int64) → (Nat → Int32) → (Nat → Int32) → (Nat → Int32) → (Nat → Int32) → (Nat → Int32) → (Nat → Int32) → (Nat → Int32) → (Nat → Int32) → (Nat → Int32) → (Nat → Int32) → (Nat → Int32) → (Nat → Int32) → (Nat → Int32) → (Nat → Int32) → (Nat → Int32) → (Nat → Int32) → (Nat → Int32) → (Nat → Int32) → (Nat → Int32) → (Nat → Int32) → (Nat → Int32) → (Nat → Int32) → (Nat → Int32) → (Nat → Int32) → (Nat → Int64) → (Nat → Int32) → (Nat → Int32) → Prop} {J : Int64 → Int64 → Int64 → Int64 → Int32 → Int32 → Prop} {act : Nat → Bool} {x : Nat → Int64} {i k s : Nat} {g b : Int32} (hi : i < 4096) (hk : k < 4) (hs : s < 3) (hc : C i < 4096) (ecb : cbY i = nI (C i)) (eos : osY k = nI s)
    (h0 : x i = nu_l → J (lN (fo_s act x i).1) (fo_s act x i).2.1 (fo_s act x i).2.2.1 (fo_s act x i).2.2.2 b (nI (i + 1)))
    (h1 : x i ≠ nu_l → J (lN ((fo_s act x i).1 + 1)) ((fo_s act x i).2.1 + x i) (if (fo_s act x i).1 = 0 ∨ x i < (fo_s act x i).2.2.1 then x i else (fo_s act x i).2.2.1) (if (fo_s act x i).1 = 0 ∨ (fo_s act x i).2.2.2 < x i then x i else (fo_s act x i).2.2.2) (b ||| ((1 : Int32) <<< (nI (ro_w (C i) s) &&& 31))) (nI (i + 1))) (hcnt : (fo_s act x i).1 ≤ 4096) :
    wY_fold_103 post J2 J g (nI k) (lN (fo_s act x i).1) (fo_s act x i).2.1 (fo_s act x i).2.2.1 (fo_s act x i).2.2.2 b (nI i) (x i) opY soY coY ouY kyY liY diY cmY rrY wiY ceY oceY bceY maY omaY bmaY unY rqY bunY brqY rfY acY brfY bacY srY csY ccY cpY cwY okY osY ocY koY ciY kfY cbY goY rsY geY keY := by
  refine br_c (fun z => nm_r (nI_1 i) (h0 z)) (fun z => ?_)
  have h1 := h1 z
  generalize fo_s act x i = st at *
  generalize x i = v at *
  have e161 : ∀ le mo, J (lN (st.1 + 1)) (st.2.1 + v) le mo (b ||| ((1 : Int32) <<< (nI (ro_w (C i) s) &&& 31))) (nI (i + 1)) → wY_fold_161 post J2 J g (nI k) (lN st.1) st.2.1 le b (nI i) v mo opY soY coY ouY kyY liY diY cmY rrY wiY ceY oceY bceY maY omaY bmaY unY rqY bunY brqY rfY acY brfY bacY srY csY ccY cpY cwY okY osY ocY koY ciY kfY cbY goY rsY geY keY := by
    intro le mo hJ
    refine nm_r (lN_1 _) (nm_e ⟨vp_in_nI hi (by decide), vp_in_nI hk (by decide), ?_⟩)
    rw [nI_clamp (show i < 2 ^ 31 by omega), nI_clamp (show k < 2 ^ 31 by omega), ecb, eos]
    unfold wpY_rowOf
    dsimp only
    rw [ro_e hc hs]
    exact nm_e (nm_r (nI_1 i) hJ)
  have e138 : ∀ le, J (lN (st.1 + 1)) (st.2.1 + v) le (if st.1 = 0 ∨ st.2.2.2 < v then v else st.2.2.2) (b ||| ((1 : Int32) <<< (nI (ro_w (C i) s) &&& 31))) (nI (i + 1)) → wY_fold_138 post J2 J g (nI k) (lN st.1) st.2.1 st.2.2.2 b (nI i) v le opY soY coY ouY kyY liY diY cmY rrY wiY ceY oceY bceY maY omaY bmaY unY rqY bunY brqY rfY acY brfY bacY srY csY ccY cpY cwY okY osY ocY koY ciY kfY cbY goY rsY geY keY := by
    intro le hJ
    by_cases hz : st.1 = 0
    · rw [if_pos (Or.inl hz)] at hJ
      exact br_t ((lN_z (by omega)).mpr hz) (e161 le v hJ)
    · refine br_f (fun w => hz ((lN_z (by omega)).mp w)) (br_c (fun w => ?_) (fun w => ?_))
      · rw [if_neg (fun y => by rcases y with y | y; exact hz y; exact absurd y (Int64.not_lt.mpr w))] at hJ
        exact e161 le _ hJ
      · rw [if_pos (Or.inr (Int64.not_le.mp w))] at hJ
        exact e161 le v hJ
  by_cases hz : st.1 = 0
  · rw [if_pos (Or.inl hz)] at h1
    exact br_t ((lN_z (by omega)).mpr hz) (e138 v h1)
  · refine br_f (fun w => hz ((lN_z (by omega)).mp w)) (br_c (fun w => ?_) (fun w => ?_))
    · rw [if_neg (fun y => by rcases y with y | y; exact hz y; exact absurd y (Int64.not_lt.mpr w))] at h1
      exact e138 _ h1
    · rw [if_pos (Or.inr (Int64.not_le.mp w))] at h1
      exact e138 v h1
theorem ym_fold {post : SY → Prop} (hC : db_yc N D ceY maY) (h3 : ns ≤ 3) (hS : ∀ s, s < ns → S s < 3) (hsr : ∀ s, s < ns → srY s = nI (S s)) (hk : ko_c ns no OK OS OC) (ho : ky_o no OK OS OC okY osY ocY) (hM : M ≤ 4096) (hcb : ∀ i, i < M → cbY i = nI (C i) ∧ C i < 4096 ∧ ∀ s, s < ns → ro_w (C i) s < N (S s)) (hgo : ∀ i, i < M → goY i = nI (G i) ∧ G i < 2 ^ 31) {g : Nat} (hg : g < 60)
    (h : ∀ rs, (∀ g' k, g' ≠ g → k < 4 → rs (4 * g' + k) = rsY (4 * g' + k)) → (∀ k, k < no → OK k = 0 → rs (4 * g + k) = rsY (4 * g + k)) → (∀ k, k < no → OK k ≠ 0 → rs (4 * g + k) = rv_v OK OS (ou_v D S OS OC) (ou_w D S OS OC) C G M g k) → post (opY, soY, coY, nI no, kyY, liY, diY, nI M, rrY, wiY, ceY, oceY, bceY, maY, omaY, bmaY, unY, rqY, bunY, brqY, rfY, acY, brfY, bacY, srY, csY, ccY, cpY, cwY, okY, osY, ocY, koY, ciY, kfY, cbY, goY, rs, geY, keY)) : wpY_fold post (opY, soY, coY, nI no, kyY, liY, diY, nI M, rrY, wiY, ceY, oceY, bceY, maY, omaY, bmaY, unY, rqY, bunY, brqY, rfY, acY, brfY, bacY, srY, csY, ccY, cpY, cwY, okY, osY, ocY, koY, ciY, kfY, cbY, goY, rsY, geY, keY) (nI g) := by
  have h4 := hk.1
  refine loop_0 (fun n k s => wY_fold_2 post (nI g) opY soY coY (nI no) kyY liY diY (nI M) rrY wiY n (nI k) ceY oceY bceY maY omaY bmaY unY rqY bunY brqY rfY acY brfY bacY srY csY ccY cpY cwY okY osY ocY koY ciY kfY cbY goY s geY keY) (fun k s => (∀ g' k', g' ≠ g → k' < 4 → s (4 * g' + k') = rsY (4 * g' + k')) ∧ (∀ k', k' < no → OK k' = 0 → s (4 * g + k') = rsY (4 * g + k')) ∧ ∀ k', k' < k → OK k' ≠ 0 → s (4 * g + k') = rv_v OK OS (ou_v D S OS OC) (ou_w D S OS OC) C G M g k') no rsY ⟨fun _ _ _ _ => rfl, fun _ _ _ => rfl, lt_0⟩ ?_ ?_
  · intro n s hI
    exact br_t (nI_le (Nat.le_refl _) (by omega)) (h s hI.1 hI.2.1 hI.2.2)
  · intro n k s hkn hI hn
    have hv : vp_in (nI k) 4 := vp_in_nI (by omega) (by decide)
    obtain ⟨o1, o2, o3⟩ := ho k hkn
    obtain ⟨k7, ks, kc⟩ := hk.2 k hkn
    have ek : (nI k).toNatClampNeg = k := nI_clamp (by omega)
    refine br_f (nI_ge hkn (by omega)) ⟨hv, ?_⟩
    rw [ek, o1]
    by_cases e0 : OK k = 0
    · exact br_t (by rw [e0]; rfl) (nm_r (nI_1 k) (hn s ⟨hI.1, hI.2.1, lt_s hI.2.2 (fun z => absurd e0 z)⟩))
    · refine br_f (op_ne (b := 0) (by omega) (by decide) e0) ?_
      -- the place gets w
      have put : ∀ w, w = rv_v OK OS (ou_v D S OS OC) (ou_w D S OS OC) C G M g k → wY_fold_2 post (nI g) opY soY coY (nI no) kyY liY diY (nI M) rrY wiY n (nI (k + 1)) ceY oceY bceY maY omaY bmaY unY rqY bunY brqY rfY acY brfY bacY srY csY ccY cpY cwY okY osY ocY koY ciY kfY cbY goY (vp_updL s (4 * g + k) w) geY keY := by
        intro w ew
        refine hn _ ⟨fun g' k' hg' hk' => ?_, fun k' hk' e' => ?_, lt_s (fun k' hk' e' => ?_) (fun _ => ?_)⟩
        · rw [pk_uLn (by omega)]
          exact hI.1 g' k' hg' hk'
        · have : k' ≠ k := fun z => e0 (z ▸ e')
          rw [pk_uLn (by omega)]
          exact hI.2.1 k' hk' e'
        · rw [pk_uLn (by omega)]
          exact hI.2.2 k' hk' e'
        · rw [pk_uLs, ew]
      generalize hact : ac_b OK (ou_v D S OS OC) C G g k = act at put
      have erv : rv_v OK OS (ou_v D S OS OC) (ou_w D S OS OC) C G M g k = fo_v (OK k) (ou_w D S OS OC k) (fo_s act (vx_v OK (ou_v D S OS OC) C k) M) (fo_e act (fun i => ro_w (C i) (OS k)) M) := by
        rw [← hact]
        rfl
      rw [erv] at put
      have hcnt : ∀ i, (fo_s act (vx_v OK (ou_v D S OS OC) C k) i).1 ≤ i := by
        intro i
        induction i with
        | zero => exact Nat.le_refl _
        | succ i ih =>
          by_cases z : act i = true
          · rw [fo_t z]
            exact Nat.succ_le_succ ih
          · rw [fo_n z]
            omega
      have hEN : ∀ i, i ≤ M → ∀ r, fo_e act (fun i => ro_w (C i) (OS k)) i r = true → r < N (S (OS k)) := by
        intro i
        induction i with
        | zero => intro _ r z; exact absurd z Bool.false_ne_true
        | succ i ih =>
          intro hi r z
          by_cases y : act i = true
          · rw [fe_t y] at z
            rcases st_i.mp z with w | w
            · rw [w]
              exact (hcb i (by omega)).2.2 _ ks
            · exact ih (by omega) r w
          · rw [fe_n y] at z
            exact ih (by omega) r z
      refine loop_0 (fun m i (b : Int32) => wY_fold_43 post (wY_fold_2 post (nI g) opY soY coY (nI no) kyY liY diY (nI M) rrY wiY n) (nI g) (nI k) opY soY coY (nI no) kyY liY diY (nI M) rrY wiY ceY oceY bceY maY omaY bmaY unY rqY bunY brqY rfY acY brfY bacY srY csY ccY cpY cwY okY osY ocY koY ciY kfY cbY goY s geY keY m (lN (fo_s act (vx_v OK (ou_v D S OS OC) C k) i).1) (fo_s act (vx_v OK (ou_v D S OS OC) C k) i).2.1 (fo_s act (vx_v OK (ou_v D S OS OC) C k) i).2.2.1 (fo_s act (vx_v OK (ou_v D S OS OC) C k) i).2.2.2 b (nI i)) (fun i b => ∀ r, r < 16 → bt b r = fo_e act (fun i => ro_w (C i) (OS k)) i r) M 0 (fun r _ => bt_z) ?_ ?_
      · intro m b hb
        have hcM := hcnt M
        refine br_t (nI_le (Nat.le_refl _) (by omega)) ⟨hv, ?_⟩
        rw [ek, o1, o2, o3, nz_4, nI_clamp (show 4 * g + k < 2 ^ 31 by omega)]
        have hvx : vp_in (nI (4 * g + k)) 250 := vp_in_nI (by omega) (by decide)
        refine pk_le 3 (OK k) (fun z3 => ⟨hv, ?_⟩) (fun z3 => ⟨hvx, nm_e (nm_r (nI_1 k) (put _ (fv_c (by omega)).symm))⟩)
        by_cases k6 : OK k = 6
        · refine br_t (by rw [k6]; rfl) ⟨hv, hv, ym_diff hC h3 hS hsr ks kc hb (fun r hr z => hEN M (Nat.le_refl _) r z) ⟨hvx, nm_e (nm_r (nI_1 k) (put _ ?_))⟩⟩
          have h16 : dn_n (fun r => D (3 * S (OS k) + OC k) r) (fo_e act (fun i => ro_w (C i) (OS k)) M) ≤ 16 := cn_le _ 16
          rw [k6, fv_6]
          exact nI_l (by omega)
        · refine br_f (op_ne (b := 6) (by omega) (by decide) k6) ?_
          by_cases hz : (fo_s act (vx_v OK (ou_v D S OS OC) C k) M).1 = 0
          · exact br_t ((lN_z (by omega)).mpr hz) ⟨hvx, nm_e (nm_r (nI_1 k) (put _ (fv_0 (by omega) k6 hz).symm))⟩
          · refine br_f (fun w => hz ((lN_z (by omega)).mp w)) ⟨hv, ?_⟩
            have ef := fv_n (W := ou_w D S OS OC k) (E := fo_e act (fun i => ro_w (C i) (OS k)) M) (show ¬ OK k < 3 by omega) k6 hz
            by_cases k3 : OK k = 3
            · rw [if_pos k3] at ef
              exact br_t (by rw [k3]; rfl) ⟨hvx, nm_e (nm_r (nI_1 k) (put _ ef.symm))⟩
            · rw [if_neg k3] at ef
              refine br_f (op_ne (b := 3) (by omega) (by decide) k3) ⟨hv, ?_⟩
              by_cases k4 : OK k = 4
              · rw [if_pos k4] at ef
                exact br_t (by rw [k4]; rfl) ⟨hvx, nm_e (nm_r (nI_1 k) (put _ ef.symm))⟩
              · rw [if_neg k4] at ef
                exact br_f (op_ne (b := 4) (by omega) (by decide) k4) ⟨hvx, nm_e (nm_r (nI_1 k) (put _ ef.symm))⟩
      · intro m i b hi hb hm
        have hci := hcnt i
        obtain ⟨c1, c2, c3⟩ := hcb i hi
        obtain ⟨g1, g2⟩ := hgo i hi
        have hvi : vp_in (nI i) 4096 := vp_in_nI (by omega) (by decide)
        refine br_f (nI_ge hi (by omega)) ⟨hvi, ?_⟩
        rw [nI_clamp (show i < 2 ^ 31 by omega), g1, ek, o1, c1, o2, o3]
        have main : G i = g → wY_fold_103 post (wY_fold_2 post (nI g) opY soY coY (nI no) kyY liY diY (nI M) rrY wiY n) (wY_fold_43 post (wY_fold_2 post (nI g) opY soY coY (nI no) kyY liY diY (nI M) rrY wiY n) (nI g) (nI k) opY soY coY (nI no) kyY liY diY (nI M) rrY wiY ceY oceY bceY maY omaY bmaY unY rqY bunY brqY rfY acY brfY bacY srY csY ccY cpY cwY okY osY ocY koY ciY kfY cbY goY s geY keY m) (nI g) (nI k) (lN (fo_s act (vx_v OK (ou_v D S OS OC) C k) i).1) (fo_s act (vx_v OK (ou_v D S OS OC) C k) i).2.1 (fo_s act (vx_v OK (ou_v D S OS OC) C k) i).2.2.1 (fo_s act (vx_v OK (ou_v D S OS OC) C k) i).2.2.2 b (nI i) (vx_v OK (ou_v D S OS OC) C k i) opY soY coY (nI no) kyY liY diY (nI M) rrY wiY ceY oceY bceY maY omaY bmaY unY rqY bunY brqY rfY acY brfY bacY srY csY ccY cpY cwY okY osY ocY koY ciY kfY cbY goY s geY keY := by
          intro eG
          refine ym_f103 (s := OS k) (by omega) (by omega) (by omega) c2 c1 o2 (fun z => ?_) (fun z => ?_) (by omega)
          · have ha : ¬ act i = true := fun w => by
              rw [← hact] at w
              exact (ac_i.mp w).2 z
            have := hm b (fun r hr => by rw [fe_n ha]; exact hb r hr)
            rw [fo_n ha] at this
            exact this
          · have ha : act i = true := by
              rw [← hact]
              exact ac_i.mpr ⟨eG, z⟩
            have hr16 : ro_w (C i) (OS k) < 16 := by
              have := c3 _ ks
              have := (hC.1 (S (OS k)) (hS _ ks)).2
              omega
            have := hm (b ||| ((1 : Int32) <<< (nI (ro_w (C i) (OS k)) &&& 31))) (fun r hr => by
              rw [fe_t ha, bt_or (by omega) (by omega)]
              by_cases er : r = ro_w (C i) (OS k)
              · subst er
                rw [st_s, st_s]
              · rw [st_o er, st_o er]
                exact hb r hr)
            rw [fo_t ha] at this
            exact this
        refine pk_eq (G i) g (fun eG => ⟨hv, ?_⟩) (fun eG => nm_r (nI_1 i) ?_) rfl rfl g2 (by omega)
        · have main := main eG
          by_cases k1 : OK k = 1
          · rw [show vx_v OK (ou_v D S OS OC) C k i = 0 from if_pos k1] at main
            exact br_t (by rw [k1]; rfl) main
          · rw [show vx_v OK (ou_v D S OS OC) C k i = ou_v D S OS OC (C i) k from if_neg k1] at main
            exact br_f (op_ne (b := 1) (by omega) (by decide) k1) ⟨hvi, hv, hv, ym_in hC h3 hS hsr c2 c3 ks kc main⟩
        · have ha : ¬ act i = true := fun w => by
            rw [← hact] at w
            exact eG (ac_i.mp w).1
          have := hm b (fun r hr => by rw [fe_n ha]; exact hb r hr)
          rw [fo_n ha] at this
          exact this
end
end
section
/-! run as a whole -/
noncomputable def ru_r (OK OS : Nat → Nat) (V W : Nat → Nat → Int64) (C G rp : Nat → Nat) (M : Nat) : Nat → Nat → Int64 := fun g k => if OK k = 0 then V (rp g) k else rv_v OK OS V W C G M g k
def ru_n (n lim : Nat) : Nat := if n ≤ lim then n else lim
theorem pl_all {OK : Nat → Nat} {no : Nat} : cn_b (fun k => decide (OK k = 0)) no = no ↔ ∀ k, k < no → OK k = 0 := by
  induction no with
  | zero => exact ⟨fun _ => lt_0, fun _ => rfl⟩
  | succ no ih =>
    have hle := cn_le (fun k => decide (OK k = 0)) no
    by_cases e : OK no = 0
    · rw [cn_t (decide_eq_true e)]
      constructor
      · intro h
        exact lt_s (ih.mp (by omega)) e
      · intro h
        rw [ih.mpr (fun k hk => h k (by omega))]
    · rw [cn_f (by simpa using e)]
      constructor
      · intro h
        omega
      · intro h
        exact absurd (h no (by omega)) e
theorem pl_none {OK : Nat → Nat} {no : Nat} : cn_b (fun k => decide (OK k = 0)) no = 0 ↔ ∀ k, k < no → OK k ≠ 0 := by
  induction no with
  | zero => exact ⟨fun _ => lt_0, fun _ => rfl⟩
  | succ no ih =>
    by_cases e : OK no = 0
    · rw [cn_t (decide_eq_true e)]
      constructor
      · intro h
        omega
      · intro h
        exact absurd e (h no (by omega))
    · rw [cn_f (by simpa using e)]
      constructor
      · intro h
        exact lt_s (ih.mp h) e
      · intro h
        exact ih.mpr (fun k hk => h k (by omega))
theorem one_s {no : Nat} {OK : Nat → Nat} {V : Nat → Nat → Int64} {C : Nat → Nat} (h : ∀ k, k < no → OK k ≠ 0) : ∀ p, (gr_s (al_b no OK V) true 1 C p).1 = 1 ∧ gr_g (al_b no OK V) true 1 C p = 0 := by
  have hal : ∀ q q', al_b no OK V q q' = true := fun q q' => al_i.mpr (fun k hk e => absurd e (h k hk))
  have hg : ∀ p, (gr_s (al_b no OK V) true 1 C p).1 = 1 → gr_g (al_b no OK V) true 1 C p = 0 := by
    intro p e
    show fi_f (fun g => al_b no OK V ((gr_s (al_b no OK V) true 1 C p).2 g) (C p)) (gr_s (al_b no OK V) true 1 C p).1 = 0
    rw [e]
    exact ff_eq (Nat.zero_le _) lt_0 (fun _ => hal _ _)
  intro p
  induction p with
  | zero => exact ⟨rfl, hg 0 rfl⟩
  | succ p ih =>
    have e : (gr_s (al_b no OK V) true 1 C (p + 1)).1 = 1 := by
      rw [gr_old (by rw [ih.1, ih.2]; decide)]
      exact ih.1
    exact ⟨e, hg _ e⟩
section
variable {opY soY coY ouY kyY liY diY cmY rrY wiY : Int32} {ceY oceY bceY rsY : Nat → Int64} {maY omaY bmaY unY rqY bunY brqY rfY acY brfY bacY srY csY ccY cpY cwY okY osY ocY koY ciY kfY cbY goY geY keY : Nat → Int32} {N : Nat → Nat} {D : Nat → Nat → Int64} {ns nc no nk lim : Nat} {S CS CC CO OK OS OC KO : Nat → Nat} {CI : Nat → Bool} {CW : Nat → Int32} {KF : Nat → Int32}
theorem ym_154 {post : Int32 → SY → Prop} {n : Nat} {r : Nat → Nat → Int64} (hn : n ≤ 61) (hl : lim ≤ 60) (h4 : no ≤ 4) (h2 : nk ≤ 2) (hko : ∀ k, k < nk → koY k = nI (KO k) ∧ KO k < no) (hkf : ∀ k, k < nk → kfY k = KF k) (hr : n ≤ 60 → re_q n no rsY r)
    (h1 : n ≤ 60 → ∀ rs, re_q n no rs (so_a nk KO KF r n) → post (nI (ru_n n lim)) (opY, soY, coY, ouY, nI nk, nI lim, diY, cmY, nI (ru_n n lim), wiY, ceY, oceY, bceY, maY, omaY, bmaY, unY, rqY, bunY, brqY, rfY, acY, brfY, bacY, srY, csY, ccY, cpY, cwY, okY, osY, ocY, koY, ciY, kfY, cbY, goY, rs, geY, keY)) (h0 : 60 < n → post (-4) (opY, soY, coY, ouY, nI nk, nI lim, diY, cmY, 0, wiY, ceY, oceY, bceY, maY, omaY, bmaY, unY, rqY, bunY, brqY, rfY, acY, brfY, bacY, srY, csY, ccY, cpY, cwY, okY, osY, ocY, koY, ciY, kfY, cbY, goY, rsY, geY, keY)) : wY_run_154 post opY soY coY ouY (nI nk) (nI lim) diY cmY (nI n) wiY ceY oceY bceY maY omaY bmaY unY rqY bunY brqY rfY acY brfY bacY srY csY ccY cpY cwY okY osY ocY koY ciY kfY cbY goY rsY geY keY := by
  refine pk_le n 60 (fun z => ym_sort z h4 h2 hko hkf (hr z) (fun rs hrs => ?_)) (fun z => h0 z)
  have h1 := h1 z rs hrs
  refine pk_le n lim (fun w => ?_) (fun w => ?_)
  · rw [show ru_n n lim = n from if_pos w] at h1
    exact h1
  · rw [show ru_n n lim = lim from if_neg (by omega)] at h1
    exact h1
theorem yv_run {post : Int32 → SY → Prop} (hC : db_yc N D ceY maY) (hck : ck_c ns nc S CS CC CO CI CW) (hsr : ∀ s, s < ns → srY s = nI (S s)) (hcy : cy_c nc CS CC CO CI CW csY ccY cpY ciY cwY) (hk4 : no ≤ 4) (hk : 1 ≤ ns → ko_c ns no OK OS OC) (ho : ky_o no OK OS OC okY osY ocY) (hl : lim ≤ 60) (h2 : nk ≤ 2) (hko : ∀ k, k < nk → koY k = nI (KO k) ∧ KO k < no) (hkf : ∀ k, k < nk → kfY k = KF k) {di : Bool}
    {hb : Nat → Bool} (ehb : hb = hq_b N D ns nc S CS CC CO CI CW) {jo : Bool} {g0 : Nat} (ejo : jo = (decide (cn_b (fun k => decide (OK k = 0)) no < no) || di)) (eg0 : g0 = if cn_b (fun k => decide (OK k = 0)) no = 0 then 1 else 0)
    (hbad : (ns = 0 ∨ no = 0) → post (-1) (opY, nI ns, nI nc, nI no, nI nk, nI lim, bo_i di, cmY, 0, wiY, ceY, oceY, bceY, maY, omaY, bmaY, unY, rqY, bunY, brqY, rfY, acY, brfY, bacY, srY, csY, ccY, cpY, cwY, okY, osY, ocY, koY, ciY, kfY, cbY, goY, rsY, geY, keY))
    (h1 : 1 ≤ ns → 1 ≤ no → ∀ n, n = (gr_s (al_b no OK (ou_v D S OS OC)) jo g0 (se_l hb 4096) (cn_b hb 4096)).1 → n ≤ 60 → ∀ cm cb go rs, re_q n no rs (so_a nk KO KF (ru_r OK OS (ou_v D S OS OC) (ou_w D S OS OC) (se_l hb 4096) (gr_g (al_b no OK (ou_v D S OS OC)) jo g0 (se_l hb 4096)) (gr_s (al_b no OK (ou_v D S OS OC)) jo g0 (se_l hb 4096) (cn_b hb 4096)).2 (cn_b hb 4096)) n) → post (nI (ru_n n lim)) (opY, nI ns, nI nc, nI no, nI nk, nI lim, bo_i di, cm, nI (ru_n n lim), nI no, ceY, oceY, bceY, maY, omaY, bmaY, unY, rqY, bunY, brqY, rfY, acY, brfY, bacY, srY, csY, ccY, cpY, cwY, okY, osY, ocY, koY, ciY, kfY, cb, go, rs, geY, keY))
    (h0 : 1 ≤ ns → 1 ≤ no → 60 < (gr_s (al_b no OK (ou_v D S OS OC)) jo g0 (se_l hb 4096) (cn_b hb 4096)).1 → ∀ cm wi cb go rs, post (-4) (opY, nI ns, nI nc, nI no, nI nk, nI lim, bo_i di, cm, 0, wi, ceY, oceY, bceY, maY, omaY, bmaY, unY, rqY, bunY, brqY, rfY, acY, brfY, bacY, srY, csY, ccY, cpY, cwY, okY, osY, ocY, koY, ciY, kfY, cb, go, rs, geY, keY)) :
    wpY_run post (opY, nI ns, nI nc, nI no, nI nk, nI lim, bo_i di, cmY, rrY, wiY, ceY, oceY, bceY, maY, omaY, bmaY, unY, rqY, bunY, brqY, rfY, acY, brfY, bacY, srY, csY, ccY, cpY, cwY, okY, osY, ocY, koY, ciY, kfY, cbY, goY, rsY, geY, keY) := by
  have h3 := hck.1
  have hS := hck.2.2.1
  refine pk_eq ns 0 (fun z => hbad (Or.inl z)) (fun zs => pk_eq no 0 (fun z => hbad (Or.inr z)) (fun zo => ?_))
  have h1s : 1 ≤ ns := by omega
  have h1o : 1 ≤ no := by omega
  have hk := hk h1s
  have h1 := h1 h1s h1o
  have h0 := h0 h1s h1o
  refine ym_list hC hck hsr hcy ehb (fun cb hcb' => ?_)
  dsimp only
  have hM : cn_b hb 4096 ≤ 4096 := cn_le hb 4096
  have hcb : ∀ i, i < cn_b hb 4096 → cb i = nI (se_l hb 4096 i) ∧ se_l hb 4096 i < 4096 ∧ ∀ s, s < ns → ro_w (se_l hb 4096 i) s < N (S s) := by
    intro i hi
    obtain ⟨x1, x2, x3⟩ := se_i (f := hb) 4096 i hi
    refine ⟨hcb' i hi, x1, fun s hs => ?_⟩
    rw [ehb] at x2
    have := (hq_i.mp x2).1 s (by omega)
    unfold nn_f at this
    rw [if_pos hs, ← ehb] at this
    exact this
  generalize cn_b hb 4096 = M at *
  generalize se_l hb 4096 = C at *
  refine loop_0 (fun n k (x : Int32 × Int32) => wY_run_39 post opY (nI ns) (nI nc) (nI no) (nI nk) (nI lim) (bo_i di) (nI M) 0 (nI no) ceY oceY bceY maY omaY bmaY unY rqY bunY brqY rfY acY brfY bacY srY csY ccY cpY cwY okY osY ocY koY ciY kfY cb goY rsY geY keY n x.1 x.2 (nI k)) (fun k x => ∃ a b : Bool, x.1 = bo_i a ∧ x.2 = bo_i b ∧ (a = true ↔ ∀ k', k' < k → OK k' = 0) ∧ (b = true ↔ ∀ k', k' < k → OK k' ≠ 0)) no (1, 1) ⟨true, true, rfl, rfl, ⟨fun _ => lt_0, fun _ => rfl⟩, ⟨fun _ => lt_0, fun _ => rfl⟩⟩ ?_ ?_
  · rintro n ⟨x1, x2⟩ ⟨a, b, e1, e2, ha, hbn⟩
    have e1 : x1 = bo_i a := e1
    have e2 : x2 = bo_i b := e2
    subst e1 e2
    refine br_t (nI_le (Nat.le_refl _) (by omega)) ?_
    cases a with
    | true =>
      have hall := ha.mp rfl
      have epl := pl_all.mpr hall
      rw [epl] at ejo eg0
      rw [decide_eq_false (Nat.lt_irrefl _), Bool.false_or] at ejo
      rw [if_neg zo] at eg0
      subst ejo eg0
      refine br_f (by decide : ¬ bo_i true = 0) (ym_plain hC h3 hS hsr hk ho hM hcb hall (fun hle rs hrs => ?_) (fun hgt rs => ?_))
      · refine ym_154 (by omega) hl hk4 h2 hko hkf (fun _ => fun g k hg hk' => ?_) (fun _ rs' hrs' => h1 _ rfl hle _ _ _ _ hrs') (fun z => absurd hle (by omega))
        rw [hrs g k hg hk']
        unfold ru_r
        rw [if_pos (hall k hk')]
      · exact ym_154 (n := 61) (r := fun _ _ => 0) (by decide) hl hk4 h2 hko hkf (fun z => absurd z (by decide)) (fun z => absurd z (by decide)) (fun _ => h0 hgt _ _ _ _ _)
    | false =>
      have hnall : ¬ ∀ k, k < no → OK k = 0 := fun z => absurd (ha.mpr z) (by decide)
      have hlt : cn_b (fun k => decide (OK k = 0)) no < no := by
        have := cn_le (fun k => decide (OK k = 0)) no
        rcases Nat.lt_or_ge (cn_b (fun k => decide (OK k = 0)) no) no with z | z
        · exact z
        · exact absurd (pl_all.mp (by omega)) hnall
      rw [decide_eq_true hlt, Bool.true_or] at ejo
      refine br_t rfl ?_
      cases b with
      | false =>
        have hsome : ¬ ∀ k, k < no → OK k ≠ 0 := fun z => absurd (hbn.mpr z) (by decide)
        rw [if_neg (fun z => hsome (pl_none.mp z))] at eg0
        subst ejo eg0
        refine br_t rfl (ym_groups hC h3 hS hsr hk ho hM hcb (fun hle rs go hrs hgo => ?_) (fun hgt rs go => ?_))
        · have hgin : ∀ i, i < M → gr_g (al_b no OK (ou_v D S OS OC)) true 0 C i < (gr_s (al_b no OK (ou_v D S OS OC)) true 0 C M).1 := fun i hi => gr_in hi
          have h1 := h1 _ rfl hle
          clear h0
          generalize gr_s (al_b no OK (ou_v D S OS OC)) true 0 C M = sM at *
          generalize gr_g (al_b no OK (ou_v D S OS OC)) true 0 C = G at *
          refine loop_0 (fun m g s => wY_groups_70 _ (nI sM.1) m (nI g) opY (nI ns) (nI nc) (nI no) (nI nk) (nI lim) (bo_i di) (nI M) 0 (nI no) ceY oceY bceY maY omaY bmaY unY rqY bunY brqY rfY acY brfY bacY srY csY ccY cpY cwY okY osY ocY koY ciY kfY cb go s geY keY) (fun g s => (∀ g' k, g' < sM.1 → k < no → OK k = 0 → s (4 * g' + k) = ou_v D S OS OC (sM.2 g') k) ∧ ∀ g' k, g' < g → k < no → OK k ≠ 0 → s (4 * g' + k) = rv_v OK OS (ou_v D S OS OC) (ou_w D S OS OC) C G M g' k) sM.1 rs ⟨hrs, fun g' k hg' => absurd hg' (Nat.not_lt_zero _)⟩ ?_ ?_
          · intro m s hJ
            refine br_t (nI_le (Nat.le_refl _) (by omega)) (ym_154 (by omega) hl hk4 h2 hko hkf (fun _ => fun g k hg hk' => ?_) (fun _ rs' hrs' => h1 _ _ _ _ hrs') (fun z => absurd hle (by omega)))
            unfold ru_r
            by_cases e0 : OK k = 0
            · rw [if_pos e0]
              exact hJ.1 g k hg hk' e0
            · rw [if_neg e0]
              exact hJ.2 g k hg hk' e0
          · intro m g s hg hJ hm
            refine br_f (nI_ge hg (by omega)) (br_f (nI_ge (b := 61) (by omega) (by decide)) ?_)
            refine ym_fold (G := G) hC h3 hS hsr hk ho hM hcb (fun i hi => ⟨hgo i hi, by have := hgin i hi; omega⟩) (by omega) (fun rs2 f1 f2 f3 => nm_r (nI_1 g) (hm rs2 ⟨fun g' k hg' hk' e0 => ?_, fun g' k hg' hk' e0 => ?_⟩))
            · by_cases e : g' = g
              · subst e
                rw [f2 k hk' e0]
                exact hJ.1 g' k hg' hk' e0
              · rw [f1 g' k e (by omega)]
                exact hJ.1 g' k hg' hk' e0
            · by_cases e : g' = g
              · subst e
                exact f3 k hk' e0
              · rw [f1 g' k e (by omega)]
                exact hJ.2 g' k (by omega) hk' e0
        · exact ym_154 (n := 61) (r := fun _ _ => 0) (by decide) hl hk4 h2 hko hkf (fun z => absurd z (by decide)) (fun z => absurd z (by decide)) (fun _ => h0 hgt _ _ _ _ _)
      | true =>
        have hnone := hbn.mp rfl
        rw [if_pos (pl_none.mpr hnone)] at eg0
        subst ejo eg0
        have hone := one_s (V := ou_v D S OS OC) (C := C) hnone
        have h1 := h1 1 (hone M).1.symm (by decide)
        refine br_f (by decide) ?_
        refine loop_0 (fun m i s => wY_run_112 post opY (nI ns) (nI nc) (nI no) (nI nk) (nI lim) (bo_i di) (nI M) 0 (nI no) m (nI i) ceY oceY bceY maY omaY bmaY unY rqY bunY brqY rfY acY brfY bacY srY csY ccY cpY cwY okY osY ocY koY ciY kfY cb s rsY geY keY) (fun i s => ∀ j, j < i → s j = nI 0) M goY lt_0 ?_ ?_
        · intro m go hgo
          refine br_t (nI_le (Nat.le_refl _) (by omega)) ?_
          refine ym_fold (G := gr_g (al_b no OK (ou_v D S OS OC)) true 1 C) (g := 0) hC h3 hS hsr hk ho hM hcb (fun i hi => ⟨by rw [hgo i hi, (hone i).2], by rw [(hone i).2]; decide⟩) (by decide) (fun rs2 f1 f2 f3 => ?_)
          refine ym_154 (n := 1) (by decide) hl hk4 h2 hko hkf (fun _ => fun g k hg hk' => ?_) (fun _ rs' hrs' => h1 _ _ _ _ hrs') (fun z => absurd z (by decide))
          have : g = 0 := by omega
          subst this
          unfold ru_r
          rw [if_neg (hnone k hk')]
          exact f3 k hk' (hnone k hk')
        · intro m i s hi hI hm
          refine br_f (nI_ge hi (by omega)) ⟨vp_in_nI (by omega) (by decide), nm_r (e' := upd s i (nI 0)) (by rw [nI_clamp (by omega)]; rfl) (nm_r (nI_1 i) (hm _ (lt_s (fun j hj => ?_) pk_us)))⟩
          rw [pk_un (by omega)]
          exact hI j hj
  · rintro n k ⟨x1, x2⟩ hkn ⟨a, b, e1, e2, ha, hbn⟩ hn
    have e1 : x1 = bo_i a := e1
    have e2 : x2 = bo_i b := e2
    subst e1 e2
    have hv : vp_in (nI k) 4 := vp_in_nI (by omega) (by decide)
    have o1 := (ho k hkn).1
    have k7 := (hk.2 k hkn).1
    have ek : (nI k).toNatClampNeg = k := nI_clamp (by omega)
    refine br_f (nI_ge hkn (by omega)) ?_
    have go : ∀ a' : Bool, (a' = true ↔ ∀ k', k' < k + 1 → OK k' = 0) → wY_run_65 post (wY_run_39 post opY (nI ns) (nI nc) (nI no) (nI nk) (nI lim) (bo_i di) (nI M) 0 (nI no) ceY oceY bceY maY omaY bmaY unY rqY bunY brqY rfY acY brfY bacY srY csY ccY cpY cwY okY osY ocY koY ciY kfY cb goY rsY geY keY n) (bo_i b) (nI k) (bo_i a') opY (nI ns) (nI nc) (nI no) (nI nk) (nI lim) (bo_i di) (nI M) 0 (nI no) ceY oceY bceY maY omaY bmaY unY rqY bunY brqY rfY acY brfY bacY srY csY ccY cpY cwY okY osY ocY koY ciY kfY cb goY rsY geY keY := by
      intro a' ha'
      have fin : ∀ b' : Bool, (b' = true ↔ ∀ k', k' < k + 1 → OK k' ≠ 0) → wY_run_39 post opY (nI ns) (nI nc) (nI no) (nI nk) (nI lim) (bo_i di) (nI M) 0 (nI no) ceY oceY bceY maY omaY bmaY unY rqY bunY brqY rfY acY brfY bacY srY csY ccY cpY cwY okY osY ocY koY ciY kfY cb goY rsY geY keY n (bo_i a') (bo_i b') (nI (k + 1)) := fun b' hb' => hn (bo_i a', bo_i b') ⟨a', b', rfl, rfl, ha', hb'⟩
      cases b with
      | false => exact br_t rfl (nm_r (nI_1 k) (fin false ⟨fun z => absurd z (by decide), fun z => absurd (hbn.mpr (fun k' hk' => z k' (by omega))) (by decide)⟩))
      | true =>
        refine br_f (by decide) ⟨hv, ?_⟩
        rw [ek, o1]
        by_cases e0 : OK k = 0
        · exact br_t (by rw [e0]; rfl) (nm_r (nI_1 k) (fin false ⟨fun z => absurd z (by decide), fun z => absurd e0 (z k (by omega))⟩))
        · exact br_f (op_ne (b := 0) (by omega) (by decide) e0) (nm_r (nI_1 k) (fin true ⟨fun _ => lt_s (hbn.mp rfl) e0, fun _ => rfl⟩))
    cases a with
    | false => exact br_t rfl (go false ⟨fun z => absurd z (by decide), fun z => absurd (ha.mpr (fun k' hk' => z k' (by omega))) (by decide)⟩)
    | true =>
      refine br_f (by decide : ¬ bo_i true = 0) ⟨hv, ?_⟩
      rw [ek, o1]
      by_cases e0 : OK k = 0
      · exact br_t (by rw [e0]; rfl) (go true ⟨fun _ => lt_s (ha.mp rfl) e0, fun _ => rfl⟩)
      · exact br_f (op_ne (b := 0) (by omega) (by decide) e0) (go false ⟨fun z => absurd z (by decide), fun z => absurd (z k (by omega)) e0⟩)
end
end
section
section
variable {toX soX coX ouX kyX moX diX rrX rwX : Int32} {ceX sceX fvX ovX rsX : Nat → Int64} {rcX unX rqX taX acX srcX sunX srqX staX sacX stX cfX cpX chX csX okX ocX koX kfX cbX mkX rtX : Nat → Int32} {N : Nat → Nat} {D : Nat → Nat → Int64} {ns nc no nk lim : Nat} {S CS CC CO OK OS OC KO : Nat → Nat} {CI : Nat → Bool} {CW : Nat → Int32} {KF : Nat → Int32}
theorem xv_run {post : Int32 → SX → Prop} (hC : db_xc N D ceX rcX) (hck : ck_c ns nc S CS CC CO CI CW) (hst : ∀ s, s < ns → stX s = nI (S s)) (hcx : cx_c nc CS CC CO CI CW cfX cpX chX csX) (hk4 : no ≤ 4) (hk : 1 ≤ ns → ko_c ns no OK OS OC) (ho : kx_o no OK OS OC okX ocX) (hl : lim ≤ 60) (h2 : nk ≤ 2) (hko : ∀ k, k < nk → koX k = nI (KO k) ∧ KO k < no) (hkf : ∀ k, k < nk → kfX k = KF k) {di : Bool} (hrng : ∀ c r, c < 9 → r < N (c / 3) → D c r = nu_l ∨ ∃ z : Int32, D c r = z.toInt64)
    {hb : Nat → Bool} (ehb : hb = hq_b N D ns nc S CS CC CO CI CW) {jo : Bool} {g0 : Nat} (ejo : jo = (decide (cn_b (fun k => decide (OK k = 0)) no < no) || di)) (eg0 : g0 = if cn_b (fun k => decide (OK k = 0)) no = 0 then 1 else 0)
    (hbad : (ns = 0 ∨ no = 0) → post (-1) (toX, nI ns, nI nc, nI no, nI nk, nI lim, bo_i di, 0, rwX, ceX, rcX, unX, rqX, taX, acX, sceX, srcX, sunX, srqX, staX, sacX, stX, cfX, cpX, chX, csX, okX, ocX, koX, kfX, cbX, mkX, fvX, ovX, rsX, rtX))
    (h1 : 1 ≤ ns → 1 ≤ no → ∀ n, n = (gr_s (al_b no OK (ou_v D S OS OC)) jo g0 (se_l hb 4096) (cn_b hb 4096)).1 → n ≤ 60 → ∀ cb ov rs rt, re_q n no rs (so_a nk KO KF (ru_r OK OS (ou_v D S OS OC) (ou_w D S OS OC) (se_l hb 4096) (gr_g (al_b no OK (ou_v D S OS OC)) jo g0 (se_l hb 4096)) (gr_s (al_b no OK (ou_v D S OS OC)) jo g0 (se_l hb 4096) (cn_b hb 4096)).2 (cn_b hb 4096)) n) → post (nI (ru_n n lim)) (toX, nI ns, nI nc, nI no, nI nk, nI lim, bo_i di, nI (ru_n n lim), nI no, ceX, rcX, unX, rqX, taX, acX, sceX, srcX, sunX, srqX, staX, sacX, stX, cfX, cpX, chX, csX, okX, ocX, koX, kfX, cb, mkX, fvX, ov, rs, rt))
    (h0 : 1 ≤ ns → 1 ≤ no → 60 < (gr_s (al_b no OK (ou_v D S OS OC)) jo g0 (se_l hb 4096) (cn_b hb 4096)).1 → ∀ cb ov rs rt, post (-4) (toX, nI ns, nI nc, nI no, nI nk, nI lim, bo_i di, 0, rwX, ceX, rcX, unX, rqX, taX, acX, sceX, srcX, sunX, srqX, staX, sacX, stX, cfX, cpX, chX, csX, okX, ocX, koX, kfX, cb, mkX, fvX, ov, rs, rt)) :
    wpX_run post (toX, nI ns, nI nc, nI no, nI nk, nI lim, bo_i di, rrX, rwX, ceX, rcX, unX, rqX, taX, acX, sceX, srcX, sunX, srqX, staX, sacX, stX, cfX, cpX, chX, csX, okX, ocX, koX, kfX, cbX, mkX, fvX, ovX, rsX, rtX) := by
  have h3 := hck.1
  refine pk_eq ns 0 (fun z => hbad (Or.inl z)) (fun zs => pk_eq no 0 (fun z => hbad (Or.inr z)) (fun zo => ?_))
  have h1s : 1 ≤ ns := by have := hck.1; omega
  have h1o : 1 ≤ no := by omega
  have hk := hk h1s
  have h1 := h1 h1s h1o _ rfl
  have h0 := h0 h1s h1o
  -- from a state that has what the place 0 asks
  have main : ∀ rs rt, xq_I N D S OK OS OC no jo g0 hb 0 (nI g0, cbX, ovX, rs, rt) → wX_run_34 post (nI (cn_b (fun k => decide (OK k = 0)) no)) toX (nI ns) (nI nc) (nI no) (nI nk) (nI lim) (bo_i di) (nI g0) rwX ceX rcX unX rqX taX acX sceX srcX sunX srqX staX sacX stX cfX cpX chX csX okX ocX koX kfX cbX mkX fvX ovX rs rt := by
    intro rs rt hstart
    have go : wX_run_55 post (bo_i jo) toX (nI ns) (nI nc) (nI no) (nI nk) (nI lim) (bo_i di) (nI g0) rwX ceX rcX unX rqX taX acX sceX srcX sunX srqX staX sacX stX cfX cpX chX csX okX ocX koX kfX cbX mkX fvX ovX rs rt := by
      unfold wX_run_55
      refine xm_combs hC hck hst hcx hk ho hrng ehb hstart (fun hle cb ov rs' rt' hI => br_f (by decide) ?_) (fun hgt rr cb ov rs' rt' => br_t rfl (h0 hgt cb ov rs' rt'))
      have h1 := h1 hle
      unfold rx_I at hI
      generalize gr_s (al_b no OK (ou_v D S OS OC)) jo g0 (se_l hb 4096) (cn_b hb 4096) = sM at *
      refine xm_order hle hk4 h2 hko hkf (r := ru_r OK OS (ou_v D S OS OC) (ou_w D S OS OC) (se_l hb 4096) (gr_g (al_b no OK (ou_v D S OS OC)) jo g0 (se_l hb 4096)) sM.2 (cn_b hb 4096)) (fun g k hg hk' => ?_) (fun rs2 hr2 => ?_)
      · obtain ⟨i1, i2, i3⟩ := hI g k hg hk'
        unfold ru_r
        by_cases e0 : OK k = 0
        · rw [if_pos e0]
          exact i1 e0
        · rw [if_neg e0]
          exact i2 e0
      · have h1 := h1 cb ov rs2 rt' hr2
        refine pk_le sM.1 lim (fun w => ?_) (fun w => ?_)
        · rw [show ru_n sM.1 lim = sM.1 from if_pos w] at h1
          exact h1
        · rw [show ru_n sM.1 lim = lim from if_neg (by omega)] at h1
          exact h1
    have hle := cn_le (fun k => decide (OK k = 0)) no
    refine pk_lt (cn_b (fun k => decide (OK k = 0)) no) no (fun z => ?_) (fun z => ?_)
    · have e : jo = true := by
        rw [ejo, decide_eq_true z, Bool.true_or]
      rw [e] at go
      exact go
    · have e : jo = di := by
        rw [ejo, decide_eq_false (by omega), Bool.false_or]
      rw [e] at go
      cases di with
      | false => exact br_t rfl go
      | true => exact br_f (by decide) go
  refine xm_count hk ho ?_
  refine pk_eq (cn_b (fun k => decide (OK k = 0)) no) 0 (fun z => ?_) (fun z => ?_) rfl rfl (by have := cn_le (fun k => decide (OK k = 0)) no; omega) (by decide)
  · rw [if_pos z] at eg0
    have hnone := pl_none.mp z
    refine xm_startRow (m := 0) hk ho (by decide) (fun rs rt a b => ?_)
    subst eg0
    refine main rs rt ⟨rfl, (by decide : (1 : Nat) ≤ 60), ?_⟩
    intro g k hg hk'
    have hg : g < 1 := hg
    have : g = 0 := by omega
    subst this
    obtain ⟨b1, b2⟩ := b k hk'
    refine ⟨fun e => absurd e (hnone k hk'), fun e => ?_, fun e => ?_⟩
    · show rs (4 * 0 + k) = _
      rw [b1]
      exact sr_rv (hk.2 k hk').1 e (fun i hi => absurd hi (Nat.not_lt_zero _))
    · show mi_m _ _ (rt (4 * 0 + k)) _
      rw [b2]
      exact mi_0 (fun i hi => absurd hi (Nat.not_lt_zero _))
  · rw [if_neg z] at eg0
    subst eg0
    exact main rsX rtX ⟨rfl, (by decide : (0 : Nat) ≤ 60), fun g k hg => absurd hg (Nat.not_lt_zero _)⟩
end
theorem i_vc_run {k : Nat} {u : SX} {v : SY} (I : i_Rel k u v) (hk : k + 6 ≤ 3072) : wpX_run (fun r u' => wpY_run (fun r' v' => r' = r ∧ i_Rel (k + 6) u' v') v) u := by
  rcases u with ⟨toX, soX, coX, ouX, kyX, moX, diX, rrX, rwX, ceX, rcX, unX, rqX, taX, acX, sceX, srcX, sunX, srqX, staX, sacX, stX, cfX, cpX, chX, csX, okX, ocX, koX, kfX, cbX, mkX, fvX, ovX, rsX, rtX⟩
  rcases v with ⟨opY, soY, coY, ouY, kyY, liY, diY, cmY, rrY, wiY, ceY, oceY, bceY, maY, omaY, bmaY, unY, rqY, bunY, brqY, rfY, acY, brfY, bacY, srY, csY, ccY, cpY, cwY, okY, osY, ocY, koY, ciY, kfY, cbY, goY, rsY, geY, keY⟩
  obtain ⟨hdb, hsv, hdr, hli, hre⟩ := I
  have keep := hdb
  have keepd := hdr
  obtain ⟨N, D, U, R, T, A, hx, hxk, hy, hyk, hK⟩ := hdb
  obtain ⟨ns, nc, no, nk, S, CS, CC, CO, CI, CW, OK, OS, OC, KO, ⟨rfl, rfl, rfl, rfl⟩, ⟨rfl, rfl, rfl, rfl⟩, hS, hc, ho, hq, hKd⟩ := hdr
  have keepl := hli
  obtain ⟨el, ed, ⟨lim, hlim, rfl⟩, di, rfl⟩ := hli
  subst el ed
  have hck : ck_c ns nc S CS CC CO CI CW := ⟨hKd.1.1, hKd.1.2.1, hKd.2.1, hKd.2.2.1⟩
  have hcx : cx_c nc CS CC CO CI CW cfX cpX chX csX := fun k hk => (hc k hk).1
  have hcy : cy_c nc CS CC CO CI CW csY ccY cpY ciY cwY := fun k hk => (hc k hk).2
  have hst : ∀ s, s < ns → stX s = nI (S s) := fun s hs => (hS s hs).1
  have hsr : ∀ s, s < ns → srY s = nI (S s) := fun s hs => (hS s hs).2
  have hox : kx_o no OK OS OC okX ocX := fun k hk => (ho k hk).1
  have hoy : ky_o no OK OS OC okY osY ocY := fun k hk => (ho k hk).2
  have hko : 1 ≤ ns → ko_c ns no OK OS OC := by
    intro h
    refine ⟨hKd.1.2.2.1, fun k hk => ?_⟩
    obtain ⟨a, b, c, d⟩ := hKd.2.2.2.1 k hk
    refine ⟨a, ?_, d⟩
    by_cases e : OK k = 1
    · rw [(c e).1]
      exact h
    · exact b e
  have hkx : ∀ k, k < nk → koX k = nI (KO k) ∧ KO k < no := fun k hk => ⟨(hq k hk).1, hKd.2.2.2.2 k hk⟩
  have hky : ∀ k, k < nk → koY k = nI (KO k) ∧ KO k < no := fun k hk => ⟨(hq k hk).2.1, hKd.2.2.2.2 k hk⟩
  have hkfy : ∀ k, k < nk → kfY k = kfX k := fun k hk => (hq k hk).2.2.symm
  have h4 := hKd.1.2.2.1
  have h2 := hKd.1.2.2.2
  refine xv_run (KF := kfX) hx hck hst hcx h4 hko hox hlim h2 hkx (fun _ _ => rfl) hK.2 rfl rfl rfl (fun hbad => ?_) (fun hs1 ho1 n en hle cb ov rs rt hr => ?_) (fun hs1 ho1 hgt cb ov rs rt => ?_)
  · refine yv_run (KF := kfX) hy hck hsr hcy h4 hko hoy hlim h2 hky hkfy rfl rfl rfl (fun _ => ⟨rfl, keep, hsv, keepd, keepl, 0, by decide, rfl, rfl, Or.inl rfl⟩) (fun a b => ?_) (fun a b => ?_)
    · rcases hbad with z | z <;> omega
    · rcases hbad with z | z <;> omega
  · refine yv_run (KF := kfX) hy hck hsr hcy h4 hko hoy hlim h2 hky hkfy rfl rfl rfl (fun z => ?_) (fun _ _ n' en' hle' cm cb' go rs' hr' => ?_) (fun _ _ hgt => ?_)
    · rcases z with z | z <;> omega
    · have e : n' = n := en'.trans en.symm
      subst e
      have hm : ru_n n' lim ≤ n' ∧ ru_n n' lim ≤ 60 := by
        unfold ru_n
        split <;> omega
      refine ⟨rfl, keep, hsv, keepd, keepl, ru_n n' lim, hm.2, rfl, rfl, Or.inr ⟨no, h4, rfl, rfl, fun i k hi hk' => ?_⟩⟩
      rw [hr i k (by omega) hk', hr' i k (by omega) hk']
    · rw [en] at hle
      omega
  · refine yv_run (KF := kfX) hy hck hsr hcy h4 hko hoy hlim h2 hky hkfy rfl rfl rfl (fun z => ?_) (fun _ _ n' en' hle' => ?_) (fun _ _ hgt' cm wi cb' go rs' => ⟨rfl, keep, hsv, keepd, keepl, 0, by decide, rfl, rfl, Or.inl rfl⟩)
    · rcases z with z | z <;> omega
    · rw [en'] at hle'
      omega
end
