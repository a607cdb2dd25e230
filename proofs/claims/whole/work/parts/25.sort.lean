/-! the order of the result -/
def so_w (r : Nat → Nat → Int64) (a b : Nat) : Nat → Nat → Int64 := fun g => if g = a then r b else if g = b then r a else r g
def be_p (nk : Nat) (KO : Nat → Nat) (KF : Nat → Int32) (r : Nat → Nat → Int64) (a b : Nat) : Prop := ∃ i, i < nk ∧ (∀ j, j < i → r a (KO j) = r b (KO j)) ∧ r a (KO i) ≠ r b (KO i) ∧ (if KF i = 0 then r a (KO i) < r b (KO i) else r b (KO i) < r a (KO i))
noncomputable def so_i (nk : Nat) (KO : Nat → Nat) (KF : Nat → Int32) : Nat → (Nat → Nat → Int64) → Nat → Nat → Int64
  | 0 => fun r => r
  | j + 1 => fun r => @ite _ (be_p nk KO KF r (j + 1) j) (Classical.propDecidable _) (so_i nk KO KF j (so_w r (j + 1) j)) r
theorem so_t {nk : Nat} {KO : Nat → Nat} {KF : Nat → Int32} {j : Nat} {r : Nat → Nat → Int64} (h : be_p nk KO KF r (j + 1) j) : so_i nk KO KF (j + 1) r = so_i nk KO KF j (so_w r (j + 1) j) := if_pos h
theorem so_f {nk : Nat} {KO : Nat → Nat} {KF : Nat → Int32} {j : Nat} {r : Nat → Nat → Int64} (h : ¬ be_p nk KO KF r (j + 1) j) : so_i nk KO KF (j + 1) r = r := if_neg h
noncomputable def so_a (nk : Nat) (KO : Nat → Nat) (KF : Nat → Int32) (r : Nat → Nat → Int64) : Nat → Nat → Nat → Int64
  | 0 => r
  | i + 1 => so_i nk KO KF i (so_a nk KO KF r i)
def re_q (n no : Nat) (rs : Nat → Int64) (r : Nat → Nat → Int64) : Prop := ∀ g k, g < n → k < no → rs (4 * g + k) = r g k
section
variable {toX soX coX ouX kyX moX diX rrX rwX : Int32} {ceX sceX fvX ovX rsX : Nat → Int64} {rcX unX rqX taX acX srcX sunX srqX staX sacX stX cfX cpX chX csX okX ocX koX kfX cbX mkX rtX : Nat → Int32} {opY soY coY ouY kyY liY diY cmY rrY wiY : Int32} {ceY oceY bceY rsY : Nat → Int64} {maY omaY bmaY unY rqY bunY brqY rfY acY brfY bacY srY csY ccY cpY cwY okY osY ocY koY ciY kfY cbY goY geY keY : Nat → Int32} {n no nk : Nat} {KO : Nat → Nat} {KF : Nat → Int32} {r : Nat → Nat → Int64}
theorem xm_before {post : Int32 → Prop} (hn : n ≤ 60) (h4 : no ≤ 4) (h2 : nk ≤ 2) (hko : ∀ k, k < nk → koX k = nI (KO k) ∧ KO k < no) (hkf : ∀ k, k < nk → kfX k = KF k) (hr : re_q n no rsX r) {a b : Nat} (ha : a < n) (hb : b < n) (h1 : be_p nk KO KF r a b → post 1) (h0 : ¬ be_p nk KO KF r a b → post 0) : wpX_comesBefore post (toX, soX, coX, ouX, nI nk, moX, diX, rrX, rwX, ceX, rcX, unX, rqX, taX, acX, sceX, srcX, sunX, srqX, staX, sacX, stX, cfX, cpX, chX, csX, okX, ocX, koX, kfX, cbX, mkX, fvX, ovX, rsX, rtX) (nI a) (nI b) := by
  refine loop_0 (fun m i (_ : Unit) => wX_comesBefore_2 post (nI a) (nI b) toX soX coX ouX (nI nk) moX diX rrX rwX ceX rcX unX rqX taX acX sceX srcX sunX srqX staX sacX stX cfX cpX chX csX okX ocX koX kfX cbX mkX fvX ovX rsX rtX m (nI i)) (fun i _ => ∀ j, j < i → r a (KO j) = r b (KO j)) nk () lt_0 ?_ ?_
  · intro m _ hI
    refine br_t (nI_le (Nat.le_refl _) (by omega)) (h0 (fun z => ?_))
    obtain ⟨i, hi, _, hne, _⟩ := z
    exact hne (hI i hi)
  · intro m i _ hi hI hm
    have hv : vp_in (nI i) 2 := vp_in_nI (by omega) (by decide)
    obtain ⟨e1, e2⟩ := hko i hi
    refine br_f (nI_ge hi (by omega)) ⟨hv, ?_⟩
    rw [nI_clamp (show i < 2 ^ 31 by omega), e1, nz_4, nz_4, nI_clamp (show 4 * a + KO i < 2 ^ 31 by omega), nI_clamp (show 4 * b + KO i < 2 ^ 31 by omega), hr a _ ha e2, hr b _ hb e2, hkf i hi]
    refine ⟨vp_in_nI (by omega) (by decide), nm_e ⟨hv, vp_in_nI (by omega) (by decide), nm_e ?_⟩⟩
    have only : ∀ i', i' < nk → (∀ j, j < i' → r a (KO j) = r b (KO j)) → r a (KO i') ≠ r b (KO i') → r a (KO i) ≠ r b (KO i) → i' = i := by
      intro i' hi' hj' hne' hne
      rcases Nat.lt_trichotomy i' i with z | z | z
      · exact absurd (hI i' z) hne'
      · exact z
      · exact absurd (hj' i z) hne
    by_cases e : r a (KO i) = r b (KO i)
    · exact br_t e (nm_r (nI_1 i) (hm () (lt_s hI e)))
    · refine br_f e ⟨hv, ?_⟩
      by_cases f : KF i = 0
      · refine br_t f (br_c (fun z => h0 (fun w => ?_)) (fun z => h1 ⟨i, hi, hI, e, by rw [if_pos f]; exact Int64.not_le.mp z⟩))
        obtain ⟨i', hi', hj', hne', hc'⟩ := w
        have := only i' hi' hj' hne' e
        subst this
        rw [if_pos f] at hc'
        exact absurd hc' (Int64.not_lt.mpr z)
      · refine br_f f (br_c (fun z => h0 (fun w => ?_)) (fun z => h1 ⟨i, hi, hI, e, by rw [if_neg f]; exact Int64.not_le.mp z⟩))
        obtain ⟨i', hi', hj', hne', hc'⟩ := w
        have := only i' hi' hj' hne' e
        subst this
        rw [if_neg f] at hc'
        exact absurd hc' (Int64.not_lt.mpr z)
theorem ym_after {post : Int32 → Prop} (hn : n ≤ 60) (h4 : no ≤ 4) (h2 : nk ≤ 2) (hko : ∀ k, k < nk → koY k = nI (KO k) ∧ KO k < no) (hkf : ∀ k, k < nk → kfY k = KF k) (hr : re_q n no rsY r) {a b : Nat} (ha : a < n) (hb : b < n) (h1 : be_p nk KO KF r a b → post 1) (h0 : ¬ be_p nk KO KF r a b → post 0) : wpY_after post (opY, soY, coY, ouY, nI nk, liY, diY, cmY, rrY, wiY, ceY, oceY, bceY, maY, omaY, bmaY, unY, rqY, bunY, brqY, rfY, acY, brfY, bacY, srY, csY, ccY, cpY, cwY, okY, osY, ocY, koY, ciY, kfY, cbY, goY, rsY, geY, keY) (nI b) (nI a) := by
  refine loop_0 (fun m i (_ : Unit) => wY_after_2 post (nI b) (nI a) opY soY coY ouY (nI nk) liY diY cmY rrY wiY ceY oceY bceY maY omaY bmaY unY rqY bunY brqY rfY acY brfY bacY srY csY ccY cpY cwY okY osY ocY koY ciY kfY cbY goY rsY geY keY m (nI i)) (fun i _ => ∀ j, j < i → r a (KO j) = r b (KO j)) nk () lt_0 ?_ ?_
  · intro m _ hI
    refine br_t (nI_le (Nat.le_refl _) (by omega)) (h0 (fun z => ?_))
    obtain ⟨i, hi, _, hne, _⟩ := z
    exact hne (hI i hi)
  · intro m i _ hi hI hm
    have hv : vp_in (nI i) 2 := vp_in_nI (by omega) (by decide)
    obtain ⟨e1, e2⟩ := hko i hi
    refine br_f (nI_ge hi (by omega)) ⟨hv, ?_⟩
    rw [nI_clamp (show i < 2 ^ 31 by omega), e1, nz_4, nz_4, nI_clamp (show 4 * a + KO i < 2 ^ 31 by omega), nI_clamp (show 4 * b + KO i < 2 ^ 31 by omega), hr a _ ha e2, hr b _ hb e2, hkf i hi]
    refine ⟨vp_in_nI (by omega) (by decide), nm_e ⟨hv, vp_in_nI (by omega) (by decide), nm_e ?_⟩⟩
    have only : ∀ i', i' < nk → (∀ j, j < i' → r a (KO j) = r b (KO j)) → r a (KO i') ≠ r b (KO i') → r a (KO i) ≠ r b (KO i) → i' = i := by
      intro i' hi' hj' hne' hne
      rcases Nat.lt_trichotomy i' i with z | z | z
      · exact absurd (hI i' z) hne'
      · exact z
      · exact absurd (hj' i z) hne
    by_cases e : r a (KO i) = r b (KO i)
    · exact br_t e.symm (nm_r (nI_1 i) (hm () (lt_s hI e)))
    · refine br_f (fun z => e z.symm) ⟨hv, ?_⟩
      by_cases f : KF i = 0
      · refine br_t f (br_c (fun z => h0 (fun w => ?_)) (fun z => h1 ⟨i, hi, hI, e, by rw [if_pos f]; exact Int64.not_le.mp z⟩))
        obtain ⟨i', hi', hj', hne', hc'⟩ := w
        have := only i' hi' hj' hne' e
        subst this
        rw [if_pos f] at hc'
        exact absurd hc' (Int64.not_lt.mpr z)
      · refine br_f f (br_c (fun z => h0 (fun w => ?_)) (fun z => h1 ⟨i, hi, hI, e, by rw [if_neg f]; exact Int64.not_le.mp z⟩))
        obtain ⟨i', hi', hj', hne', hc'⟩ := w
        have := only i' hi' hj' hne' e
        subst this
        rw [if_neg f] at hc'
        exact absurd hc' (Int64.not_lt.mpr z)
/-- a swap by columns: after i columns -/
theorem sw_step {s rs : Nat → Int64} {a b i : Nat} (hab : a ≠ b) (hi : i < 4) (hI : ∀ g k, k < 4 → s (4 * g + k) = if k < i then (if g = a then rs (4 * b + k) else if g = b then rs (4 * a + k) else rs (4 * g + k)) else rs (4 * g + k)) : ∀ g k, k < 4 → vp_updL (vp_updL s (4 * a + i) (s (4 * b + i))) (4 * b + i) (s (4 * a + i)) (4 * g + k) = if k < i + 1 then (if g = a then rs (4 * b + k) else if g = b then rs (4 * a + k) else rs (4 * g + k)) else rs (4 * g + k) := by
  intro g k hk
  have ea := hI a i hi
  have eb := hI b i hi
  rw [if_neg (Nat.lt_irrefl _)] at ea eb
  by_cases ek : k = i
  · subst ek
    rw [if_pos (Nat.lt_succ_self _)]
    by_cases e1 : g = a
    · subst e1
      rw [pk_uLn (by omega), pk_uLs, if_pos rfl, eb]
    · rw [if_neg e1]
      by_cases e2 : g = b
      · subst e2
        rw [pk_uLs, if_pos rfl, ea]
      · rw [if_neg e2, pk_uLn (by omega), pk_uLn (by omega), hI g k hk, if_neg (Nat.lt_irrefl _)]
  · rw [pk_uLn (by omega), pk_uLn (by omega), hI g k hk]
    by_cases z : k < i
    · rw [if_pos z, if_pos (show k < i + 1 by omega)]
    · rw [if_neg z, if_neg (show ¬ k < i + 1 by omega)]
theorem sw_end {s rs : Nat → Int64} {a b m : Nat} (hm : no ≤ m) (h4 : no ≤ 4) (hr : re_q n no rs r) (ha : a < n) (hb : b < n) (hI : ∀ g k, k < 4 → s (4 * g + k) = if k < m then (if g = a then rs (4 * b + k) else if g = b then rs (4 * a + k) else rs (4 * g + k)) else rs (4 * g + k)) : re_q n no s (so_w r a b) := by
  intro g k hg hk
  rw [hI g k (by omega), if_pos (by omega)]
  unfold so_w
  by_cases e1 : g = a
  · rw [if_pos e1, if_pos e1]
    exact hr b k hb hk
  · rw [if_neg e1, if_neg e1]
    by_cases e2 : g = b
    · rw [if_pos e2, if_pos e2]
      exact hr a k ha hk
    · rw [if_neg e2, if_neg e2]
      exact hr g k hg hk
theorem so_sym {a b : Nat} (h : a ≠ b) : so_w r a b = so_w r b a := by
  funext g
  unfold so_w
  by_cases e1 : g = a
  · rw [if_pos e1, if_neg (by omega), if_pos e1]
  · rw [if_neg e1]
    by_cases e2 : g = b
    · rw [if_pos e2, if_pos e2]
    · rw [if_neg e2, if_neg e2, if_neg e1]
theorem xm_swap {post : SX → Prop} (hn : n ≤ 60) (h4 : no ≤ 4) (hr : re_q n no rsX r) {a b : Nat} (ha : a < n) (hb : b < n) (hab : a ≠ b) (h : ∀ rs, re_q n no rs (so_w r a b) → post (toX, soX, coX, nI no, kyX, moX, diX, rrX, rwX, ceX, rcX, unX, rqX, taX, acX, sceX, srcX, sunX, srqX, staX, sacX, stX, cfX, cpX, chX, csX, okX, ocX, koX, kfX, cbX, mkX, fvX, ovX, rs, rtX)) : wpX_swapResultRows post (toX, soX, coX, nI no, kyX, moX, diX, rrX, rwX, ceX, rcX, unX, rqX, taX, acX, sceX, srcX, sunX, srqX, staX, sacX, stX, cfX, cpX, chX, csX, okX, ocX, koX, kfX, cbX, mkX, fvX, ovX, rsX, rtX) (nI a) (nI b) := by
  refine loop_0 (fun m i s => wX_swapResultRows_2 post (nI a) (nI b) toX soX coX (nI no) kyX moX diX rrX rwX m (nI i) ceX rcX unX rqX taX acX sceX srcX sunX srqX staX sacX stX cfX cpX chX csX okX ocX koX kfX cbX mkX fvX ovX s rtX) (fun i s => ∀ g k, k < 4 → s (4 * g + k) = if k < i then (if g = a then rsX (4 * b + k) else if g = b then rsX (4 * a + k) else rsX (4 * g + k)) else rsX (4 * g + k)) no rsX (fun g k _ => by rw [if_neg (Nat.not_lt_zero _)]) ?_ ?_
  · intro m s hI
    exact br_t (nI_le (Nat.le_refl _) (by omega)) (h s (sw_end (Nat.le_refl _) h4 hr ha hb hI))
  · intro m i s hi hI hm
    have va : vp_in (4 * nI a + nI i) 240 := by rw [nz_4]; exact vp_in_nI (by omega) (by decide)
    have vb : vp_in (4 * nI b + nI i) 240 := by rw [nz_4]; exact vp_in_nI (by omega) (by decide)
    have ea : (4 * nI a + nI i).toNatClampNeg = 4 * a + i := by rw [nz_4, nI_clamp (by omega)]
    have eb : (4 * nI b + nI i).toNatClampNeg = 4 * b + i := by rw [nz_4, nI_clamp (by omega)]
    refine br_f (nI_ge hi (by omega)) ⟨va, nm_r (e' := s (4 * a + i)) (by rw [ea]) ⟨vb, va, nm_r (e' := vp_updL s (4 * a + i) (s (4 * b + i))) (by rw [ea, eb]) ⟨vb, nm_r (e' := vp_updL (vp_updL s (4 * a + i) (s (4 * b + i))) (4 * b + i) (s (4 * a + i))) (by rw [eb]) (nm_r (nI_1 i) (hm _ (sw_step hab (by omega) hI)))⟩⟩⟩
theorem ym_exch {post : SY → Prop} (hn : n ≤ 60) (h4 : no ≤ 4) (hr : re_q n no rsY r) {a b : Nat} (ha : a < n) (hb : b < n) (hab : a ≠ b) (h : ∀ rs, re_q n no rs (so_w r a b) → post (opY, soY, coY, ouY, kyY, liY, diY, cmY, rrY, wiY, ceY, oceY, bceY, maY, omaY, bmaY, unY, rqY, bunY, brqY, rfY, acY, brfY, bacY, srY, csY, ccY, cpY, cwY, okY, osY, ocY, koY, ciY, kfY, cbY, goY, rs, geY, keY)) : wpY_exchange post (opY, soY, coY, ouY, kyY, liY, diY, cmY, rrY, wiY, ceY, oceY, bceY, maY, omaY, bmaY, unY, rqY, bunY, brqY, rfY, acY, brfY, bacY, srY, csY, ccY, cpY, cwY, okY, osY, ocY, koY, ciY, kfY, cbY, goY, rsY, geY, keY) (nI a) (nI b) := by
  refine loop_0 (fun m i s => wY_exchange_2 post (nI a) (nI b) opY soY coY ouY kyY liY diY cmY rrY wiY m (nI i) ceY oceY bceY maY omaY bmaY unY rqY bunY brqY rfY acY brfY bacY srY csY ccY cpY cwY okY osY ocY koY ciY kfY cbY goY s geY keY) (fun i s => ∀ g k, k < 4 → s (4 * g + k) = if k < i then (if g = a then rsY (4 * b + k) else if g = b then rsY (4 * a + k) else rsY (4 * g + k)) else rsY (4 * g + k)) 4 rsY (fun g k _ => by rw [if_neg (Nat.not_lt_zero _)]) ?_ ?_
  · intro m s hI
    exact br_t (by decide) (h s (sw_end h4 h4 hr ha hb hI))
  · intro m i s hi hI hm
    have va : vp_in (4 * nI a + nI i) 250 := by rw [nz_4]; exact vp_in_nI (by omega) (by decide)
    have vb : vp_in (4 * nI b + nI i) 250 := by rw [nz_4]; exact vp_in_nI (by omega) (by decide)
    have ea : (4 * nI a + nI i).toNatClampNeg = 4 * a + i := by rw [nz_4, nI_clamp (by omega)]
    have eb : (4 * nI b + nI i).toNatClampNeg = 4 * b + i := by rw [nz_4, nI_clamp (by omega)]
    refine br_f (nI_ge (b := 4) hi (by decide)) ⟨va, nm_r (e' := s (4 * a + i)) (by rw [ea]) ⟨vb, va, nm_r (e' := vp_updL s (4 * a + i) (s (4 * b + i))) (by rw [ea, eb]) ⟨vb, nm_r (e' := vp_updL (vp_updL s (4 * a + i) (s (4 * b + i))) (4 * b + i) (s (4 * a + i))) (by rw [eb]) (nm_r (nI_1 i) (hm _ (sw_step hab (by omega) hI)))⟩⟩⟩
end
section
variable {toX soX coX ouX kyX moX diX rrX rwX : Int32} {ceX sceX fvX ovX rsX : Nat → Int64} {rcX unX rqX taX acX srcX sunX srqX staX sacX stX cfX cpX chX csX okX ocX koX kfX cbX mkX rtX : Nat → Int32} {opY soY coY ouY kyY liY diY cmY rrY wiY : Int32} {ceY oceY bceY rsY : Nat → Int64} {maY omaY bmaY unY rqY bunY brqY rfY acY brfY bacY srY csY ccY cpY cwY okY osY ocY koY ciY kfY cbY goY geY keY : Nat → Int32} {n no nk : Nat} {KO : Nat → Nat} {KF : Nat → Int32} {r : Nat → Nat → Int64}
theorem xm_ins {post : SX → Prop} {J : Int32 → (Int32) → (Int32) → (Int32) → (Int32) → (Int32) → (Int32) → (Int32) → (Int32) → (Int32) → (Nat → Int64) → (Nat → Int32) → (Nat → Int32) → (Nat → Int32) → (Nat → Int32) → (Nat → Int32) → (Nat → Int64) → (Nat → Int32) → (Nat → Int32) → (Nat → Int32) → (Nat → Int32) → (Nat → Int32) → (Nat → Int32) → (Nat → Int32) → (Nat → Int32) → (Nat → Int32) → (Nat → Int32) → (Nat → Int32) → (Nat → Int32) → (Nat → Int32) → (Nat → Int32) → (Nat → Int32) → (Nat → Int32) → (Nat → Int64) → (Nat → Int64) → (Nat → Int64) → (Nat → Int32) → Prop} (hn : n ≤ 60) (h4 : no ≤ 4) (h2 : nk ≤ 2) (hko : ∀ k, k < nk → koX k = nI (KO k) ∧ KO k < no) (hkf : ∀ k, k < nk → kfX k = KF k) {i : Nat} (hin : i < n) : ∀ j m (r : Nat → Nat → Int64) (rs : Nat → Int64), j ≤ i → j < m → re_q n no rs r → (∀ rs', re_q n no rs' (so_i nk KO KF j r) → J (nI (i + 1)) toX soX coX (nI no) (nI nk) moX diX rrX rwX ceX rcX unX rqX taX acX sceX srcX sunX srqX staX sacX stX cfX cpX chX csX okX ocX koX kfX cbX mkX fvX ovX rs' rtX) → wX_orderResult_12 post J (nI i) m (nI j) toX soX coX (nI no) (nI nk) moX diX rrX rwX ceX rcX unX rqX taX acX sceX srcX sunX srqX staX sacX stX cfX cpX chX csX okX ocX koX kfX cbX mkX fvX ovX rs rtX := by
  intro j
  induction j with
  | zero =>
    intro m r rs hji hm hr h
    obtain ⟨m, rfl⟩ : ∃ q, m = q + 1 := ⟨m - 1, by omega⟩
    exact br_t (by decide) (nm_r (nI_1 i) (h rs hr))
  | succ j ih =>
    intro m r rs hji hm hr h
    obtain ⟨m, rfl⟩ : ∃ q, m = q + 1 := ⟨m - 1, by omega⟩
    refine br_f (nI_nle (by omega) (by omega)) ?_
    rw [nI_pred]
    refine xm_before hn h4 h2 hko hkf hr (show j + 1 < n by omega) (show j < n by omega) (fun hb => br_f (by decide) ?_) (fun hb => br_t rfl ?_)
    · refine xm_swap hn h4 hr (show j + 1 < n by omega) (show j < n by omega) (by omega) (fun rs' hr' => ?_)
      rw [so_t hb] at h
      exact nm_r (pk_m1 j) (ih m _ rs' (by omega) (by omega) hr' h)
    · rw [so_f hb] at h
      exact nm_r (nI_1 i) (h rs hr)
theorem ym_ins {post : SY → Prop} {J : Int32 → (Int32) → (Int32) → (Int32) → (Int32) → (Int32) → (Int32) → (Int32) → (Int32) → (Int32) → (Int32) → (Nat → Int64) → (Nat → Int64) → (Nat → Int64) → (Nat → Int32) → (Nat → Int32) → (Nat → Int32) → (Nat → Int32) → (Nat → Int32) → (Nat → Int32) → (Nat → Int32) → (Nat → Int32) → (Nat → Int32) → (Nat → Int32) → (Nat → Int32) → (Nat → Int32) → (Nat → Int32) → (Nat → Int32) → (Nat → Int32) → (Nat → Int32) → (Nat → Int32) → (Nat → Int32) → (Nat → Int32) → (Nat → Int32) → (Nat → Int32) → (Nat → Int32) → (Nat → Int32) → (Nat → Int32) → (Nat → Int64) → (Nat → Int32) → (Nat → Int32) → Prop} (hn : n ≤ 60) (h4 : no ≤ 4) (h2 : nk ≤ 2) (hko : ∀ k, k < nk → koY k = nI (KO k) ∧ KO k < no) (hkf : ∀ k, k < nk → kfY k = KF k) {i : Nat} (hin : i < n) : ∀ j m (r : Nat → Nat → Int64) (rs : Nat → Int64), j ≤ i → j < m → re_q n no rs r → (∀ rs', re_q n no rs' (so_i nk KO KF j r) → J (nI (i + 1)) opY soY coY ouY (nI nk) liY diY cmY rrY wiY ceY oceY bceY maY omaY bmaY unY rqY bunY brqY rfY acY brfY bacY srY csY ccY cpY cwY okY osY ocY koY ciY kfY cbY goY rs' geY keY) → wY_sort_12 post J (nI i) m (nI j) opY soY coY ouY (nI nk) liY diY cmY rrY wiY ceY oceY bceY maY omaY bmaY unY rqY bunY brqY rfY acY brfY bacY srY csY ccY cpY cwY okY osY ocY koY ciY kfY cbY goY rs geY keY := by
  intro j
  induction j with
  | zero =>
    intro m r rs hji hm hr h
    obtain ⟨m, rfl⟩ : ∃ q, m = q + 1 := ⟨m - 1, by omega⟩
    exact br_t (by decide) (nm_r (nI_1 i) (h rs hr))
  | succ j ih =>
    intro m r rs hji hm hr h
    obtain ⟨m, rfl⟩ : ∃ q, m = q + 1 := ⟨m - 1, by omega⟩
    refine br_f (nI_nle (by omega) (by omega)) ?_
    rw [nI_pred]
    refine ym_after hn h4 h2 hko hkf hr (show j + 1 < n by omega) (show j < n by omega) (fun hb => br_f (by decide) ?_) (fun hb => br_t rfl ?_)
    · refine ym_exch hn h4 hr (show j < n by omega) (show j + 1 < n by omega) (by omega) (fun rs' hr' => ?_)
      rw [so_sym (by omega)] at hr'
      rw [so_t hb] at h
      exact nm_r (pk_m1 j) (ih m _ rs' (by omega) (by omega) hr' h)
    · rw [so_f hb] at h
      exact nm_r (nI_1 i) (h rs hr)
theorem xm_order {post : SX → Prop} (hn : n ≤ 60) (h4 : no ≤ 4) (h2 : nk ≤ 2) (hko : ∀ k, k < nk → koX k = nI (KO k) ∧ KO k < no) (hkf : ∀ k, k < nk → kfX k = KF k) (hr : re_q n no rsX r) (h : ∀ rs, re_q n no rs (so_a nk KO KF r n) → post (toX, soX, coX, nI no, nI nk, moX, diX, nI n, rwX, ceX, rcX, unX, rqX, taX, acX, sceX, srcX, sunX, srqX, staX, sacX, stX, cfX, cpX, chX, csX, okX, ocX, koX, kfX, cbX, mkX, fvX, ovX, rs, rtX)) : wpX_orderResult post (toX, soX, coX, nI no, nI nk, moX, diX, nI n, rwX, ceX, rcX, unX, rqX, taX, acX, sceX, srcX, sunX, srqX, staX, sacX, stX, cfX, cpX, chX, csX, okX, ocX, koX, kfX, cbX, mkX, fvX, ovX, rsX, rtX) := by
  by_cases hz : n = 0
  · subst hz
    exact ⟨1, br_t (by decide) (h rsX hr)⟩
  · refine pk_loop (fun m i s => wX_orderResult_2 post m (nI i) toX soX coX (nI no) (nI nk) moX diX (nI n) rwX ceX rcX unX rqX taX acX sceX srcX sunX srqX staX sacX stX cfX cpX chX csX okX ocX koX kfX cbX mkX fvX ovX s rtX) (fun i s => re_q n no s (so_a nk KO KF r i)) n 1 rsX (by omega) hr ?_ ?_
    · intro m s hI
      exact br_t (nI_le (Nat.le_refl _) (by omega)) (h s hI)
    · intro m i s hi hI hm
      refine br_f (nI_ge hi (by omega)) ⟨i + 1, ?_⟩
      exact xm_ins hn h4 h2 hko hkf hi i (i + 1) _ s (Nat.le_refl _) (Nat.lt_succ_self _) hI (fun rs' hr' => hm rs' hr')
theorem ym_sort {post : SY → Prop} (hn : n ≤ 60) (h4 : no ≤ 4) (h2 : nk ≤ 2) (hko : ∀ k, k < nk → koY k = nI (KO k) ∧ KO k < no) (hkf : ∀ k, k < nk → kfY k = KF k) (hr : re_q n no rsY r) (h : ∀ rs, re_q n no rs (so_a nk KO KF r n) → post (opY, soY, coY, ouY, nI nk, liY, diY, cmY, nI n, wiY, ceY, oceY, bceY, maY, omaY, bmaY, unY, rqY, bunY, brqY, rfY, acY, brfY, bacY, srY, csY, ccY, cpY, cwY, okY, osY, ocY, koY, ciY, kfY, cbY, goY, rs, geY, keY)) : wpY_sort post (opY, soY, coY, ouY, nI nk, liY, diY, cmY, nI n, wiY, ceY, oceY, bceY, maY, omaY, bmaY, unY, rqY, bunY, brqY, rfY, acY, brfY, bacY, srY, csY, ccY, cpY, cwY, okY, osY, ocY, koY, ciY, kfY, cbY, goY, rsY, geY, keY) := by
  by_cases hz : n = 0
  · subst hz
    exact ⟨1, br_t (by decide) (h rsY hr)⟩
  · refine pk_loop (fun m i s => wY_sort_2 post m (nI i) opY soY coY ouY (nI nk) liY diY cmY (nI n) wiY ceY oceY bceY maY omaY bmaY unY rqY bunY brqY rfY acY brfY bacY srY csY ccY cpY cwY okY osY ocY koY ciY kfY cbY goY s geY keY) (fun i s => re_q n no s (so_a nk KO KF r i)) n 1 rsY (by omega) hr ?_ ?_
    · intro m s hI
      exact br_t (nI_le (Nat.le_refl _) (by omega)) (h s hI)
    · intro m i s hi hI hm
      refine br_f (nI_ge hi (by omega)) ⟨i + 1, ?_⟩
      exact ym_ins hn h4 h2 hko hkf hi i (i + 1) _ s (Nat.le_refl _) (Nat.lt_succ_self _) hI (fun rs' hr' => hm rs' hr')
end
