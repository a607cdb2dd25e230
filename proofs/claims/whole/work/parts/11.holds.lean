/-! when a combination holds -/
def co_v (D : Nat → Nat → Int64) (S ρ : Nat → Nat) (s c : Nat) : Int64 := D (3 * S s + c) (ρ s)
def co_t (op : Nat) (x y : Int64) : Prop :=
  if op = 4 then x = nu_l else if op = 5 then x ≠ nu_l else x ≠ nu_l ∧ y ≠ nu_l ∧ (if op = 0 then x = y else if op = 1 then x ≠ y else if op = 2 then x < y else x ≤ y)
def co_y (D : Nat → Nat → Int64) (S ρ : Nat → Nat) (b : Bool) (w : Int32) : Int64 := if b = true then co_v D S ρ (w.toNatClampNeg / 3) (w.toNatClampNeg % 3) else w.toInt64
def co_k (D : Nat → Nat → Int64) (S ρ CS CC CO : Nat → Nat) (CI : Nat → Bool) (CW : Nat → Int32) (k : Nat) : Prop := co_t (CO k) (co_v D S ρ (CS k) (CC k)) (co_y D S ρ (CI k) (CW k))
def co_h (D : Nat → Nat → Int64) (S ρ CS CC CO : Nat → Nat) (CI : Nat → Bool) (CW : Nat → Int32) (nc : Nat) : Prop := ∀ k, k < nc → co_k D S ρ CS CC CO CI CW k
def cx_c (nc : Nat) (CS CC CO : Nat → Nat) (CI : Nat → Bool) (CW : Nat → Int32) (cf cp ch cs : Nat → Int32) : Prop := ∀ k, k < nc → cf k = nI (3 * CS k + CC k) ∧ cp k = nI (CO k) ∧ ch k = bo_i (CI k) ∧ cs k = CW k
def cy_c (nc : Nat) (CS CC CO : Nat → Nat) (CI : Nat → Bool) (CW : Nat → Int32) (csY ccY cpY ciY cwY : Nat → Int32) : Prop := ∀ k, k < nc → csY k = nI (CS k) ∧ ccY k = nI (CC k) ∧ cpY k = nI (CO k) ∧ ciY k = bo_i (CI k) ∧ cwY k = CW k
def ck_c (ns nc : Nat) (S CS CC CO : Nat → Nat) (CI : Nat → Bool) (CW : Nat → Int32) : Prop := ns ≤ 3 ∧ nc ≤ 6 ∧ (∀ s, s < ns → S s < 3) ∧ ∀ k, k < nc → CS k < ns ∧ CC k < 3 ∧ CO k < 6 ∧ (CI k = true → ∃ w, CW k = nI w ∧ w < 3 * ns)
def ro_w (q s : Nat) : Nat := if s = 0 then q / 256 % 16 else if s = 1 then q / 16 % 16 else q % 16
section
variable {toX soX coX ouX kyX moX diX rrX rwX : Int32} {ceX sceX fvX ovX rsX : Nat → Int64} {rcX unX rqX taX acX srcX sunX srqX staX sacX stX cfX cpX chX csX okX ocX koX kfX cbX mkX rtX : Nat → Int32} {opY soY coY ouY kyY liY diY cmY rrY wiY : Int32} {ceY oceY bceY rsY : Nat → Int64} {maY omaY bmaY unY rqY bunY brqY rfY acY brfY bacY srY csY ccY cpY cwY okY osY ocY koY ciY kfY cbY goY geY keY : Nat → Int32} {N : Nat → Nat} {D : Nat → Nat → Int64} {ns nc : Nat} {S ρ CS CC CO : Nat → Nat} {CI : Nat → Bool} {CW : Nat → Int32} {post : Int32 → Prop}
theorem xm_val {post : Int64 → Prop} (hC : db_xc N D ceX rcX) (h3 : ns ≤ 3) (hS : ∀ s, s < ns → S s < 3) (hst : ∀ s, s < ns → stX s = nI (S s)) (hcb : ∀ s, s < ns → cbX s = nI (ρ s) ∧ ρ s < N (S s)) {s c : Nat} (hs : s < ns) (hc : c < 3) (h : post (co_v D S ρ s c)) : wpX_valueInCombination post (toX, soX, coX, ouX, kyX, moX, diX, rrX, rwX, ceX, rcX, unX, rqX, taX, acX, sceX, srcX, sunX, srqX, staX, sacX, stX, cfX, cpX, chX, csX, okX, ocX, koX, kfX, cbX, mkX, fvX, ovX, rsX, rtX) (nI (3 * s + c)) := by
  have e1 : nI (3 * s + c) / 3 = nI s := by
    rw [nz_d3 (by omega)]
    exact congrArg nI (by omega)
  have e2 : nI (3 * s + c) - nI (3 * s + c) / 3 * 3 = nI c := by
    rw [nz_r3 (by omega)]
    exact congrArg nI (by omega)
  have es : (nI s).toNatClampNeg = s := nI_clamp (by omega)
  have hs3 := hS s hs
  obtain ⟨ecb, hr⟩ := hcb s hs
  have h16 := (hC.1 (S s) hs3).2
  have hi3 : vp_in (nI s) 3 := vp_in_nI (by omega) (by decide)
  refine ⟨nz_3ne, nm_r e1 ⟨hi3, nz_3ne, nm_r (e' := nI (3 * S s + c)) (by rw [es, hst s hs, e2, nz_3]) ⟨hi3, ?_⟩⟩⟩
  rw [es, ecb, nz_16, nI_clamp (by omega), hC.2 (3 * S s + c) (ρ s) (by omega) (by rw [show (3 * S s + c) / 3 = S s by omega]; exact hr)]
  exact ⟨vp_in_nI (by omega) (by decide), h⟩
theorem op_ne {a b : Nat} (ha : a < 2 ^ 31) (hb : b < 2 ^ 31) (h : a ≠ b) : ¬ nI a = nI b := fun z => h ((nI_eq ha hb).mp z)
theorem lt_le {x y : Int64} : ¬ y < x ↔ x ≤ y := Int64.not_lt
theorem le_lt {x y : Int64} : ¬ y ≤ x ↔ x < y := Int64.not_le
theorem xm_c86 {op : Nat} {x y : Int64} (hop : op < 6) (h4 : op ≠ 4) (h5 : op ≠ 5) (h1 : co_t op x y → post 1) (h0 : ¬ co_t op x y → post 0) : wX_conditionIsTrue_86 post (nI op) x y toX soX coX ouX kyX moX diX rrX rwX ceX rcX unX rqX taX acX sceX srcX sunX srqX staX sacX stX cfX cpX chX csX okX ocX koX kfX cbX mkX fvX ovX rsX rtX := by
  have e : co_t op x y = (x ≠ nu_l ∧ y ≠ nu_l ∧ (if op = 0 then x = y else if op = 1 then x ≠ y else if op = 2 then x < y else x ≤ y)) := by
    unfold co_t
    rw [if_neg h4, if_neg h5]
  rw [e] at h1 h0
  refine br_c (fun hx => h0 (fun z => z.1 hx)) (fun hx => br_c (fun hy => h0 (fun z => z.2.1 hy)) (fun hy => ?_))
  refine br_f (nI_pos (by omega)) ?_
  by_cases k3 : op = 3
  · subst k3
    exact br_t (by decide) (br_c (fun z => h0 (fun w => absurd w.2.2 (Int64.not_le.mpr z))) (fun z => h1 ⟨hx, hy, Int64.not_lt.mp z⟩))
  · refine br_f (nI_nlt (a := 2) (b := op) (by omega) (by decide)) ?_
    by_cases k0 : op = 0
    · subst k0
      exact br_t rfl (br_c (fun z => h1 ⟨hx, hy, z⟩) (fun z => h0 (fun w => z w.2.2)))
    · refine br_f (op_ne (b := 0) (by omega) (by decide) k0) ?_
      by_cases k1 : op = 1
      · subst k1
        exact br_t rfl (br_c (fun z => h0 (fun w => w.2.2 z)) (fun z => h1 ⟨hx, hy, z⟩))
      · refine br_f (op_ne (b := 1) (by omega) (by decide) k1) ?_
        have k2 : op = 2 := by omega
        subst k2
        exact br_t rfl (br_c (fun z => h0 (fun w => absurd w.2.2 (Int64.not_lt.mpr z))) (fun z => h1 ⟨hx, hy, Int64.not_le.mp z⟩))
theorem xm_cond (hC : db_xc N D ceX rcX) (hk : ck_c ns nc S CS CC CO CI CW) (hst : ∀ s, s < ns → stX s = nI (S s)) (hc : cx_c nc CS CC CO CI CW cfX cpX chX csX) (hcb : ∀ s, s < ns → cbX s = nI (ρ s) ∧ ρ s < N (S s)) {k : Nat} (hkn : k < nc) (h1 : co_k D S ρ CS CC CO CI CW k → post 1) (h0 : ¬ co_k D S ρ CS CC CO CI CW k → post 0) : wpX_conditionIsTrue post (toX, soX, coX, ouX, kyX, moX, diX, rrX, rwX, ceX, rcX, unX, rqX, taX, acX, sceX, srcX, sunX, srqX, staX, sacX, stX, cfX, cpX, chX, csX, okX, ocX, koX, kfX, cbX, mkX, fvX, ovX, rsX, rtX) (nI k) := by
  obtain ⟨h3, h6, hS, hK⟩ := hk
  obtain ⟨k1, k2, k3, k4⟩ := hK k hkn
  obtain ⟨c1, c2, c3, c4⟩ := hc k hkn
  have ek : (nI k).toNatClampNeg = k := nI_clamp (by omega)
  have hv : vp_in (nI k) 6 := vp_in_nI (by omega) (by decide)
  refine ⟨hv, nm_r (e' := nI (CO k)) (by rw [ek, c2]) ⟨hv, ?_⟩⟩
  rw [ek, c1, c3, c4]
  refine xm_val hC h3 hS hst hcb k1 k2 ?_
  unfold co_k at h1 h0
  by_cases o4 : CO k = 4
  · rw [o4] at h1 h0 ⊢
    exact br_t rfl (br_c (fun z => h1 z) (fun z => h0 z))
  · refine br_f (op_ne (b := 4) (by omega) (by decide) o4) ?_
    by_cases o5 : CO k = 5
    · rw [o5] at h1 h0 ⊢
      exact br_t rfl (br_c (fun z => h0 (fun w => w z)) (fun z => h1 z))
    · refine br_f (op_ne (b := 5) (by omega) (by decide) o5) ⟨hv, nm_e ⟨hv, ?_⟩⟩
      by_cases hb : CI k = true
      · obtain ⟨w, ew, hw⟩ := k4 hb
        refine br_f (bo_n.mpr hb) ⟨hv, ?_⟩
        have ey : co_y D S ρ (CI k) (CW k) = co_v D S ρ (w / 3) (w % 3) := by
          unfold co_y
          rw [if_pos hb, ew, nI_clamp (by omega)]
        rw [ey] at h1 h0
        rw [ew, show w = 3 * (w / 3) + w % 3 by omega]
        exact xm_val hC h3 hS hst hcb (by omega) (by omega) (xm_c86 (by omega) o4 o5 h1 h0)
      · have ey : co_y D S ρ (CI k) (CW k) = (CW k).toInt64 := if_neg hb
        rw [ey] at h1 h0
        exact br_t (bo_0.mpr (by simpa using hb)) (xm_c86 (by omega) o4 o5 h1 h0)
theorem xm_holds (hC : db_xc N D ceX rcX) (hk : ck_c ns nc S CS CC CO CI CW) (hst : ∀ s, s < ns → stX s = nI (S s)) (hc : cx_c nc CS CC CO CI CW cfX cpX chX csX) (hcb : ∀ s, s < ns → cbX s = nI (ρ s) ∧ ρ s < N (S s)) (h1 : co_h D S ρ CS CC CO CI CW nc → post 1) (h0 : ¬ co_h D S ρ CS CC CO CI CW nc → post 0) : wpX_combinationHolds post (toX, soX, nI nc, ouX, kyX, moX, diX, rrX, rwX, ceX, rcX, unX, rqX, taX, acX, sceX, srcX, sunX, srqX, staX, sacX, stX, cfX, cpX, chX, csX, okX, ocX, koX, kfX, cbX, mkX, fvX, ovX, rsX, rtX) := by
  have h6 := hk.2.1
  refine loop_0 (fun n i (_ : Unit) => wX_combinationHolds_2 post toX soX (nI nc) ouX kyX moX diX rrX rwX ceX rcX unX rqX taX acX sceX srcX sunX srqX staX sacX stX cfX cpX chX csX okX ocX koX kfX cbX mkX fvX ovX rsX rtX n (nI i)) (fun i _ => ∀ k, k < i → co_k D S ρ CS CC CO CI CW k) nc () lt_0 ?_ ?_
  · intro n _ hI
    exact br_t (nI_le (Nat.le_refl _) (by omega)) (h1 hI)
  · intro n i _ hi hI hn
    refine br_f (nI_ge hi (by omega)) (xm_cond hC hk hst hc hcb hi (fun z => ?_) (fun z => ?_))
    · exact br_f (by decide) (nm_r (nI_1 i) (hn () (lt_s hI z)))
    · exact br_t rfl (h0 (fun w => z (w i hi)))
/-! Y -/
theorem ro_e {q s : Nat} (hq : q < 4096) (hs : s < 3) : (nI q >>> ((8 - (4 * nI s)) &&& 31)) &&& 15 = nI (ro_w q s) := by
  have h : s = 0 ∨ s = 1 ∨ s = 2 := by omega
  rcases h with h | h | h
  · subst h
    rw [pk_shrN (by omega) _ 8 (by decide), pk_andN (by omega) 4 (by decide)]
    rfl
  · subst h
    rw [pk_shrN (by omega) _ 4 (by decide), pk_andN (by omega) 4 (by decide)]
    rfl
  · subst h
    rw [pk_shrN (by omega) _ 0 (by decide), pk_andN (by omega) 4 (by decide)]
    exact congrArg nI (by show q / 2 ^ 0 % 2 ^ 4 = q % 16; omega)
theorem ym_in {post : Int64 → Prop} (hC : db_yc N D ceY maY) (h3 : ns ≤ 3) (hS : ∀ s, s < ns → S s < 3) (hsr : ∀ s, s < ns → srY s = nI (S s)) {q : Nat} (hq : q < 4096) (hro : ∀ s, s < ns → ro_w q s < N (S s)) {s c : Nat} (hs : s < ns) (hc : c < 3) (h : post (co_v D S (ro_w q) s c)) : wpY_in post (opY, soY, coY, ouY, kyY, liY, diY, cmY, rrY, wiY, ceY, oceY, bceY, maY, omaY, bmaY, unY, rqY, bunY, brqY, rfY, acY, brfY, bacY, srY, csY, ccY, cpY, cwY, okY, osY, ocY, koY, ciY, kfY, cbY, goY, rsY, geY, keY) (nI q) (nI s) (nI c) := by
  have hs3 := hS s hs
  have h16 := (hC.1 (S s) hs3).2
  have hr := hro s hs
  have hi3 : vp_in (nI s) 3 := vp_in_nI (by omega) (by decide)
  refine ⟨hi3, ?_⟩
  unfold wpY_rowOf
  dsimp only
  have e := hC.2 (3 * S s + c) (ro_w q s) (by omega) (by rw [show (3 * S s + c) / 3 = S s by omega]; exact hr)
  rw [show (3 * S s + c) / 3 = S s by omega, show (3 * S s + c) % 3 = c by omega] at e
  rw [ro_e hq (by omega), nI_clamp (show s < 2 ^ 31 by omega), hsr s hs, nz_48, nz_3m, nI_add, nI_add, nI_clamp (by omega), e]
  exact ⟨vp_in_nI (by omega) (by decide), h⟩
theorem ym_h68 {J : Int32 → Prop} {op k : Nat} {x1 : Int32} {x y : Int64} (hk6 : k < 6) (eop : cpY k = nI op) (hop : op < 6) (h1 : co_t op x y → J (nI (k + 1))) (h0 : ¬ co_t op x y → post 0) : wY_holds_68 post J x1 (nI k) x y opY soY coY ouY kyY liY diY cmY rrY wiY ceY oceY bceY maY omaY bmaY unY rqY bunY brqY rfY acY brfY bacY srY csY ccY cpY cwY okY osY ocY koY ciY kfY cbY goY rsY geY keY := by
  have hv : vp_in (nI k) 6 := vp_in_nI (by omega) (by decide)
  have g1 : co_t op x y → wY_holds_198 post J x1 (nI k) 1 opY soY coY ouY kyY liY diY cmY rrY wiY ceY oceY bceY maY omaY bmaY unY rqY bunY brqY rfY acY brfY bacY srY csY ccY cpY cwY okY osY ocY koY ciY kfY cbY goY rsY geY keY := fun z => br_f (by decide) (nm_r (nI_1 k) (h1 z))
  have g0 : ¬ co_t op x y → wY_holds_198 post J x1 (nI k) 0 opY soY coY ouY kyY liY diY cmY rrY wiY ceY oceY bceY maY omaY bmaY unY rqY bunY brqY rfY acY brfY bacY srY csY ccY cpY cwY okY osY ocY koY ciY kfY cbY goY rsY geY keY := fun z => br_t rfl (h0 z)
  refine ⟨hv, nm_r (e' := nI op) (by rw [nI_clamp (by omega), eop]) ?_⟩
  by_cases o4 : op = 4
  · subst o4
    exact br_t rfl (br_c (fun z => g1 z) (fun z => g0 z))
  · refine br_f (op_ne (b := 4) (by omega) (by decide) o4) ?_
    by_cases o5 : op = 5
    · subst o5
      exact br_t rfl (br_c (fun z => g0 (fun w => w z)) (fun z => g1 z))
    · refine br_f (op_ne (b := 5) (by omega) (by decide) o5) ?_
      have e : co_t op x y = (x ≠ nu_l ∧ y ≠ nu_l ∧ (if op = 0 then x = y else if op = 1 then x ≠ y else if op = 2 then x < y else x ≤ y)) := by
        unfold co_t
        rw [if_neg o4, if_neg o5]
      rw [e] at g1 g0
      refine br_c (fun hx => g0 (fun z => z.1 hx)) (fun hx => br_c (fun hy => g0 (fun z => z.2.1 hy)) (fun hy => ?_))
      by_cases k0 : op = 0
      · subst k0
        exact br_t rfl (br_c (fun z => g1 ⟨hx, hy, z⟩) (fun z => g0 (fun w => z w.2.2)))
      · refine br_f (op_ne (b := 0) (by omega) (by decide) k0) ?_
        by_cases k1 : op = 1
        · subst k1
          exact br_t rfl (br_c (fun z => g0 (fun w => w.2.2 z)) (fun z => g1 ⟨hx, hy, z⟩))
        · refine br_f (op_ne (b := 1) (by omega) (by decide) k1) ?_
          by_cases k2 : op = 2
          · subst k2
            exact br_t rfl (br_c (fun z => g0 (fun w => absurd w.2.2 (Int64.not_lt.mpr z))) (fun z => g1 ⟨hx, hy, Int64.not_le.mp z⟩))
          · have k3 : op = 3 := by omega
            subst k3
            exact br_f (by decide) (br_c (fun z => g0 (fun w => absurd w.2.2 (Int64.not_le.mpr z))) (fun z => g1 ⟨hx, hy, Int64.not_lt.mp z⟩))
theorem ym_holds (hC : db_yc N D ceY maY) (hk : ck_c ns nc S CS CC CO CI CW) (hsr : ∀ s, s < ns → srY s = nI (S s)) (hc : cy_c nc CS CC CO CI CW csY ccY cpY ciY cwY) {q : Nat} (hq : q < 4096) (hro : ∀ s, s < ns → ro_w q s < N (S s)) (h1 : co_h D S (ro_w q) CS CC CO CI CW nc → post 1) (h0 : ¬ co_h D S (ro_w q) CS CC CO CI CW nc → post 0) : wpY_holds post (opY, soY, nI nc, ouY, kyY, liY, diY, cmY, rrY, wiY, ceY, oceY, bceY, maY, omaY, bmaY, unY, rqY, bunY, brqY, rfY, acY, brfY, bacY, srY, csY, ccY, cpY, cwY, okY, osY, ocY, koY, ciY, kfY, cbY, goY, rsY, geY, keY) (nI q) := by
  obtain ⟨h3, h6, hS, hK⟩ := hk
  refine loop_0 (fun n i (_ : Unit) => wY_holds_2 post (nI q) opY soY (nI nc) ouY kyY liY diY cmY rrY wiY ceY oceY bceY maY omaY bmaY unY rqY bunY brqY rfY acY brfY bacY srY csY ccY cpY cwY okY osY ocY koY ciY kfY cbY goY rsY geY keY n (nI i)) (fun i _ => ∀ k, k < i → co_k D S (ro_w q) CS CC CO CI CW k) nc () lt_0 ?_ ?_
  · intro n _ hI
    exact br_t (nI_le (Nat.le_refl _) (by omega)) (h1 hI)
  · intro n i _ hi hI hn
    obtain ⟨k1, k2, k3, k4⟩ := hK i hi
    obtain ⟨c1, c2, c3, c4, c5⟩ := hc i hi
    have ek : (nI i).toNatClampNeg = i := nI_clamp (by omega)
    have hv : vp_in (nI i) 6 := vp_in_nI (by omega) (by decide)
    refine br_f (nI_ge hi (by omega)) ⟨hv, hv, ?_⟩
    rw [ek, c1, c2, c4, c5]
    refine ym_in hC h3 hS hsr hq hro k1 k2 ⟨hv, ?_⟩
    have g1 : co_t (CO i) (co_v D S (ro_w q) (CS i) (CC i)) (co_y D S (ro_w q) (CI i) (CW i)) → wY_holds_2 post (nI q) opY soY (nI nc) ouY kyY liY diY cmY rrY wiY ceY oceY bceY maY omaY bmaY unY rqY bunY brqY rfY acY brfY bacY srY csY ccY cpY cwY okY osY ocY koY ciY kfY cbY goY rsY geY keY n (nI (i + 1)) := fun z => hn () (lt_s hI z)
    have g0 : ¬ co_t (CO i) (co_v D S (ro_w q) (CS i) (CC i)) (co_y D S (ro_w q) (CI i) (CW i)) → post 0 := fun z => h0 (fun w => z (w i hi))
    by_cases hb : CI i = true
    · obtain ⟨w, ew, hw⟩ := k4 hb
      refine br_f (bo_n.mpr hb) ⟨hv, nz_3ne, hv, nz_3ne, ?_⟩
      have ey : co_y D S (ro_w q) (CI i) (CW i) = co_v D S (ro_w q) (w / 3) (w % 3) := by
        unfold co_y
        rw [if_pos hb, ew, nI_clamp (by omega)]
      rw [ey] at g1 g0
      rw [ew, nz_r3 (by omega), nz_d3 (by omega)]
      exact ym_in hC h3 hS hsr hq hro (by omega) (by omega) (ym_h68 (by omega) c3 k3 g1 g0)
    · have ey : co_y D S (ro_w q) (CI i) (CW i) = (CW i).toInt64 := if_neg hb
      rw [ey] at g1 g0
      exact br_t (bo_0.mpr (by simpa using hb)) ⟨hv, ym_h68 (by omega) c3 k3 g1 g0⟩
end
