/-! change -/
def ch_v (how : Nat) (v : Int32) (d : Int64) : Int64 := if how = 0 then v.toInt64 else if how = 1 then nu_l else if d = nu_l then nu_l else (d.toInt32 + v).toInt64
def ch_D (D : Nat → Nat → Int64) (col : Nat) (M : Nat → Bool) (how : Nat) (v : Int32) : Nat → Nat → Int64 := fun c r => if c = col ∧ M (16 * (col / 3) + r) = true then ch_v how v (D c r) else D c r
theorem ch_o {D : Nat → Nat → Int64} {col : Nat} {M : Nat → Bool} {how : Nat} {v : Int32} {c r : Nat} (h : c ≠ col) : ch_D D col M how v c r = D c r := if_neg (fun z => h z.1)
theorem ch_t {D : Nat → Nat → Int64} {col : Nat} {M : Nat → Bool} {how : Nat} {v : Int32} {r : Nat} (h : M (16 * (col / 3) + r) = true) : ch_D D col M how v col r = ch_v how v (D col r) := if_pos ⟨rfl, h⟩
theorem ch_f {D : Nat → Nat → Int64} {col : Nat} {M : Nat → Bool} {how : Nat} {v : Int32} {r : Nat} (h : ¬ M (16 * (col / 3) + r) = true) : ch_D D col M how v col r = D col r := if_neg (fun z => h z.2)
theorem ch_add (d : Int64) (v : Int32) : (d + v.toInt64).toInt32 = d.toInt32 + v := by
  rw [Int64.toInt32_add, Int32.toInt32_toInt64]
theorem ch_val {how : Nat} {v : Int32} {d : Int64} : ch_v how v d = nu_l ∨ ∃ z : Int32, ch_v how v d = z.toInt64 := by
  unfold ch_v
  split
  · exact Or.inr ⟨_, rfl⟩
  · split
    · exact Or.inl rfl
    · split
      · exact Or.inl rfl
      · exact Or.inr ⟨_, rfl⟩
section
variable {toX soX coX ouX kyX moX diX rrX rwX : Int32} {ceX sceX fvX ovX rsX : Nat → Int64} {rcX unX rqX taX acX srcX sunX srqX staX sacX stX cfX cpX chX csX okX ocX koX kfX cbX mkX rtX : Nat → Int32} {opY soY coY ouY kyY liY diY cmY rrY wiY : Int32} {ceY oceY bceY rsY : Nat → Int64} {maY omaY bmaY unY rqY bunY brqY rfY acY brfY bacY srY csY ccY cpY cwY okY osY ocY koY ciY kfY cbY goY geY keY : Nat → Int32} {N : Nat → Nat} {D : Nat → Nat → Int64} {U R : Nat → Bool} {T A : Nat → Nat} {M : Nat → Bool}
theorem xm_chval {post : Int64 → Prop} {d : Int64} {how : Nat} {v : Int32} (hh : how < 3) (h : post (ch_v how v d)) : wpX_changedValue post d (nI how) v := by
  unfold ch_v at h
  by_cases e0 : how = 0
  · rw [if_pos e0] at h
    subst e0
    exact br_t rfl h
  · rw [if_neg e0] at h
    refine br_f (op_ne (b := 0) (by omega) (by decide) e0) ?_
    by_cases e1 : how = 1
    · rw [if_pos e1] at h
      subst e1
      exact br_t rfl h
    · rw [if_neg e1] at h
      refine br_f (op_ne (b := 1) (by omega) (by decide) e1) ?_
      by_cases e2 : d = nu_l
      · rw [if_pos e2] at h
        exact br_t e2 h
      · rw [if_neg e2] at h
        exact br_f e2 h
theorem xm_chMarked {post : SX → Prop} (hC : db_xc N D ceX rcX) (hm : ∀ x, x < 48 → mkX x = bo_i (M x)) {col how : Nat} {v : Int32} (hc : col < 9) (hh : how < 3)
    (h : ∀ ce fv, db_xc N (ch_D D col M how v) ce rcX → (∀ r, r < N (col / 3) → fv r = D col r) → post (toX, soX, coX, ouX, kyX, moX, diX, rrX, rwX, ce, rcX, unX, rqX, taX, acX, sceX, srcX, sunX, srqX, staX, sacX, stX, cfX, cpX, chX, csX, okX, ocX, koX, kfX, cbX, mkX, fv, ovX, rsX, rtX)) : wpX_changeMarkedRows post (toX, soX, coX, ouX, kyX, moX, diX, rrX, rwX, ceX, rcX, unX, rqX, taX, acX, sceX, srcX, sunX, srqX, staX, sacX, stX, cfX, cpX, chX, csX, okX, ocX, koX, kfX, cbX, mkX, fvX, ovX, rsX, rtX) (nI col) (nI how) v := by
  have ht : col / 3 < 3 := by omega
  obtain ⟨hn, h16⟩ := hC.1 (col / 3) ht
  refine ⟨nz_3ne, nm_r (nz_d3 (by omega)) ⟨vp_in_nI ht (by decide), nm_r (e' := nI (N (col / 3))) (by rw [nI_clamp (by omega), hn]) ?_⟩⟩
  refine loop_0 (fun n i (s : (Nat → Int64) × (Nat → Int64)) => wX_changeMarkedRows_17 post (nI col) (nI how) v (nI (col / 3)) (nI (N (col / 3))) toX soX coX ouX kyX moX diX rrX rwX n (nI i) s.1 rcX unX rqX taX acX sceX srcX sunX srqX staX sacX stX cfX cpX chX csX okX ocX koX kfX cbX mkX s.2 ovX rsX rtX) (fun i s => (∀ c r, c < 9 → r < N (c / 3) → (c ≠ col ∨ i ≤ r) → s.1 (16 * c + r) = D c r) ∧ (∀ r, r < i → s.1 (16 * col + r) = ch_D D col M how v col r) ∧ ∀ r, r < i → s.2 r = D col r) (N (col / 3)) (ceX, fvX) ⟨fun c r hc hr _ => hC.2 c r hc hr, lt_0, lt_0⟩ ?_ ?_
  · intro n s hI
    refine br_t (nI_le (Nat.le_refl _) (by omega)) (h _ _ ⟨hC.1, fun c r hc' hr => ?_⟩ hI.2.2)
    by_cases e : c = col
    · subst e
      exact hI.2.1 r hr
    · rw [hI.1 c r hc' hr (Or.inl e), ch_o e]
  · intro n i s hi hI hn
    have hv1 : vp_in (16 * nI col + nI i) 144 := by rw [nz_16]; exact vp_in_nI (by omega) (by decide)
    have e1 : (16 * nI col + nI i).toNatClampNeg = 16 * col + i := by rw [nz_16, nI_clamp (by omega)]
    have ei : (nI i).toNatClampNeg = i := nI_clamp (by omega)
    refine br_f (nI_ge hi (by omega)) ⟨hv1, nm_r (e' := D col i) (by rw [e1]; exact hI.1 col i hc hi (Or.inr (Nat.le_refl _))) ⟨vp_in_nI (by omega) (by decide), nm_r (e' := vp_updL s.2 i (D col i)) (by rw [ei]) ⟨by rw [nz_16]; exact vp_in_nI (by omega) (by decide), ?_⟩⟩⟩
    have hfv : ∀ r, r < i + 1 → vp_updL s.2 i (D col i) r = D col r := lt_s (fun r hr => by rw [pk_uLn (by omega)]; exact hI.2.2 r hr) pk_uLs
    rw [show mkX (16 * nI (col / 3) + nI i).toNatClampNeg = bo_i (M (16 * (col / 3) + i)) by rw [nz_16, nI_clamp (by omega)]; exact hm _ (by omega)]
    by_cases hM : M (16 * (col / 3) + i) = true
    · refine br_f (bo_n.mpr hM) (xm_chval hh ⟨hv1, nm_r (e' := vp_updL s.1 (16 * col + i) (ch_v how v (D col i))) (by rw [e1]) (nm_r (nI_1 i) (hn (vp_updL s.1 (16 * col + i) (ch_v how v (D col i)), vp_updL s.2 i (D col i)) ⟨fun c r hc' hr hor => ?_, lt_s (fun r hr => ?_) ?_, hfv⟩))⟩)
      · have h16' := (hC.1 (c / 3) (by omega)).2
        show vp_updL s.1 (16 * col + i) (ch_v how v (D col i)) (16 * c + r) = D c r
        rw [pk_uLn (by rcases hor with z | z <;> omega)]
        exact hI.1 c r hc' hr (by rcases hor with z | z; exact Or.inl z; exact Or.inr (by omega))
      · show vp_updL s.1 (16 * col + i) (ch_v how v (D col i)) (16 * col + r) = _
        rw [pk_uLn (by omega)]
        exact hI.2.1 r hr
      · show vp_updL s.1 (16 * col + i) (ch_v how v (D col i)) (16 * col + i) = _
        rw [ch_t hM]
        exact pk_uLs
    · refine br_t (bo_0.mpr (by simpa using hM)) (nm_r (nI_1 i) (hn (s.1, vp_updL s.2 i (D col i)) ⟨fun c r hc' hr hor => ?_, lt_s hI.2.1 ?_, hfv⟩))
      · exact hI.1 c r hc' hr (by rcases hor with z | z; exact Or.inl z; exact Or.inr (by omega))
      · rw [ch_f hM]
        exact hI.1 col i hc hi (Or.inr (Nat.le_refl _))
theorem xm_chViol {post : Int32 → Prop} (hC : db_xc N D ceX rcX) (hk : db_k U R T A unX rqX taX acX) {col : Nat} (hc : col < 9) (h0 : (fi_t N D (U col) (R col) (T col) col ∧ ∀ q, q < 9 → T q = col → fi_s N D col q) → post 0) (h1 : ¬ (fi_t N D (U col) (R col) (T col) col ∧ ∀ q, q < 9 → T q = col → fi_s N D col q) → post 1) : wpX_changeViolates post (toX, soX, coX, ouX, kyX, moX, diX, rrX, rwX, ceX, rcX, unX, rqX, taX, acX, sceX, srcX, sunX, srqX, staX, sacX, stX, cfX, cpX, chX, csX, okX, ocX, koX, kfX, cbX, mkX, fvX, ovX, rsX, rtX) (nI col) := by
  unfold wpX_changeViolates
  dsimp only
  refine xm_fits hC hk hc (fun f => ?_) (fun f => br_t rfl (h1 (fun z => f z.1)))
  refine br_f (by decide) ?_
  refine loop_0 (fun n i (_ : Unit) => wX_changeViolates_12 post (nI col) toX soX coX ouX kyX moX diX rrX rwX ceX rcX unX rqX taX acX sceX srcX sunX srqX staX sacX stX cfX cpX chX csX okX ocX koX kfX cbX mkX fvX ovX rsX rtX n (nI i)) (fun i _ => ∀ q, q < i → T q = col → fi_s N D col q) 9 () lt_0 ?_ ?_
  · intro n _ hI
    exact br_t (by decide) (h0 ⟨f, hI⟩)
  · intro n i _ hi hI hn
    refine br_f (nI_ge (b := 9) hi (by decide)) ⟨vp_in_nI hi (by decide), ?_⟩
    rw [nI_clamp (by omega), (hk i hi).2.2.1]
    by_cases e : T i = col
    · refine br_t ((ta_eq hc).mpr e) (xm_hasStray hC hi hc (fun hs => ?_) (fun hs => ?_))
      · exact br_f (by decide) (h1 (fun z => hs (z.2 i hi e)))
      · exact br_t rfl (nm_r (nI_1 i) (hn () (lt_s hI (fun _ => hs))))
    · exact br_f (fun z => e ((ta_eq hc).mp z)) (nm_r (nI_1 i) (hn () (lt_s hI (fun z => absurd z e))))
theorem xm_chBack {post : SX → Prop} {D' : Nat → Nat → Int64} (hC : db_xc N D' ceX rcX) {col : Nat} (hc : col < 9) (hD : ∀ c r, c ≠ col → D' c r = D c r) (hf : ∀ r, r < N (col / 3) → fvX r = D col r) (h : ∀ ce, db_xc N D ce rcX → post (toX, soX, coX, ouX, kyX, moX, diX, rrX, rwX, ce, rcX, unX, rqX, taX, acX, sceX, srcX, sunX, srqX, staX, sacX, stX, cfX, cpX, chX, csX, okX, ocX, koX, kfX, cbX, mkX, fvX, ovX, rsX, rtX)) : wpX_takeChangeBack post (toX, soX, coX, ouX, kyX, moX, diX, rrX, rwX, ceX, rcX, unX, rqX, taX, acX, sceX, srcX, sunX, srqX, staX, sacX, stX, cfX, cpX, chX, csX, okX, ocX, koX, kfX, cbX, mkX, fvX, ovX, rsX, rtX) (nI col) := by
  have ht : col / 3 < 3 := by omega
  obtain ⟨hn, h16⟩ := hC.1 (col / 3) ht
  refine ⟨nz_3ne, by rw [nz_d3 (by omega)]; exact vp_in_nI ht (by decide), nm_r (e' := nI (N (col / 3))) (by rw [nz_d3 (by omega), nI_clamp (by omega), hn]) ?_⟩
  refine loop_0 (fun n i s => wX_takeChangeBack_11 post (nI col) (nI (N (col / 3))) toX soX coX ouX kyX moX diX rrX rwX n (nI i) s rcX unX rqX taX acX sceX srcX sunX srqX staX sacX stX cfX cpX chX csX okX ocX koX kfX cbX mkX fvX ovX rsX rtX) (fun i s => (∀ c r, c < 9 → r < N (c / 3) → c ≠ col → s (16 * c + r) = D c r) ∧ ∀ r, r < i → s (16 * col + r) = D col r) (N (col / 3)) ceX ⟨fun c r hc hr hne => by rw [hC.2 c r hc hr, hD c r hne], lt_0⟩ ?_ ?_
  · intro n s hI
    refine br_t (nI_le (Nat.le_refl _) (by omega)) (h _ ⟨hC.1, fun c r hc' hr => ?_⟩)
    by_cases e : c = col
    · subst e
      exact hI.2 r hr
    · exact hI.1 c r hc' hr e
  · intro n i s hi hI hn
    have hv1 : vp_in (16 * nI col + nI i) 144 := by rw [nz_16]; exact vp_in_nI (by omega) (by decide)
    have e1 : (16 * nI col + nI i).toNatClampNeg = 16 * col + i := by rw [nz_16, nI_clamp (by omega)]
    refine br_f (nI_ge hi (by omega)) ⟨vp_in_nI (by omega) (by decide), hv1, nm_r (e' := vp_updL s (16 * col + i) (D col i)) (by rw [e1, nI_clamp (by omega), hf i hi]) (nm_r (nI_1 i) (hn _ ⟨fun c r hc' hr hne => ?_, lt_s (fun r hr => ?_) pk_uLs⟩))⟩
    · have h16' := (hC.1 (c / 3) (by omega)).2
      rw [pk_uLn (by omega)]
      exact hI.1 c r hc' hr hne
    · rw [pk_uLn (by omega)]
      exact hI.2 r hr
theorem ch_all {D' : Nat → Nat → Int64} (hK : db_K N D U R T A) {col : Nat} (hc : col < 9) (hD : ∀ c r, c ≠ col → D' c r = D c r) : (fi_t N D' (U col) (R col) (T col) col ∧ ∀ q, q < 9 → T q = col → fi_s N D' col q) ↔ ∀ c, c < 9 → fi_t N D' (U c) (R c) (T c) c := by
  constructor
  · rintro ⟨h, hs⟩ c hc'
    by_cases e : c = col
    · subst e
      exact h
    · obtain ⟨_, _, f1, f2, f3⟩ := hK.1 c hc'
      refine ⟨fun hu i j hj hi hv => ?_, fun hr i hi => ?_, fun ht => ?_⟩
      · rw [hD _ _ e] at hv ⊢
        rw [hD _ _ e]
        exact f1 hu i j hj hi hv
      · rw [hD _ _ e]
        exact f2 hr i hi
      · by_cases et : T c = col
        · rw [et]
          exact hs c hc' et
        · intro i hi hv
          rw [hD _ _ e] at hv ⊢
          obtain ⟨j, hj, ej⟩ := f3 ht i hi hv
          exact ⟨j, hj, by rw [hD _ _ et]; exact ej⟩
  · intro h
    refine ⟨h col hc, fun q hq e => ?_⟩
    have := (h q hq).2.2 (by rw [e]; exact hc)
    rw [e] at this
    exact this
end
