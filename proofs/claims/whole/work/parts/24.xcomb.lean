/-! the combinations that hold, in their order -/
def nn_f (N S : Nat → Nat) (ns s : Nat) : Nat := if s < ns then N (S s) else 1
noncomputable def hq_b (N : Nat → Nat) (D : Nat → Nat → Int64) (ns nc : Nat) (S CS CC CO : Nat → Nat) (CI : Nat → Bool) (CW : Nat → Int32) : Nat → Bool := fun q => @decide ((∀ s, s < 3 → ro_w q s < nn_f N S ns s) ∧ co_h D S (ro_w q) CS CC CO CI CW nc) (Classical.propDecidable _)
theorem hq_i {N : Nat → Nat} {D : Nat → Nat → Int64} {ns nc : Nat} {S CS CC CO : Nat → Nat} {CI : Nat → Bool} {CW : Nat → Int32} {q : Nat} : hq_b N D ns nc S CS CC CO CI CW q = true ↔ (∀ s, s < 3 → ro_w q s < nn_f N S ns s) ∧ co_h D S (ro_w q) CS CC CO CI CW nc := @decide_eq_true_iff _ (Classical.propDecidable _)
theorem cn_skip {f : Nat → Bool} {a b : Nat} (hab : a ≤ b) (h : ∀ q, a ≤ q → q < b → f q = false) : cn_b f b = cn_b f a := by
  induction b with
  | zero =>
    have : a = 0 := by omega
    subst this
    rfl
  | succ b ih =>
    by_cases e : a = b + 1
    · subst e
      rfl
    · rw [cn_f (by rw [h b (by omega) (by omega)]; decide)]
      exact ih (by omega) (fun q h1 h2 => h q h1 (by omega))
theorem ro_q {i j k : Nat} (hi : i < 16) (hj : j < 16) (hk : k < 16) : ro_w (256 * i + 16 * j + k) 0 = i ∧ ro_w (256 * i + 16 * j + k) 1 = j ∧ ro_w (256 * i + 16 * j + k) 2 = k := by
  refine ⟨?_, ?_, ?_⟩
  · show (256 * i + 16 * j + k) / 256 % 16 = i
    omega
  · show (256 * i + 16 * j + k) / 16 % 16 = j
    omega
  · show (256 * i + 16 * j + k) % 16 = k
    omega
theorem nn_le {N S : Nat → Nat} {ns : Nat} (hN : ∀ t, t < 3 → N t ≤ 16) (hS : ∀ s, s < ns → S s < 3) (s : Nat) : nn_f N S ns s ≤ 16 := by
  unfold nn_f
  split
  · rename_i h
    exact hN _ (hS s h)
  · decide
section
variable {toX soX coX ouX kyX moX diX rrX rwX : Int32} {ceX sceX fvX ovX rsX : Nat → Int64} {rcX unX rqX taX acX srcX sunX srqX staX sacX stX cfX cpX chX csX okX ocX koX kfX cbX mkX rtX : Nat → Int32} {N : Nat → Nat} {D : Nat → Nat → Int64} {ns nc no : Nat} {S CS CC CO OK OS OC : Nat → Nat} {CI : Nat → Bool} {CW : Nat → Int32} {jo : Bool} {g0 : Nat}
theorem xm_toCombine {post : Int32 → Prop} (hC : db_xc N D ceX rcX) (h3 : ns ≤ 3) (hS : ∀ s, s < ns → S s < 3) (hst : ∀ s, s < ns → stX s = nI (S s)) {s : Nat} (hs : s < 3) (h : post (nI (nn_f N S ns s))) : wpX_rowsToCombine post (toX, nI ns, coX, ouX, kyX, moX, diX, rrX, rwX, ceX, rcX, unX, rqX, taX, acX, sceX, srcX, sunX, srqX, staX, sacX, stX, cfX, cpX, chX, csX, okX, ocX, koX, kfX, cbX, mkX, fvX, ovX, rsX, rtX) (nI s) := by
  refine pk_le ns s (fun z => ?_) (fun z => ?_)
  · unfold nn_f at h
    rw [if_neg (by omega)] at h
    exact h
  · unfold nn_f at h
    rw [if_pos z] at h
    have hs3 := hS s z
    refine ⟨vp_in_nI hs (by decide), ?_⟩
    rw [nI_clamp (by omega), hst s z, nI_clamp (by omega), (hC.1 _ hs3).1]
    exact ⟨vp_in_nI hs3 (by decide), h⟩
/-- X at the place Q of the 4096 -/
noncomputable def xq_I (N : Nat → Nat) (D : Nat → Nat → Int64) (S OK OS OC : Nat → Nat) (no : Nat) (jo : Bool) (g0 : Nat) (hb : Nat → Bool) (Q : Nat) (s : Int32 × (Nat → Int32) × (Nat → Int64) × (Nat → Int64) × (Nat → Int32)) : Prop :=
  s.1 = nI (gr_s (al_b no OK (ou_v D S OS OC)) jo g0 (se_l hb 4096) (cn_b hb Q)).1 ∧ (gr_s (al_b no OK (ou_v D S OS OC)) jo g0 (se_l hb 4096) (cn_b hb Q)).1 ≤ 60 ∧ rx_I D N S OK OS OC no jo g0 (se_l hb 4096) (cn_b hb Q) s.2.2.2.1 s.2.2.2.2
theorem xq_skip {hb : Nat → Bool} {a b : Nat} {s : Int32 × (Nat → Int32) × (Nat → Int64) × (Nat → Int64) × (Nat → Int32)} (hab : a ≤ b) (h : ∀ q, a ≤ q → q < b → hb q = false) (hI : xq_I N D S OK OS OC no jo g0 hb a s) : xq_I N D S OK OS OC no jo g0 hb b s := by
  unfold xq_I at hI ⊢
  rw [cn_skip hab h]
  exact hI
theorem xm_combs {post : Int32 → SX → Prop} (hC : db_xc N D ceX rcX) (hck : ck_c ns nc S CS CC CO CI CW) (hst : ∀ s, s < ns → stX s = nI (S s)) (hcx : cx_c nc CS CC CO CI CW cfX cpX chX csX) (hk : ko_c ns no OK OS OC) (ho : kx_o no OK OS OC okX ocX)
    (hrng : ∀ c r, c < 9 → r < N (c / 3) → D c r = nu_l ∨ ∃ z : Int32, D c r = z.toInt64) {hb : Nat → Bool} (ehb : hb = hq_b N D ns nc S CS CC CO CI CW)
    (hstart : xq_I N D S OK OS OC no jo g0 hb 0 (rrX, cbX, ovX, rsX, rtX))
    (h1 : (gr_s (al_b no OK (ou_v D S OS OC)) jo g0 (se_l hb 4096) (cn_b hb 4096)).1 ≤ 60 → ∀ cb ov rs rt, rx_I D N S OK OS OC no jo g0 (se_l hb 4096) (cn_b hb 4096) rs rt → post 1 (toX, nI ns, nI nc, nI no, kyX, moX, diX, nI (gr_s (al_b no OK (ou_v D S OS OC)) jo g0 (se_l hb 4096) (cn_b hb 4096)).1, rwX, ceX, rcX, unX, rqX, taX, acX, sceX, srcX, sunX, srqX, staX, sacX, stX, cfX, cpX, chX, csX, okX, ocX, koX, kfX, cb, mkX, fvX, ov, rs, rt))
    (h0 : 60 < (gr_s (al_b no OK (ou_v D S OS OC)) jo g0 (se_l hb 4096) (cn_b hb 4096)).1 → ∀ rr cb ov rs rt, post 0 (toX, nI ns, nI nc, nI no, kyX, moX, diX, rr, rwX, ceX, rcX, unX, rqX, taX, acX, sceX, srcX, sunX, srqX, staX, sacX, stX, cfX, cpX, chX, csX, okX, ocX, koX, kfX, cb, mkX, fvX, ov, rs, rt)) : wpX_takeCombinations post (toX, nI ns, nI nc, nI no, kyX, moX, diX, rrX, rwX, ceX, rcX, unX, rqX, taX, acX, sceX, srcX, sunX, srqX, staX, sacX, stX, cfX, cpX, chX, csX, okX, ocX, koX, kfX, cbX, mkX, fvX, ovX, rsX, rtX) (bo_i jo) := by
  obtain ⟨h3, h6, hS, hcK⟩ := hck
  have hck : ck_c ns nc S CS CC CO CI CW := ⟨h3, h6, hS, hcK⟩
  have hN : ∀ t, t < 3 → N t ≤ 16 := fun t ht => (hC.1 t ht).2
  have n0 := nn_le (S := S) (ns := ns) hN hS 0
  have n1 := nn_le (S := S) (ns := ns) hN hS 1
  have n2 := nn_le (S := S) (ns := ns) hN hS 2
  have hbv : ∀ q, hb q = true → ∀ s, s < 3 → ro_w q s < nn_f N S ns s := by
    intro q hq
    rw [ehb] at hq
    exact (hq_i.mp hq).1
  have hbf : ∀ q s, s < 3 → nn_f N S ns s ≤ ro_w q s → hb q = false := by
    intro q s hs hle
    rw [Bool.eq_false_iff]
    intro z
    have := hbv q z s hs
    omega
  unfold wpX_takeCombinations
  dsimp only
  refine xm_toCombine hC h3 hS hst (s := 0) (by decide) (xm_toCombine hC h3 hS hst (s := 1) (by decide) (xm_toCombine hC h3 hS hst (s := 2) (by decide) ?_))
  refine loop_0 (fun n i (s : Int32 × (Nat → Int32) × (Nat → Int64) × (Nat → Int64) × (Nat → Int32)) => wX_takeCombinations_22 post (bo_i jo) (nI (nn_f N S ns 0)) (nI (nn_f N S ns 1)) (nI (nn_f N S ns 2)) n (nI i) toX (nI ns) (nI nc) (nI no) kyX moX diX s.1 rwX ceX rcX unX rqX taX acX sceX srcX sunX srqX staX sacX stX cfX cpX chX csX okX ocX koX kfX s.2.1 mkX fvX s.2.2.1 s.2.2.2.1 s.2.2.2.2) (fun i s => xq_I N D S OK OS OC no jo g0 hb (256 * i) s) (nn_f N S ns 0) (rrX, cbX, ovX, rsX, rtX) hstart ?_ ?_
  · rintro n ⟨rr, cb, ov, rs, rt⟩ hI
    have hI2 := xq_skip (b := 4096) (by omega) (fun q h1 h2 => hbf q 0 (by decide) (by show _ ≤ q / 256 % 16; omega)) hI
    obtain ⟨e, a, b⟩ := hI2
    have e : rr = _ := e
    subst e
    exact br_t (nI_le (Nat.le_refl _) (by omega)) (h1 a cb ov rs rt b)
  · rintro n i s hi hI hn
    refine br_f (nI_ge hi (by omega)) ?_
    refine loop_0 (fun m j (s : Int32 × (Nat → Int32) × (Nat → Int64) × (Nat → Int64) × (Nat → Int32)) => wX_takeCombinations_31 post (wX_takeCombinations_22 post (bo_i jo) (nI (nn_f N S ns 0)) (nI (nn_f N S ns 1)) (nI (nn_f N S ns 2)) n) (bo_i jo) (nI (nn_f N S ns 0)) (nI (nn_f N S ns 1)) (nI (nn_f N S ns 2)) (nI i) m (nI j) toX (nI ns) (nI nc) (nI no) kyX moX diX s.1 rwX ceX rcX unX rqX taX acX sceX srcX sunX srqX staX sacX stX cfX cpX chX csX okX ocX koX kfX s.2.1 mkX fvX s.2.2.1 s.2.2.2.1 s.2.2.2.2) (fun j s => xq_I N D S OK OS OC no jo g0 hb (256 * i + 16 * j) s) (nn_f N S ns 1) s hI ?_ ?_
    · intro m s hJ
      refine br_t (nI_le (Nat.le_refl _) (by omega)) (nm_r (nI_1 i) (hn s ?_))
      exact xq_skip (by omega) (fun q h1 h2 => hbf q 1 (by decide) (by show _ ≤ q / 16 % 16; omega)) hJ
    · rintro m j s hj hJ hm
      refine br_f (nI_ge hj (by omega)) ?_
      refine loop_0 (fun o k (s : Int32 × (Nat → Int32) × (Nat → Int64) × (Nat → Int64) × (Nat → Int32)) => wX_takeCombinations_40 post (wX_takeCombinations_22 post (bo_i jo) (nI (nn_f N S ns 0)) (nI (nn_f N S ns 1)) (nI (nn_f N S ns 2)) n) (wX_takeCombinations_31 post (wX_takeCombinations_22 post (bo_i jo) (nI (nn_f N S ns 0)) (nI (nn_f N S ns 1)) (nI (nn_f N S ns 2)) n) (bo_i jo) (nI (nn_f N S ns 0)) (nI (nn_f N S ns 1)) (nI (nn_f N S ns 2)) (nI i) m) (bo_i jo) (nI (nn_f N S ns 0)) (nI (nn_f N S ns 1)) (nI (nn_f N S ns 2)) (nI i) (nI j) o (nI k) toX (nI ns) (nI nc) (nI no) kyX moX diX s.1 rwX ceX rcX unX rqX taX acX sceX srcX sunX srqX staX sacX stX cfX cpX chX csX okX ocX koX kfX s.2.1 mkX fvX s.2.2.1 s.2.2.2.1 s.2.2.2.2) (fun k s => xq_I N D S OK OS OC no jo g0 hb (256 * i + 16 * j + k) s) (nn_f N S ns 2) s hJ ?_ ?_
      · intro o s hL
        refine br_t (nI_le (Nat.le_refl _) (by omega)) (nm_r (nI_1 j) (hm s ?_))
        exact xq_skip (by omega) (fun q h1 h2 => hbf q 2 (by decide) (by show _ ≤ q % 16; omega)) hL
      · rintro o k ⟨rr, cb, ov, rs, rt⟩ hk' hL hl
        obtain ⟨r0, r1, r2⟩ := ro_q (i := i) (j := j) (k := k) (by omega) (by omega) (by omega)
        have hQ : 256 * i + 16 * j + k < 4096 := by omega
        have hlQ : ∀ s, xq_I N D S OK OS OC no jo g0 hb (256 * i + 16 * j + k + 1) s → wX_takeCombinations_40 post (wX_takeCombinations_22 post (bo_i jo) (nI (nn_f N S ns 0)) (nI (nn_f N S ns 1)) (nI (nn_f N S ns 2)) n) (wX_takeCombinations_31 post (wX_takeCombinations_22 post (bo_i jo) (nI (nn_f N S ns 0)) (nI (nn_f N S ns 1)) (nI (nn_f N S ns 2)) n) (bo_i jo) (nI (nn_f N S ns 0)) (nI (nn_f N S ns 1)) (nI (nn_f N S ns 2)) (nI i) m) (bo_i jo) (nI (nn_f N S ns 0)) (nI (nn_f N S ns 1)) (nI (nn_f N S ns 2)) (nI i) (nI j) o (nI (k + 1)) toX (nI ns) (nI nc) (nI no) kyX moX diX s.1 rwX ceX rcX unX rqX taX acX sceX srcX sunX srqX staX sacX stX cfX cpX chX csX okX ocX koX kfX s.2.1 mkX fvX s.2.2.1 s.2.2.2.1 s.2.2.2.2 := hl
        generalize hq : 256 * i + 16 * j + k = Q at *
        have hcb3 : ∀ s, s < 3 → upd (upd (upd cb 0 (nI i)) 1 (nI j)) 2 (nI k) s = nI (ro_w Q s) := by
          intro s hs
          have : s = 0 ∨ s = 1 ∨ s = 2 := by omega
          rcases this with z | z | z
          · subst z
            rw [r0]
            rfl
          · subst z
            rw [r1]
            rfl
          · subst z
            rw [r2]
            rfl
        have hval3 : ∀ s, s < 3 → ro_w Q s < nn_f N S ns s := by
          intro s hs
          have : s = 0 ∨ s = 1 ∨ s = 2 := by omega
          rcases this with z | z | z
          · subst z
            rw [r0]
            exact hi
          · subst z
            rw [r1]
            exact hj
          · subst z
            rw [r2]
            exact hk'
        have hcb : ∀ s, s < ns → upd (upd (upd cb 0 (nI i)) 1 (nI j)) 2 (nI k) s = nI (ro_w Q s) ∧ ro_w Q s < N (S s) := by
          intro s hs
          refine ⟨hcb3 s (by omega), ?_⟩
          have := hval3 s (by omega)
          unfold nn_f at this
          rw [if_pos hs] at this
          exact this
        refine br_f (nI_ge hk' (by omega)) (nm_e (nm_e (nm_e ?_)))
        refine xm_holds hC hck hst hcx hcb (fun hh => br_f (by decide) ?_) (fun hh => br_t rfl ?_)
        · have hbQ : hb Q = true := by
            rw [ehb]
            exact hq_i.mpr ⟨hval3, hh⟩
          have eC : se_l hb 4096 (cn_b hb Q) = Q := se_cn hQ hbQ
          have hpM : cn_b hb Q < cn_b hb 4096 := cn_lt hQ hbQ
          have hpQ := cn_le hb Q
          obtain ⟨e, a, b⟩ := hL
          have e : rr = _ := e
          have eN := cn_t hbQ
          subst e
          refine xm_take hC h3 hS hst hk ho (p := cn_b hb Q) (by omega) (by rw [eC]; exact hcb) (fun k' i' hk2 hi2 => ?_) a b (fun hle ov' rs' rt' hI' => br_f (by decide) ?_) (fun hgt ov' => br_t rfl ?_)
          · obtain ⟨x1, x2, x3⟩ := se_i (f := hb) 4096 i' (by omega)
            obtain ⟨o1, o2, o3⟩ := hk.2 k' hk2
            have hv := hbv _ x2 (OS k') (by omega)
            unfold nn_f at hv
            rw [if_pos o2] at hv
            have hs3 := hS _ o2
            exact hrng (3 * S (OS k') + OC k') _ (by omega) (by rw [show (3 * S (OS k') + OC k') / 3 = S (OS k') by omega]; exact hv)
          · refine nm_r (nI_1 k) (hlQ (_, _, _, _, _) ?_)
            unfold xq_I
            rw [eN]
            exact ⟨rfl, hle, hI'⟩
          · refine h0 (Nat.lt_of_lt_of_le hgt (gr_mono hpM)) _ _ _ _ _
        · have hbQ : hb Q = false := by
            rw [Bool.eq_false_iff]
            intro z
            rw [ehb] at z
            exact hh (hq_i.mp z).2
          refine nm_r (nI_1 k) (hlQ (rr, upd (upd (upd cb 0 (nI i)) 1 (nI j)) 2 (nI k), ov, rs, rt) ?_)
          unfold xq_I
          rw [cn_f (by rw [hbQ]; decide)]
          exact hL
end
