/-- what X holds of the result after p combinations -/
noncomputable def rx_I (D : Nat → Nat → Int64) (N S OK OS OC : Nat → Nat) (no : Nat) (jo : Bool) (g0 : Nat) (C : Nat → Nat) (p : Nat) (rs : Nat → Int64) (rt : Nat → Int32) : Prop :=
  ∀ g k, g < (gr_s (al_b no OK (ou_v D S OS OC)) jo g0 C p).1 → k < no →
    (OK k = 0 → rs (4 * g + k) = ou_v D S OS OC ((gr_s (al_b no OK (ou_v D S OS OC)) jo g0 C p).2 g) k) ∧
    (OK k ≠ 0 → rs (4 * g + k) = rv_v OK OS (ou_v D S OS OC) (ou_w D S OS OC) C (gr_g (al_b no OK (ou_v D S OS OC)) jo g0 C) p g k) ∧
    (OK k = 6 → mi_m (ou_w D S OS OC k) (fo_e (ac_b OK (ou_v D S OS OC) C (gr_g (al_b no OK (ou_v D S OS OC)) jo g0 C) g k) (fun i => ro_w (C i) (OS k)) p) (rt (4 * g + k)) (N (S (OS k))))
section
variable {toX soX coX ouX kyX moX diX rrX rwX : Int32} {ceX sceX fvX ovX rsX : Nat → Int64} {rcX unX rqX taX acX srcX sunX srqX staX sacX stX cfX cpX chX csX okX ocX koX kfX cbX mkX rtX : Nat → Int32} {N : Nat → Nat} {D : Nat → Nat → Int64} {ns no : Nat} {S OK OS OC : Nat → Nat} {G C : Nat → Nat}
theorem rv_skip {V W : Nat → Nat → Int64} {p g k : Nat} (h : ¬ ac_b OK V C G g k p = true) : rv_v OK OS V W C G (p + 1) g k = rv_v OK OS V W C G p g k := by
  unfold rv_v
  rw [fo_n h, fe_n h]
theorem xm_add {post : SX → Prop} (hC : db_xc N D ceX rcX) (h3 : ns ≤ 3) (hS : ∀ s, s < ns → S s < 3) (hst : ∀ s, s < ns → stX s = nI (S s)) (hk : ko_c ns no OK OS OC) (ho : kx_o no OK OS OC okX ocX) {k g p : Nat} (hkn : k < no) (hg : g < 60) (hp : p < 4096) (hG : G p = g)
    (hcb : ∀ s, s < ns → cbX s = nI (ro_w (C p) s) ∧ ro_w (C p) s < N (S s)) (hov : ovX k = ou_v D S OS OC (C p) k)
    (hval : ∀ i, i < p + 1 → ou_v D S OS OC (C i) k = nu_l ∨ ∃ z : Int32, ou_v D S OS OC (C i) k = z.toInt64)
    (hcur : OK k ≠ 0 → rsX (4 * g + k) = rv_v OK OS (ou_v D S OS OC) (ou_w D S OS OC) C G p g k)
    (hmi : OK k = 6 → mi_m (ou_w D S OS OC k) (fo_e (ac_b OK (ou_v D S OS OC) C G g k) (fun i => ro_w (C i) (OS k)) p) (rtX (4 * g + k)) (N (S (OS k))))
    (h : ∀ rs rt, (∀ y, y ≠ 4 * g + k → rs y = rsX y ∧ rt y = rtX y) → (OK k = 0 → rs (4 * g + k) = rsX (4 * g + k)) → (OK k ≠ 0 → rs (4 * g + k) = rv_v OK OS (ou_v D S OS OC) (ou_w D S OS OC) C G (p + 1) g k) → (OK k = 6 → mi_m (ou_w D S OS OC k) (fo_e (ac_b OK (ou_v D S OS OC) C G g k) (fun i => ro_w (C i) (OS k)) (p + 1)) (rt (4 * g + k)) (N (S (OS k)))) → post (toX, soX, coX, ouX, kyX, moX, diX, rrX, rwX, ceX, rcX, unX, rqX, taX, acX, sceX, srcX, sunX, srqX, staX, sacX, stX, cfX, cpX, chX, csX, okX, ocX, koX, kfX, cbX, mkX, fvX, ovX, rs, rt)) : wpX_addToOutput post (toX, soX, coX, ouX, kyX, moX, diX, rrX, rwX, ceX, rcX, unX, rqX, taX, acX, sceX, srcX, sunX, srqX, staX, sacX, stX, cfX, cpX, chX, csX, okX, ocX, koX, kfX, cbX, mkX, fvX, ovX, rsX, rtX) (nI (4 * g + k)) (nI k) := by
  obtain ⟨h4, hko⟩ := hk
  obtain ⟨h7, hs, hc⟩ := hko k hkn
  have hv : vp_in (nI k) 4 := vp_in_nI (by omega) (by decide)
  have hvx : vp_in (nI (4 * g + k)) 240 := vp_in_nI (by omega) (by decide)
  have ek : (nI k).toNatClampNeg = k := nI_clamp (by omega)
  have ex : (nI (4 * g + k)).toNatClampNeg = 4 * g + k := nI_clamp (by omega)
  refine ⟨hv, nm_r (e' := nI (OK k)) (by rw [ek]; exact (ho k hkn).1) ⟨hv, nm_r (e' := ou_v D S OS OC (C p) k) (by rw [ek]; exact hov) ?_⟩⟩
  rw [ex, ek, (ho k hkn).2]
  -- a place that gets w
  have put : ∀ w, OK k ≠ 0 → OK k ≠ 6 → w = rv_v OK OS (ou_v D S OS OC) (ou_w D S OS OC) C G (p + 1) g k → post (toX, soX, coX, ouX, kyX, moX, diX, rrX, rwX, ceX, rcX, unX, rqX, taX, acX, sceX, srcX, sunX, srqX, staX, sacX, stX, cfX, cpX, chX, csX, okX, ocX, koX, kfX, cbX, mkX, fvX, ovX, vp_updL rsX (4 * g + k) w, rtX) := by
    intro w h0 h6 ew
    refine h _ _ (fun y hy => ⟨pk_uLn hy, rfl⟩) (fun z => absurd z h0) (fun _ => ?_) (fun z => absurd z h6)
    rw [pk_uLs, ew]
  have ac1 : vx_v OK (ou_v D S OS OC) C k p ≠ nu_l → ac_b OK (ou_v D S OS OC) C G g k p = true := fun z => ac_i.mpr ⟨hG, z⟩
  by_cases k0 : OK k = 0
  · exact br_t (by rw [k0]; rfl) (h _ _ (fun _ _ => ⟨rfl, rfl⟩) (fun _ => rfl) (fun z => absurd k0 z) (fun z => by omega))
  · refine br_f (op_ne (b := 0) (by omega) (by decide) k0) ?_
    have hcur := hcur k0
    by_cases k1 : OK k = 1
    · refine br_t (by rw [k1]; rfl) ⟨hvx, hvx, nm_e (put _ k0 (by omega) ?_)⟩
      have ha := ac1 (by unfold vx_v; rw [if_pos k1]; decide)
      rw [hcur]
      unfold rv_v
      rw [fv_c (by omega), fv_c (by omega), fo_t ha, lN_1]
    · refine br_f (op_ne (b := 1) (by omega) (by decide) k1) ?_
      have evx : ∀ i, vx_v OK (ou_v D S OS OC) C k i = ou_v D S OS OC (C i) k := fun i => if_neg k1
      by_cases hn : ou_v D S OS OC (C p) k = nu_l
      · have ha : ¬ ac_b OK (ou_v D S OS OC) C G g k p = true := fun z => (ac_i.mp z).2 ((evx p).trans hn)
        refine br_t hn (h _ _ (fun _ _ => ⟨rfl, rfl⟩) (fun _ => rfl) (fun _ => ?_) (fun z => ?_))
        · rw [rv_skip ha]
          exact hcur
        · rw [fe_n ha]
          exact hmi z
      · have ha := ac1 (by rw [evx]; exact hn)
        refine br_f hn ?_
        by_cases k2 : OK k = 2
        · refine br_t (by rw [k2]; rfl) ⟨hvx, hvx, nm_e (put _ k0 (by omega) ?_)⟩
          rw [hcur]
          unfold rv_v
          rw [fv_c (by omega), fv_c (by omega), fo_t ha, lN_1]
        · refine br_f (op_ne (b := 2) (by omega) (by decide) k2) ?_
          by_cases k6 : OK k = 6
          · refine br_t (by rw [k6]; rfl) ⟨hv, ?_⟩
            obtain ⟨ecb, hr⟩ := hcb (OS k) hs
            have h16 := (hC.1 (S (OS k)) (hS _ hs)).2
            refine xm_new (post := fun u => post u) hC h3 hS hst hs hc (by omega) ecb hr (hmi k6) (fun hex hm' => ?_) (fun b hno hm' => ?_)
            · refine h _ _ (fun _ _ => ⟨rfl, rfl⟩) (fun _ => rfl) (fun _ => ?_) (fun _ => ?_)
              · rw [hcur]
                unfold rv_v
                rw [k6, fv_6, fv_6, fe_t ha, dn_old (W := ou_w D S OS OC k) (by omega) hex]
              · rw [fe_t ha]
                exact hm'
            · refine h _ _ (fun y hy => ⟨pk_uLn hy, pk_un hy⟩) (fun z => absurd z k0) (fun _ => ?_) (fun _ => ?_)
              · rw [pk_uLs, hcur]
                unfold rv_v
                rw [k6, fv_6, fv_6, fe_t ha, dn_new (W := ou_w D S OS OC k) (by omega) hno, lN_1]
              · rw [pk_us, fe_t ha]
                exact hm'
          · refine br_f (op_ne (b := 6) (by omega) (by decide) k6) ⟨hvx, ?_⟩
            rw [hcur, ← evx p]
            refine xm_joined (by omega) hp ha (fun i hi hai => ?_) ⟨hvx, nm_e (put _ k0 k6 rfl)⟩
            rcases hval i hi with z | z
            · exact absurd ((evx i).trans z) (ac_i.mp hai).2
            · rw [evx]
              exact z
theorem xm_addAll {post : Int32 → SX → Prop} (hC : db_xc N D ceX rcX) (h3 : ns ≤ 3) (hS : ∀ s, s < ns → S s < 3) (hst : ∀ s, s < ns → stX s = nI (S s)) (hk : ko_c ns no OK OS OC) (ho : kx_o no OK OS OC okX ocX) {g p : Nat} (hg : g < 60) (hp : p < 4096) (hG : G p = g)
    (hcb : ∀ s, s < ns → cbX s = nI (ro_w (C p) s) ∧ ro_w (C p) s < N (S s)) (hov : ∀ k, k < no → ovX k = ou_v D S OS OC (C p) k)
    (hval : ∀ k i, k < no → i < p + 1 → ou_v D S OS OC (C i) k = nu_l ∨ ∃ z : Int32, ou_v D S OS OC (C i) k = z.toInt64)
    (hcur : ∀ k, k < no → OK k ≠ 0 → rsX (4 * g + k) = rv_v OK OS (ou_v D S OS OC) (ou_w D S OS OC) C G p g k)
    (hmi : ∀ k, k < no → OK k = 6 → mi_m (ou_w D S OS OC k) (fo_e (ac_b OK (ou_v D S OS OC) C G g k) (fun i => ro_w (C i) (OS k)) p) (rtX (4 * g + k)) (N (S (OS k))))
    (h : ∀ rs rt, (∀ g' k, g' ≠ g → k < 4 → rs (4 * g' + k) = rsX (4 * g' + k) ∧ rt (4 * g' + k) = rtX (4 * g' + k)) → (∀ k, k < no → OK k = 0 → rs (4 * g + k) = rsX (4 * g + k)) → (∀ k, k < no → OK k ≠ 0 → rs (4 * g + k) = rv_v OK OS (ou_v D S OS OC) (ou_w D S OS OC) C G (p + 1) g k) → (∀ k, k < no → OK k = 6 → mi_m (ou_w D S OS OC k) (fo_e (ac_b OK (ou_v D S OS OC) C G g k) (fun i => ro_w (C i) (OS k)) (p + 1)) (rt (4 * g + k)) (N (S (OS k)))) → post 1 (toX, soX, coX, nI no, kyX, moX, diX, rrX, rwX, ceX, rcX, unX, rqX, taX, acX, sceX, srcX, sunX, srqX, staX, sacX, stX, cfX, cpX, chX, csX, okX, ocX, koX, kfX, cbX, mkX, fvX, ovX, rs, rt)) : ∃ n, wX_takeCombination_45 post (nI g) n 0 toX soX coX (nI no) kyX moX diX rrX rwX ceX rcX unX rqX taX acX sceX srcX sunX srqX staX sacX stX cfX cpX chX csX okX ocX koX kfX cbX mkX fvX ovX rsX rtX := by
  have h4 := hk.1
  refine loop_0 (fun n i (s : (Nat → Int64) × (Nat → Int32)) => wX_takeCombination_45 post (nI g) n (nI i) toX soX coX (nI no) kyX moX diX rrX rwX ceX rcX unX rqX taX acX sceX srcX sunX srqX staX sacX stX cfX cpX chX csX okX ocX koX kfX cbX mkX fvX ovX s.1 s.2) (fun i s => (∀ g' k, g' ≠ g → k < 4 → s.1 (4 * g' + k) = rsX (4 * g' + k) ∧ s.2 (4 * g' + k) = rtX (4 * g' + k)) ∧ (∀ k, k < no → OK k = 0 → s.1 (4 * g + k) = rsX (4 * g + k)) ∧ (∀ k, k < no → OK k ≠ 0 → s.1 (4 * g + k) = rv_v OK OS (ou_v D S OS OC) (ou_w D S OS OC) C G (if k < i then p + 1 else p) g k) ∧ ∀ k, k < no → OK k = 6 → mi_m (ou_w D S OS OC k) (fo_e (ac_b OK (ou_v D S OS OC) C G g k) (fun i => ro_w (C i) (OS k)) (if k < i then p + 1 else p)) (s.2 (4 * g + k)) (N (S (OS k)))) no (rsX, rtX) ⟨fun _ _ _ _ => ⟨rfl, rfl⟩, fun _ _ _ => rfl, fun k hk' e => by rw [if_neg (Nat.not_lt_zero _)]; exact hcur k hk' e, fun k hk' e => by rw [if_neg (Nat.not_lt_zero _)]; exact hmi k hk' e⟩ ?_ ?_
  · rintro n ⟨rs, rt⟩ ⟨a, b, c, d⟩
    refine br_t (nI_le (Nat.le_refl _) (by omega)) (h rs rt a b (fun k hk' e => ?_) (fun k hk' e => ?_))
    · have := c k hk' e
      rw [if_pos hk'] at this
      exact this
    · have := d k hk' e
      rw [if_pos hk'] at this
      exact this
  · rintro n i ⟨rs, rt⟩ hi ⟨a, b, c, d⟩ hn
    refine br_f (nI_ge hi (by omega)) ?_
    rw [nz_4]
    refine xm_add hC h3 hS hst hk ho hi hg hp hG hcb (hov i hi) (fun j hj => hval i j hi hj) (fun e => ?_) (fun e => ?_) (fun rs' rt' a' b' c' d' => ?_)
    · have := c i hi e
      rw [if_neg (Nat.lt_irrefl _)] at this
      exact this
    · have := d i hi e
      rw [if_neg (Nat.lt_irrefl _)] at this
      exact this
    · refine nm_r (nI_1 i) (hn (rs', rt') ⟨fun g' k hg' hk' => ?_, fun k hk' e => ?_, fun k hk' e => ?_, fun k hk' e => ?_⟩)
      · show rs' _ = _ ∧ rt' _ = _
        rw [(a' _ (by omega)).1, (a' _ (by omega)).2]
        exact a g' k hg' hk'
      · show rs' _ = _
        by_cases ek : k = i
        · subst ek
          rw [b' e]
          exact b k hk' e
        · rw [(a' _ (by omega)).1]
          exact b k hk' e
      · show rs' _ = _
        by_cases ek : k = i
        · subst ek
          rw [if_pos (Nat.lt_succ_self _)]
          exact c' e
        · rw [(a' _ (by omega)).1]
          have := c k hk' e
          by_cases z : k < i
          · rw [if_pos z] at this
            rw [if_pos (by omega)]
            exact this
          · rw [if_neg z] at this
            rw [if_neg (by omega)]
            exact this
      · show mi_m _ _ (rt' _) _
        by_cases ek : k = i
        · subst ek
          rw [if_pos (Nat.lt_succ_self _)]
          exact d' e
        · rw [(a' _ (by omega)).2]
          have := d k hk' e
          by_cases z : k < i
          · rw [if_pos z] at this
            rw [if_pos (by omega)]
            exact this
          · rw [if_neg z] at this
            rw [if_neg (by omega)]
            exact this
theorem sr_rv {V W : Nat → Nat → Int64} {p g k : Nat} {v : Int64} (h7 : OK k < 7) (h0 : OK k ≠ 0) (hno : ∀ i, i < p → G i ≠ g) : sr_v (OK k) v = rv_v OK OS V W C G p g k := by
  have ha : ∀ i, i < p → ¬ ac_b OK V C G g k i = true := fun i hi z => hno i hi (ac_i.mp z).1
  unfold rv_v
  rw [fo_0 ha, fe_0 ha]
  unfold sr_v
  rw [if_neg h0]
  by_cases h3 : OK k < 3
  · rw [fv_c h3, if_neg (by omega)]
    rfl
  · by_cases h6 : OK k = 6
    · rw [h6, fv_6, dn_0 (fun _ _ => rfl), if_neg (by decide)]
      rfl
    · rw [fv_0 h3 h6 rfl, if_pos (by omega)]
theorem mi_0 {W : Nat → Int64} {p g k n : Nat} {V : Nat → Nat → Int64} (hno : ∀ i, i < p → G i ≠ g) : mi_m W (fo_e (ac_b OK V C G g k) (fun i => ro_w (C i) (OS k)) p) 0 n := by
  have ha : ∀ i, i < p → ¬ ac_b OK V C G g k i = true := fun i hi z => hno i hi (ac_i.mp z).1
  rw [fe_0 ha]
  exact ⟨fun r _ z => by rw [bt_z] at z; exact absurd z (by decide), fun r _ z => absurd z Bool.false_ne_true⟩
end
section
variable {toX soX coX ouX kyX moX diX rrX rwX : Int32} {ceX sceX fvX ovX rsX : Nat → Int64} {rcX unX rqX taX acX srcX sunX srqX staX sacX stX cfX cpX chX csX okX ocX koX kfX cbX mkX rtX : Nat → Int32} {N : Nat → Nat} {D : Nat → Nat → Int64} {ns no : Nat} {S OK OS OC : Nat → Nat} {C : Nat → Nat} {jo : Bool} {g0 : Nat}
theorem xm_take {post : Int32 → SX → Prop} (hC : db_xc N D ceX rcX) (h3 : ns ≤ 3) (hS : ∀ s, s < ns → S s < 3) (hst : ∀ s, s < ns → stX s = nI (S s)) (hk : ko_c ns no OK OS OC) (ho : kx_o no OK OS OC okX ocX) {p : Nat} (hp : p < 4096)
    (hcb : ∀ s, s < ns → cbX s = nI (ro_w (C p) s) ∧ ro_w (C p) s < N (S s))
    (hval : ∀ k i, k < no → i < p + 1 → ou_v D S OS OC (C i) k = nu_l ∨ ∃ z : Int32, ou_v D S OS OC (C i) k = z.toInt64)
    (hm : (gr_s (al_b no OK (ou_v D S OS OC)) jo g0 C p).1 ≤ 60) (hI : rx_I D N S OK OS OC no jo g0 C p rsX rtX)
    (h1 : (gr_s (al_b no OK (ou_v D S OS OC)) jo g0 C (p + 1)).1 ≤ 60 → ∀ ov rs rt, rx_I D N S OK OS OC no jo g0 C (p + 1) rs rt → post 1 (toX, soX, coX, nI no, kyX, moX, diX, nI (gr_s (al_b no OK (ou_v D S OS OC)) jo g0 C (p + 1)).1, rwX, ceX, rcX, unX, rqX, taX, acX, sceX, srcX, sunX, srqX, staX, sacX, stX, cfX, cpX, chX, csX, okX, ocX, koX, kfX, cbX, mkX, fvX, ov, rs, rt))
    (h0 : 60 < (gr_s (al_b no OK (ou_v D S OS OC)) jo g0 C (p + 1)).1 → ∀ ov, post 0 (toX, soX, coX, nI no, kyX, moX, diX, nI (gr_s (al_b no OK (ou_v D S OS OC)) jo g0 C p).1, rwX, ceX, rcX, unX, rqX, taX, acX, sceX, srcX, sunX, srqX, staX, sacX, stX, cfX, cpX, chX, csX, okX, ocX, koX, kfX, cbX, mkX, fvX, ov, rsX, rtX)) : wpX_takeCombination post (toX, soX, coX, nI no, kyX, moX, diX, nI (gr_s (al_b no OK (ou_v D S OS OC)) jo g0 C p).1, rwX, ceX, rcX, unX, rqX, taX, acX, sceX, srcX, sunX, srqX, staX, sacX, stX, cfX, cpX, chX, csX, okX, ocX, koX, kfX, cbX, mkX, fvX, ovX, rsX, rtX) (bo_i jo) := by
  unfold wpX_takeCombination
  dsimp only
  refine xm_readOut hC h3 hS hst hk ho hcb (fun ov hov => ?_)
  dsimp only
  have h4 := hk.1
  have main : wX_takeCombination_19 post (nI (gr_g (al_b no OK (ou_v D S OS OC)) jo g0 C p)) toX soX coX (nI no) kyX moX diX (nI (gr_s (al_b no OK (ou_v D S OS OC)) jo g0 C p).1) rwX ceX rcX unX rqX taX acX sceX srcX sunX srqX staX sacX stX cfX cpX chX csX okX ocX koX kfX cbX mkX fvX ov rsX rtX := by
    have hup := gr_up (al := al_b no OK (ou_v D S OS OC)) (jo := jo) (g0 := g0) (C := C) p
    have hgle := gr_le (al := al_b no OK (ou_v D S OS OC)) (jo := jo) (g0 := g0) (C := C) p
    have hgin : ∀ i, i < p → gr_g (al_b no OK (ou_v D S OS OC)) jo g0 C i < (gr_s (al_b no OK (ou_v D S OS OC)) jo g0 C p).1 := fun i hi => gr_in hi
    have hnew := gr_new (al := al_b no OK (ou_v D S OS OC)) (jo := jo) (g0 := g0) (C := C) (p := p)
    have hold := gr_old (al := al_b no OK (ou_v D S OS OC)) (jo := jo) (g0 := g0) (C := C) (p := p)
    unfold rx_I at hI h1
    generalize hs1 : gr_s (al_b no OK (ou_v D S OS OC)) jo g0 C p = s1 at *
    generalize hs2 : gr_s (al_b no OK (ou_v D S OS OC)) jo g0 C (p + 1) = s2 at *
    generalize hgg : gr_g (al_b no OK (ou_v D S OS OC)) jo g0 C = G at *
    by_cases e : G p = s1.1
    · have e2 := hnew e
      rw [e]
      refine br_t rfl (pk_lt s1.1 60 (fun hlt => ?_) (fun hge => ?_))
      · refine xm_startRow hk ho hlt (fun rs rt a b => ?_)
        refine xm_addAll hC h3 hS hst hk ho hlt hp e hcb hov hval (fun k hk' hne => ?_) (fun k hk' h6 => ?_) (fun rs' rt' a' b' c' d' => ?_)
        · rw [(b k hk').1]
          exact sr_rv (hk.2 k hk').1 hne (fun i hi => by have := hgin i hi; omega)
        · rw [(b k hk').2]
          exact mi_0 (fun i hi => by have := hgin i hi; omega)
        · have e3 : s2.1 = s1.1 + 1 := by rw [e2]
          rw [← e3]
          refine h1 (by omega) ov rs' rt' (fun g k hg hk' => ?_)
          rw [e2] at hg ⊢
          dsimp only at hg ⊢
          by_cases eg : g = s1.1
          · subst eg
            refine ⟨fun z => ?_, fun z => c' k hk' z, fun z => d' k hk' z⟩
            rw [if_pos rfl, b' k hk' z, (b k hk').1]
            unfold sr_v
            rw [if_pos z]
            exact hov k hk'
          · obtain ⟨i1, i2, i3⟩ := hI g k (by omega) hk'
            have hna : ¬ ac_b OK (ou_v D S OS OC) C G g k p = true := fun z => eg ((ac_i.mp z).1.symm.trans e)
            rw [if_neg eg, (a' g k eg (by omega)).1, (a' g k eg (by omega)).2, (a _ (by omega)).1, (a _ (by omega)).2, rv_skip hna, fe_n hna]
            exact ⟨i1, i2, i3⟩
      · exact h0 (by rw [e2]; exact Nat.lt_succ_of_le hge) ov
    · have e2 := hold e
      have hlt : G p < s1.1 := by omega
      refine br_f (op_ne (by omega) (by omega) e) ?_
      refine xm_addAll hC h3 hS hst hk ho (by omega) hp rfl hcb hov hval (fun k hk' hne => (hI _ k hlt hk').2.1 hne) (fun k hk' h6 => (hI _ k hlt hk').2.2 h6) (fun rs' rt' a' b' c' d' => ?_)
      rw [← e2]
      refine h1 (by rw [e2]; exact hm) ov rs' rt' (fun g k hg hk' => ?_)
      rw [e2] at hg ⊢
      obtain ⟨i1, i2, i3⟩ := hI g k hg hk'
      by_cases eg : g = G p
      · subst eg
        refine ⟨fun z => ?_, fun z => c' k hk' z, fun z => d' k hk' z⟩
        rw [b' k hk' z]
        exact i1 z
      · have hna : ¬ ac_b OK (ou_v D S OS OC) C G g k p = true := fun z => eg (ac_i.mp z).1.symm
        rw [(a' g k eg (by omega)).1, (a' g k eg (by omega)).2, rv_skip hna, fe_n hna]
        exact ⟨i1, i2, i3⟩
  cases jo with
  | false => exact br_t rfl main
  | true =>
    refine br_f (by decide) ?_
    refine xm_rowAlike (rp := (gr_s (al_b no OK (ou_v D S OS OC)) true g0 C p).2) hk ho hm hov (fun g k hg hk' e => (hI g k hg hk').1 e) ?_
    exact main
end
