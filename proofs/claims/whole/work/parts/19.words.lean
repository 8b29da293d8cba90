-- Part 19: measuring and assigning the words (written by wip/whole/gen19.py)
/-- after j joins -/
def sq_MI (cnt w gr len : Nat → Nat) (j : Nat) : Prop :=
  sq_HI cnt len gr w j ∧ sq_co cnt len + sq_hf (7 - j) w = sq_hf 7 cnt ∧ sq_lv w + j ≤ 8 ∧ (sq_se cnt = none → len = (fun _ => 0) ∧ w = cnt)
theorem sq_MI0 (cnt : Nat → Nat) : sq_MI cnt cnt (fun l => l) (fun _ => 0) 0 := by
  refine ⟨sq_HI0 cnt, ?_, sq_cle _ 8, fun _ => ⟨rfl, rfl⟩⟩
  have : sq_co cnt (fun _ => 0) = 0 := sq_s0 8 (fun l _ => Nat.mul_zero _)
  rw [this, Nat.zero_add]
theorem sq_MIs {cnt w gr len : Nat → Nat} {j f s : Nat} (H : sq_MI cnt w gr len j) (hj : j < 7) (hs : sq_se w = some s) (hf : sq_fi w = some f) (f8 : f < 8) (s8 : s < 8) (ne : f ≠ s) (lf : 0 < w f) (ls : 0 < w s) : sq_MI cnt (sq_jw w f s) (sq_jg gr f s) (sq_jl len gr f s) (j + 1) := by
  obtain ⟨h1, h2, h3, h4⟩ := H
  have c := sq_coj h1 f8 s8 ne
  have l := sq_jlv f8 s8 ne lf ls
  refine ⟨sq_HIj h1 hj f8 s8 ne lf ls, ?_, by omega, fun z => ?_⟩
  · rw [show 7 - j = (7 - (j + 1)) + 1 by omega, sq_hf_some hf hs] at h2
    omega
  · rw [(h4 z).2, z] at hs
    exact absurd hs (by simp)
/-- all joined -/
theorem sq_MIe {cnt w gr len : Nat → Nat} {j n : Nat} (H : sq_MI cnt w gr len j) (hj : j ≤ 7) (hs : sq_se w = none) (hc : sq_s cnt 8 = n) : sq_OK cnt (sq_fl cnt len) ∧ sq_co cnt (sq_fl cnt len) = sq_bits cnt n := by
  obtain ⟨h1, h2, h3, h4⟩ := H
  refine ⟨sq_fin h1 hj hs, ?_⟩
  unfold sq_bits
  by_cases z : sq_se cnt = none
  · rw [if_pos z, (h4 z).1, sq_co1 z, hc]
  · rw [if_neg z, sq_cofl h1 hj hs z, ← h2, sq_hf_none hs, Nat.add_zero]
theorem sq_MI7 {cnt w gr len : Nat → Nat} {j : Nat} (H : sq_MI cnt w gr len j) (hj : 7 ≤ j) : sq_se w = none := by
  cases e : sq_se w with
  | none => rfl
  | some s =>
    obtain ⟨f, _, f8, s8, ne, lf, ls, _, _⟩ := sq_se_some e
    have := sq_lv2 f8 s8 ne lf ls
    have := H.2.2.1
    omega
section
variable {f_length f_runCount f_streamLength : Int32} {a_letters : Nat → Int32} {a_plainWords a_treeBits a_matrixBits : Nat → Int64} {a_matrixZeros : Nat → Int32} {a_letterRows a_runWords : Nat → Int64} {a_letterCounts a_groupWeights a_groupOf a_codeLengths a_codes a_codesOfLength a_lettersByCode : Nat → Int32} {a_stream : Nat → Int64} {a_sampleStarts a_sampleRanks : Nat → Int32} {a_sparseHigh a_sparseLow : Nat → Int64}
theorem sq_xm82 {post : SX → Prop} {cnt len : Nat → Nat} (hc : ∀ l, l < 8 → a_letterCounts l = nI (cnt l) ∧ cnt l ≤ 200) (hl : ∀ l, l < 8 → a_codeLengths l = nI (len l) ∧ len l ≤ 7) (h : ∀ cl, (∀ l, l < 8 → cl l = nI (sq_fl cnt len l)) → post (f_length, f_runCount, f_streamLength, a_letters, a_plainWords, a_treeBits, a_matrixBits, a_matrixZeros, a_letterRows, a_runWords, a_letterCounts, a_groupWeights, a_groupOf, cl, a_codes, a_codesOfLength, a_lettersByCode, a_stream, a_sampleStarts, a_sampleRanks, a_sparseHigh, a_sparseLow)) : ∃ n', wX_measureCodes_82 post f_length f_runCount f_streamLength n' 0 a_letters a_plainWords a_treeBits a_matrixBits a_matrixZeros a_letterRows a_runWords a_letterCounts a_groupWeights a_groupOf a_codeLengths a_codes a_codesOfLength a_lettersByCode a_stream a_sampleStarts a_sampleRanks a_sparseHigh a_sparseLow :=
  loop_0 (σ := Nat → Int32) (fun n' i cl => wX_measureCodes_82 post f_length f_runCount f_streamLength n' (nI i) a_letters a_plainWords a_treeBits a_matrixBits a_matrixZeros a_letterRows a_runWords a_letterCounts a_groupWeights a_groupOf cl a_codes a_codesOfLength a_lettersByCode a_stream a_sampleStarts a_sampleRanks a_sparseHigh a_sparseLow) (fun i cl => ∀ l, l < 8 → cl l = nI (if l < i then sq_fl cnt len l else len l)) 8 a_codeLengths
    (fun l hl8 => by rw [if_neg (Nat.not_lt_zero l)]; exact (hl l hl8).1)
    (fun n' cl e => br_t (nI_le (Nat.le_refl 8) (by decide)) (h cl (fun l hl8 => by
      have := e l hl8
      rw [if_pos hl8] at this
      exact this)))
    (fun n' i cl hi e k => by
      have c : (nI i).toNatClampNeg = i := nI_clamp (by omega)
      have hin : vp_in (nI i) 8 := vp_in_nI hi (by decide)
      have ei := e i hi
      rw [if_neg (Nat.lt_irrefl i)] at ei
      obtain ⟨c1, c2⟩ := hc i hi
      obtain ⟨l1, l2⟩ := hl i hi
      have same : sq_fl cnt len i = len i → ∀ l, l < 8 → cl l = nI (if l < i + 1 then sq_fl cnt len l else len l) := by
        intro hs l hl8
        rw [e l hl8]
        by_cases z : l = i
        · rw [z, if_neg (Nat.lt_irrefl i), if_pos (Nat.lt_succ_self i), hs]
        · by_cases y : l < i
          · rw [if_pos y, if_pos (by omega)]
          · rw [if_neg y, if_neg (by omega)]
      refine br_f (nI_ge (b := 8) hi (by decide)) ⟨hin, pk_le (cnt i) 0 (fun z => ?_) (fun z => ⟨hin, pk_eq (len i) 0 (fun y => ⟨hin, ?_⟩) (fun y => ?_) (by rw [c]; exact ei)⟩) (by rw [c]; exact c1)⟩
      · exact nm_r (nI_1 i) (k cl (same (if_neg (by omega))))
      · refine nm_r (e' := upd cl i (nI 1)) (by rw [c]; rfl) (nm_r (nI_1 i) (k _ (fun l hl8 => ?_)))
        by_cases x : l = i
        · rw [x, pk_us, if_pos (Nat.lt_succ_self i)]
          unfold sq_fl
          rw [if_pos ⟨z, y⟩]
        · rw [pk_un x, e l hl8]
          by_cases y2 : l < i
          · rw [if_pos y2, if_pos (by omega)]
          · rw [if_neg y2, if_neg (by omega)]
      · exact nm_r (nI_1 i) (k cl (same (if_neg (fun q => y q.2)))))
theorem sq_xm42 {post : SX → Prop} {cnt : Nat → Nat} {n : Nat} (hs : sq_s cnt 8 = n) (hn : n ≤ 200) (hc : ∀ l, l < 8 → a_letterCounts l = nI (cnt l) ∧ cnt l ≤ 200) (h0 : ∀ k, k < 8 → a_groupWeights k = nI (cnt k) ∧ a_groupOf k = nI k ∧ a_codeLengths k = nI 0)
    (h : ∀ gw go cl len, (∀ l, l < 8 → cl l = nI (len l)) → sq_OK cnt len → sq_co cnt len = sq_bits cnt n → post (f_length, f_runCount, f_streamLength, a_letters, a_plainWords, a_treeBits, a_matrixBits, a_matrixZeros, a_letterRows, a_runWords, a_letterCounts, gw, go, cl, a_codes, a_codesOfLength, a_lettersByCode, a_stream, a_sampleStarts, a_sampleRanks, a_sparseHigh, a_sparseLow)) : ∃ n', wX_measureCodes_42 post n' 1 f_length f_runCount f_streamLength a_letters a_plainWords a_treeBits a_matrixBits a_matrixZeros a_letterRows a_runWords a_letterCounts a_groupWeights a_groupOf a_codeLengths a_codes a_codesOfLength a_lettersByCode a_stream a_sampleStarts a_sampleRanks a_sparseHigh a_sparseLow := by
  have ex : ∀ (gw go cl : Nat → Int32) (w gr len : Nat → Nat) (j : Nat), (∀ k, k < 8 → gw k = nI (w k) ∧ go k = nI (gr k) ∧ cl k = nI (len k)) → sq_MI cnt w gr len j → j ≤ 7 → sq_se w = none → ∃ n', wX_measureCodes_82 post f_length f_runCount f_streamLength n' 0 a_letters a_plainWords a_treeBits a_matrixBits a_matrixZeros a_letterRows a_runWords a_letterCounts gw go cl a_codes a_codesOfLength a_lettersByCode a_stream a_sampleStarts a_sampleRanks a_sparseHigh a_sparseLow := by
    intro gw go cl w gr len j e m hj z
    obtain ⟨m1, m2⟩ := sq_MIe m hj z hs
    exact sq_xm82 hc (fun l hl => ⟨(e l hl).2.2, by have := (m.1.1 l hl).2.1; omega⟩) (fun cl' hcl' => h gw go cl' _ hcl' m1 m2)
  exact pk_loop (σ := (Nat → Int32) × (Nat → Int32) × (Nat → Int32)) (fun n' i x => wX_measureCodes_42 post n' (nI i) f_length f_runCount f_streamLength a_letters a_plainWords a_treeBits a_matrixBits a_matrixZeros a_letterRows a_runWords a_letterCounts x.1 x.2.1 x.2.2 a_codes a_codesOfLength a_lettersByCode a_stream a_sampleStarts a_sampleRanks a_sparseHigh a_sparseLow)
    (fun i x => 1 ≤ i ∧ ∃ w gr len : Nat → Nat, (∀ k, k < 8 → x.1 k = nI (w k) ∧ x.2.1 k = nI (gr k) ∧ x.2.2 k = nI (len k)) ∧ sq_MI cnt w gr len (i - 1)) 8 1 (a_groupWeights, a_groupOf, a_codeLengths) (by decide)
    ⟨Nat.le_refl 1, cnt, fun l => l, fun _ => 0, h0, sq_MI0 cnt⟩
    (fun n' x e => by
      obtain ⟨_, w, gr, len, e1, e2⟩ := e
      exact br_t (nI_le (Nat.le_refl 8) (by decide)) (ex _ _ _ w gr len 7 e1 e2 (Nat.le_refl 7) (sq_MI7 e2 (Nat.le_refl 7))))
    (fun n' i x hi e k => by
      obtain ⟨gw, go, cl⟩ := x
      obtain ⟨i1, w, gr, len, e1, e2⟩ := e
      have e1' : ∀ k, k < 8 → gw k = nI (w k) ∧ go k = nI (gr k) ∧ cl k = nI (len k) := e1
      have wb := sq_wle e2.1 hs
      have hw : ∀ g, g < 8 → gw g = nI (w g) ∧ w g ≤ 200 := fun g hg => ⟨(e1' g hg).1, by have := wb g hg; omega⟩
      refine br_f (nI_ge (b := 8) hi (by decide)) (sq_xlight (e := none) hw (fun m hm => absurd hm (by simp)) (sq_xlight (e := sq_fi w) hw (fun m hm => sq_li8 (w := w) (e := none) (i := 8) hm) ?_))
      show (sq_op (sq_se w) = -1 → _) ∧ (¬ sq_op (sq_se w) = -1 → _)
      cases hse : sq_se w with
      | none => exact br_t rfl (ex gw go cl w gr len (i - 1) e1' e2 (by omega) hse)
      | some s =>
        obtain ⟨f, hfi, f8, s8, ne, lf, ls, _, _⟩ := sq_se_some hse
        refine br_f (sq_m1ne (by omega)) ?_
        have hfi' : sq_li w none 8 = some f := hfi
        have hse' : sq_li w (sq_fi w) 8 = some s := hse
        rw [hse', hfi']
        show wpX_joinGroups _ _ (nI f) (nI s)
        refine sq_xjoin (w := w) (gr := gr) (len := len) (fun q hq => ⟨(e1' q hq).1, (e1' q hq).2.1, (e1' q hq).2.2, (e2.1.1 q hq).1⟩) f8 s8 ne (fun gw' go' cl' hh => nm_r (nI_1 i) (k (gw', go', cl') ⟨by omega, _, _, _, hh, ?_⟩))
        have := sq_MIs e2 (by omega) hse hfi f8 s8 ne lf ls
        rw [show i - 1 + 1 = i + 1 - 1 by omega] at this
        exact this)
theorem sq_xmeasure {post : SX → Prop} {cnt : Nat → Nat} {n : Nat} (hs : sq_s cnt 8 = n) (hn : n ≤ 200) (hc : ∀ l, l < 8 → a_letterCounts l = nI (cnt l) ∧ cnt l ≤ 200)
    (h : ∀ gw go cl len, (∀ l, l < 8 → cl l = nI (len l)) → sq_OK cnt len → sq_co cnt len = sq_bits cnt n → post (f_length, f_runCount, f_streamLength, a_letters, a_plainWords, a_treeBits, a_matrixBits, a_matrixZeros, a_letterRows, a_runWords, a_letterCounts, gw, go, cl, a_codes, a_codesOfLength, a_lettersByCode, a_stream, a_sampleStarts, a_sampleRanks, a_sparseHigh, a_sparseLow)) : wpX_measureCodes post (f_length, f_runCount, f_streamLength, a_letters, a_plainWords, a_treeBits, a_matrixBits, a_matrixZeros, a_letterRows, a_runWords, a_letterCounts, a_groupWeights, a_groupOf, a_codeLengths, a_codes, a_codesOfLength, a_lettersByCode, a_stream, a_sampleStarts, a_sampleRanks, a_sparseHigh, a_sparseLow) :=
  loop_0 (σ := (Nat → Int32) × (Nat → Int32) × (Nat → Int32)) (fun n' i x => wX_measureCodes_2 post f_length f_runCount f_streamLength n' (nI i) a_letters a_plainWords a_treeBits a_matrixBits a_matrixZeros a_letterRows a_runWords a_letterCounts x.1 x.2.1 x.2.2 a_codes a_codesOfLength a_lettersByCode a_stream a_sampleStarts a_sampleRanks a_sparseHigh a_sparseLow)
    (fun i x => ∀ k, k < i → x.1 k = nI (cnt k) ∧ x.2.1 k = nI k ∧ x.2.2 k = nI 0) 8 (a_groupWeights, a_groupOf, a_codeLengths) (fun k hk => absurd hk (Nat.not_lt_zero k))
    (fun n' x e => br_t (nI_le (Nat.le_refl 8) (by decide)) (sq_xm42 hs hn hc e h))
    (fun n' i x hi e k => by
      obtain ⟨gw, go, cl⟩ := x
      have e' : ∀ k, k < i → gw k = nI (cnt k) ∧ go k = nI k ∧ cl k = nI 0 := e
      have c : (nI i).toNatClampNeg = i := nI_clamp (by omega)
      have hin : vp_in (nI i) 8 := vp_in_nI hi (by decide)
      refine br_f (nI_ge (b := 8) hi (by decide)) ⟨hin, nm_r (e' := upd cl i (nI 0)) (by rw [c]; rfl) ⟨hin, nm_r (e' := upd go i (nI i)) (by rw [c]) ⟨hin, hin, nm_r (e' := upd gw i (nI (cnt i))) (by rw [c, (hc i hi).1]) (nm_r (nI_1 i) (k (upd gw i (nI (cnt i)), upd go i (nI i), upd cl i (nI 0)) (fun q hq => ?_)))⟩⟩⟩
      show upd gw i (nI (cnt i)) q = _ ∧ upd go i (nI i) q = _ ∧ upd cl i (nI 0) q = _
      by_cases z : q = i
      · rw [z, pk_us, pk_us, pk_us]
        exact ⟨rfl, rfl, rfl⟩
      · rw [pk_un z, pk_un z, pk_un z]
        exact e' q (by omega))
theorem sq_xassign {post : SX → Prop} {len : Nat → Nat} (hl : ∀ l, l < 8 → a_codeLengths l = nI (len l) ∧ len l ≤ 7) (hK : ∀ s, s ≤ 7 → sq_K len s ≤ 128)
    (h : ∀ cs col lbc, (∀ l, l < 8 → 1 ≤ len l → cs l = nI (sq_w len l) ∧ lbc (sq_ix len l) = nI l) → (∀ s, 1 ≤ s → s < 8 → col s = nI (sq_n len s)) → post (f_length, f_runCount, f_streamLength, a_letters, a_plainWords, a_treeBits, a_matrixBits, a_matrixZeros, a_letterRows, a_runWords, a_letterCounts, a_groupWeights, a_groupOf, a_codeLengths, cs, col, lbc, a_stream, a_sampleStarts, a_sampleRanks, a_sparseHigh, a_sparseLow)) : wpX_assignCodes post (f_length, f_runCount, f_streamLength, a_letters, a_plainWords, a_treeBits, a_matrixBits, a_matrixZeros, a_letterRows, a_runWords, a_letterCounts, a_groupWeights, a_groupOf, a_codeLengths, a_codes, a_codesOfLength, a_lettersByCode, a_stream, a_sampleStarts, a_sampleRanks, a_sparseHigh, a_sparseLow) :=
  pk_loop (σ := Int32 × Int32 × (Nat → Int32) × (Nat → Int32) × (Nat → Int32)) (fun n' s x => wX_assignCodes_6 post f_length f_runCount f_streamLength n' x.1 x.2.1 (nI s) a_letters a_plainWords a_treeBits a_matrixBits a_matrixZeros a_letterRows a_runWords a_letterCounts a_groupWeights a_groupOf a_codeLengths x.2.2.1 x.2.2.2.1 x.2.2.2.2 a_stream a_sampleStarts a_sampleRanks a_sparseHigh a_sparseLow)
    (fun s x => 1 ≤ s ∧ x.1 = nI (sq_f len s) ∧ x.2.1 = nI (sq_i len s) ∧ (∀ l, l < 8 → 1 ≤ len l → len l < s → x.2.2.1 l = nI (sq_w len l) ∧ x.2.2.2.2 (sq_ix len l) = nI l) ∧ (∀ t, 1 ≤ t → t < s → x.2.2.2.1 t = nI (sq_n len t))) 8 1 (0, 0, a_codes, a_codesOfLength, a_lettersByCode) (by decide)
    ⟨Nat.le_refl 1, rfl, rfl, fun l _ h1 h2 => by omega, fun t h1 h2 => by omega⟩
    (fun n' x e => br_t (nI_le (Nat.le_refl 8) (by decide)) (h _ _ _ (fun l h8 h1 => e.2.2.2.1 l h8 h1 (by have := (hl l h8).2; omega)) (fun s h1 h8 => e.2.2.2.2 s h1 h8)))
    (fun n' s x hs e k => by
      obtain ⟨x1, x2, cs, col, lbc⟩ := x
      obtain ⟨e0, e1, e2, e3, e4⟩ := e
      have e1' : x1 = nI (sq_f len s) := e1
      have e2' : x2 = nI (sq_i len s) := e2
      have e3' : ∀ l, l < 8 → 1 ≤ len l → len l < s → cs l = nI (sq_w len l) ∧ lbc (sq_ix len l) = nI l := e3
      have e4' : ∀ t, 1 ≤ t → t < s → col t = nI (sq_n len t) := e4
      subst e1' e2'
      have cs' : (nI s).toNatClampNeg = s := nI_clamp (by omega)
      have hin : vp_in (nI s) 8 := vp_in_nI hs (by decide)
      have fle := sq_fle hK e0 (show s ≤ 7 by omega)
      have p7 : 2 ^ s ≤ 2 ^ 7 := Nat.pow_le_pow_right (by decide) (by omega)
      refine br_f (nI_ge (b := 8) hs (by decide)) ⟨hin, nm_r (e' := upd col s (nI 0)) (by rw [cs']; rfl) ?_⟩
      exact loop_0 (σ := Int32 × Int32 × (Nat → Int32) × (Nat → Int32) × (Nat → Int32)) (fun n'' l y => wX_assignCodes_22 post (wX_assignCodes_6 post f_length f_runCount f_streamLength n') (nI s) f_length f_runCount f_streamLength n'' y.1 y.2.1 (nI l) a_letters a_plainWords a_treeBits a_matrixBits a_matrixZeros a_letterRows a_runWords a_letterCounts a_groupWeights a_groupOf a_codeLengths y.2.2.1 y.2.2.2.1 y.2.2.2.2 a_stream a_sampleStarts a_sampleRanks a_sparseHigh a_sparseLow)
        (fun l y => y.1 = nI (sq_f len s + sq_c (fun k => decide (len k = s)) l) ∧ y.2.1 = nI (sq_i len s + sq_c (fun k => decide (len k = s)) l) ∧ (∀ q, q < 8 → 1 ≤ len q → (len q < s ∨ len q = s ∧ q < l) → y.2.2.1 q = nI (sq_w len q) ∧ y.2.2.2.2 (sq_ix len q) = nI q) ∧ (∀ t, 1 ≤ t → t < s → y.2.2.2.1 t = nI (sq_n len t)) ∧ y.2.2.2.1 s = nI (sq_c (fun k => decide (len k = s)) l)) 8 (nI (sq_f len s), nI (sq_i len s), cs, upd col s (nI 0), lbc)
        ⟨rfl, rfl, fun q h8 h1 h2 => e3' q h8 h1 (by omega), fun t h1 h2 => (pk_un (show t ≠ s by omega)).trans (e4' t h1 h2), pk_us⟩
        (fun n'' y f => by
          obtain ⟨f1, f2, f3, f4, f5⟩ := f
          obtain ⟨t, rfl⟩ : ∃ t, s = t + 1 := ⟨s - 1, by omega⟩
          refine br_t (nI_le (Nat.le_refl 8) (by decide)) (nm_r (e' := nI (sq_f len (t + 1 + 1))) ?_ (nm_r (nI_1 (t + 1)) (k (_, y.2.1, y.2.2.1, y.2.2.2.1, y.2.2.2.2) ⟨by omega, rfl, f2, fun l h8 h1 h2 => f3 l h8 h1 (by omega), fun u h1 h2 => ?_⟩)))
          · rw [f1]
            show nI _ * nI 2 = _
            rw [pk_mul, Nat.mul_comm]
            rfl
          · by_cases z : u = t + 1
            · subst z; exact f5
            · exact f4 u h1 (by omega))
        (fun n'' l y hl8 f c => by
          obtain ⟨y1, y2, cs1, col1, lbc1⟩ := y
          obtain ⟨f1, f2, f3, f4, f5⟩ := f
          have f1' : y1 = nI (sq_f len s + sq_c (fun k => decide (len k = s)) l) := f1
          have f2' : y2 = nI (sq_i len s + sq_c (fun k => decide (len k = s)) l) := f2
          have f3' : ∀ q, q < 8 → 1 ≤ len q → (len q < s ∨ len q = s ∧ q < l) → cs1 q = nI (sq_w len q) ∧ lbc1 (sq_ix len q) = nI q := f3
          have f4' : ∀ t, 1 ≤ t → t < s → col1 t = nI (sq_n len t) := f4
          have f5' : col1 s = nI (sq_c (fun k => decide (len k = s)) l) := f5
          subst f1' f2'
          have cl : (nI l).toNatClampNeg = l := nI_clamp (by omega)
          have hil : vp_in (nI l) 8 := vp_in_nI hl8 (by decide)
          have l7 := (hl l hl8).2
          refine br_f (nI_ge (b := 8) hl8 (by decide)) ⟨hil, pk_eq (len l) s (fun z => ⟨hil, ?_⟩) (fun z => ?_) (by rw [cl]; exact (hl l hl8).1)⟩
          · subst z
            have ix8 := sq_ix8 (len := len) hl8 e0
            have ixe : sq_i len (len l) + sq_c (fun k => decide (len k = len l)) l = sq_ix len l := rfl
            have hix : vp_in (nI (sq_ix len l)) 8 := vp_in_nI ix8 (by decide)
            rw [ixe]
            refine nm_r (e' := upd cs1 l (nI (sq_w len l))) (by rw [cl]; rfl) ⟨hix, nm_r (e' := upd lbc1 (sq_ix len l) (nI l)) (by rw [nI_clamp (by omega)]) ⟨hin, hin, nm_r (e' := upd col1 (len l) (nI (sq_c (fun k => decide (len k = len l)) l + 1))) (by show upd col1 (nI (len l)).toNatClampNeg (col1 (nI (len l)).toNatClampNeg + 1) = _; rw [cs', f5', nI_1]) (nm_r (nI_1 _) (nm_r (nI_1 _) (nm_r (nI_1 l) (c (nI _, nI _, upd cs1 l (nI (sq_w len l)), upd col1 (len l) (nI (sq_c (fun k => decide (len k = len l)) l + 1)), upd lbc1 (sq_ix len l) (nI l)) ⟨?_, ?_, ?_, ?_, ?_⟩))))⟩⟩
            · rw [sq_ct (decide_eq_true rfl), Nat.add_assoc]
            · rw [sq_ct (decide_eq_true rfl), ← Nat.add_assoc, ixe]
            · intro q h8 h1 h2
              show upd cs1 l (nI (sq_w len l)) q = _ ∧ upd lbc1 (sq_ix len l) (nI l) (sq_ix len q) = _
              by_cases y : q = l
              · rw [y, pk_us, pk_us]; exact ⟨rfl, rfl⟩
              · have ne : sq_ix len q ≠ sq_ix len l := by
                  by_cases w : len q < len l
                  · have a1 := sq_ixlt (len := len) h8 h1 w
                    rw [← ixe]
                    omega
                  · have a2 : len q = len l ∧ q < l := by omega
                    have a3 : sq_ix len q = sq_i len (len l) + sq_c (fun k => decide (len k = len l)) q := by
                      unfold sq_ix
                      rw [a2.1]
                    have a4 := sq_clt (p := fun k => decide (len k = len l)) a2.2 (decide_eq_true a2.1)
                    rw [a3, ← ixe]
                    omega
                rw [pk_un y, pk_un ne]
                exact f3' q h8 h1 (by omega)
            · intro t h1 h2
              exact (pk_un (show t ≠ len l by omega)).trans (f4' t h1 h2)
            · show upd col1 (len l) _ (len l) = _
              rw [pk_us, sq_ct (decide_eq_true rfl)]
          · have cf : sq_c (fun k => decide (len k = s)) (l + 1) = sq_c (fun k => decide (len k = s)) l := sq_cf (decide_eq_false z)
            refine nm_r (nI_1 l) (c (nI _, nI _, cs1, col1, lbc1) ⟨?_, ?_, ?_, f4', ?_⟩)
            · rw [cf]
            · rw [cf]
            · intro q h8 h1 h2
              exact f3' q h8 h1 (by
                by_cases y : q = l
                · subst y; omega
                · omega)
            · rw [cf]; exact f5'))
end
