/-! reading: the starts of the frames, by what it fails (0: it ends), where -/
def rd (L : Nat → Int32) (t b d p s : Nat) (idle : Int32) : Nat → Nat → List Nat × Nat × Nat
  | 0, _ => ([], 0, 0)
  | f + 1, i => if i < t then
      (if L i ≠ idle ∧ L (i - 1) = idle then
        (if fc L t b d p idle i (nb d p s) = 0 then (i :: (rd L t b d p s idle f (tkb b i (nb d p s - 1))).1, (rd L t b d p s idle f (tkb b i (nb d p s - 1))).2)
         else ([], fc L t b d p idle i (nb d p s), i))
       else rd L t b d p s idle f (i + 1))
    else ([], 0, 0)
def RD (L : Nat → Int32) (t b d p s : Nat) (idle : Int32) (i : Nat) : List Nat × Nat × Nat := rd L t b d p s idle (t - i) i
section RDS
variable {L : Nat → Int32} {t b d p s : Nat} {idle : Int32}
theorem tkb_gt (hg : GOK b d p s idle) (i : Nat) : i + 6 ≤ tkb b i (nb d p s - 1) := by
  have hnb := nb_le hg
  have h1 : 1 * 6 ≤ b * (nb d p s - 1) := Nat.mul_le_mul hg.1 (by omega)
  unfold tkb
  omega
theorem rd_fuel (hg : GOK b d p s idle) : ∀ (f f' i : Nat), t ≤ i + f → t ≤ i + f' → rd L t b d p s idle f i = rd L t b d p s idle f' i := by
  intro f
  induction f with
  | zero =>
    intro f' i h1 h2
    cases f' with
    | zero => rfl
    | succ f' => rw [rd, rd, if_neg (by omega)]
  | succ f ih =>
    intro f' i h1 h2
    cases f' with
    | zero => rw [rd, rd, if_neg (by omega)]
    | succ f' =>
      have hk := tkb_gt hg i
      rw [rd, rd, ih f' (tkb b i (nb d p s - 1)) (by omega) (by omega), ih f' (i + 1) (by omega) (by omega)]
theorem RD_end {i : Nat} (h : t ≤ i) : RD L t b d p s idle i = ([], 0, 0) := by
  unfold RD
  rw [show t - i = 0 by omega, rd]
theorem RD_no {i : Nat} (h : i < t) (hn : ¬ (L i ≠ idle ∧ L (i - 1) = idle)) : RD L t b d p s idle i = RD L t b d p s idle (i + 1) := by
  unfold RD
  rw [show t - i = (t - (i + 1)) + 1 by omega, rd, if_pos h, if_neg hn]
theorem RD_fail {i : Nat} (h : i < t) (hn : L i ≠ idle ∧ L (i - 1) = idle) (hf : fc L t b d p idle i (nb d p s) ≠ 0) : RD L t b d p s idle i = ([], fc L t b d p idle i (nb d p s), i) := by
  unfold RD
  rw [show t - i = (t - (i + 1)) + 1 by omega, rd, if_pos h, if_pos hn, if_neg hf]
theorem RD_ok (hg : GOK b d p s idle) {i : Nat} (h : i < t) (hn : L i ≠ idle ∧ L (i - 1) = idle) (hf : fc L t b d p idle i (nb d p s) = 0) : RD L t b d p s idle i = (i :: (RD L t b d p s idle (tkb b i (nb d p s - 1))).1, (RD L t b d p s idle (tkb b i (nb d p s - 1))).2) := by
  have hk := tkb_gt hg i
  unfold RD
  rw [show t - i = (t - (i + 1)) + 1 by omega, rd, if_pos h, if_pos hn, if_pos hf, rd_fuel hg (t - (i + 1)) (t - tkb b i (nb d p s - 1)) _ (by omega) (by omega)]
theorem RD_skip : ∀ (k i st : Nat), i + k = st → st < t → 1 ≤ i → (∀ j, i ≤ j → j < st → ¬ St L t idle j) → RD L t b d p s idle i = RD L t b d p s idle st := by
  intro k
  induction k with
  | zero => intro i st h1 h2 h3 h4; rw [show i = st by omega]
  | succ k ih =>
    intro i st h1 h2 h3 h4
    rw [RD_no (by omega) (fun hh => h4 i (by omega) (by omega) ⟨h3, by omega, hh.1, hh.2⟩)]
    exact ih (i + 1) st (by omega) h2 (by omega) (fun j hj1 hj2 => h4 j (by omega) hj2)
theorem RD_none : ∀ (k i : Nat), t - i = k → 1 ≤ i → (∀ j, i ≤ j → ¬ St L t idle j) → RD L t b d p s idle i = ([], 0, 0) := by
  intro k
  induction k with
  | zero => intro i h1 h3 h4; exact RD_end (by omega)
  | succ k ih =>
    intro i h1 h3 h4
    rw [RD_no (by omega) (fun hh => h4 i (by omega) ⟨h3, by omega, hh.1, hh.2⟩)]
    exact ih (i + 1) (by omega) (by omega) (fun j hj => h4 j (by omega))
theorem stop_idle (hg : GOK b d p s idle) {i : Nat} (hf : fc L t b d p idle i (nb d p s) = 0) : L (tkb b i (nb d p s - 1)) = idle := by
  have hnb := nb_le hg
  have h1 := fc_zero (k := nb d p s - 1) (by omega) hf
  have h2 : fc L t b d p idle i (nb d p s - 1 + 1) = 0 := by rw [show nb d p s - 1 + 1 = nb d p s by omega]; exact hf
  have h3 := fc_in (show nb d p s - 1 < nb d p s by omega) hf
  obtain ⟨g1, g2, g3, g4, g5, g6, g7, g8⟩ := hg
  rw [fc, if_pos h1] at h2
  unfold bc at h2
  rw [if_pos h3, if_neg (by omega), if_neg (by unfold nb; split <;> omega), if_neg (by unfold nb; intro hh; rw [if_neg hh.2] at hh; omega)] at h2
  by_cases c : L (tkb b i (nb d p s - 1)) = idle
  · exact c
  · rw [if_neg c] at h2; omega
/-- every frame that is read is one -/
theorem RD_mem (hg : GOK b d p s idle) : ∀ (k i : Nat), t - i ≤ k → ∀ x ∈ (RD L t b d p s idle i).1, x < t ∧ fc L t b d p idle x (nb d p s) = 0 := by
  intro k
  induction k with
  | zero => intro i h x hx; rw [RD_end (by omega)] at hx; cases hx
  | succ k ih =>
    intro i h x hx
    by_cases c : i < t
    · by_cases c2 : L i ≠ idle ∧ L (i - 1) = idle
      · by_cases c3 : fc L t b d p idle i (nb d p s) = 0
        · rw [RD_ok hg c c2 c3] at hx
          have hk := tkb_gt hg i
          rcases List.mem_cons.mp hx with rfl | hx
          · exact ⟨c, c3⟩
          · exact ih _ (by omega) x hx
        · rw [RD_fail c c2 c3] at hx; cases hx
      · rw [RD_no c c2] at hx
        exact ih _ (by omega) x hx
    · rw [RD_end (by omega)] at hx; cases hx
theorem RD_code (hg : GOK b d p s idle) : ∀ (k i : Nat), t - i ≤ k → (RD L t b d p s idle i).2.1 ≤ 4 ∧ ((RD L t b d p s idle i).2.1 ≠ 0 → (RD L t b d p s idle i).2.2 < t) := by
  intro k
  induction k with
  | zero => intro i h; rw [RD_end (by omega)]; exact ⟨by decide, fun h => absurd rfl h⟩
  | succ k ih =>
    intro i h
    by_cases c : i < t
    · by_cases c2 : L i ≠ idle ∧ L (i - 1) = idle
      · by_cases c3 : fc L t b d p idle i (nb d p s) = 0
        · rw [RD_ok hg c c2 c3]
          have hk := tkb_gt hg i
          exact ih _ (by omega)
        · rw [RD_fail c c2 c3]; exact ⟨fc_le _, fun _ => c⟩
      · rw [RD_no c c2]
        exact ih _ (by omega)
    · rw [RD_end (by omega)]; exact ⟨by decide, fun h => absurd rfl h⟩
end RDS
def LTR (L : Nat → Int32) (b d p s : Nat) (idle : Int32) (i : Nat) : Nat := lt L b d idle i (nb d p s)
theorem LTR_lt {L : Nat → Int32} {b d p s : Nat} {idle : Int32} {i : Nat} (hd : d ≤ 8) : LTR L b d p s idle i < 256 := by
  have h1 := (lt_lt (L := L) (b := b) (d := d) (idle := idle) (i := i) (nb d p s)).2
  have h2 : 2 ^ d ≤ 2 ^ 8 := Nat.pow_le_pow_right (by omega) hd
  unfold LTR
  omega
/-- the rows of letters and starts hold what was read -/
def LSt (L : Nat → Int32) (b d p s : Nat) (idle : Int32) (le st : Nat → Int32) (fs : List Nat) : Prop := ∀ j x, fs[j]? = some x → st j = nI x ∧ le j = nI (LTR L b d p s idle x)
theorem LSt_push {L : Nat → Int32} {b d p s : Nat} {idle : Int32} {le st : Nat → Int32} {fs : List Nat} {n i : Nat} (h : LSt L b d p s idle le st fs) (hn : n = fs.length) : LSt L b d p s idle (upd le n (nI (LTR L b d p s idle i))) (upd st n (nI i)) (fs ++ [i]) := by
  intro j x hx
  rw [List.getElem?_append] at hx
  by_cases c : j < fs.length
  · rw [if_pos c] at hx
    rw [upd_n (by omega), upd_n (by omega)]
    exact h j x hx
  · rw [if_neg c] at hx
    have hj : j - fs.length = 0 := by
      by_cases c2 : j - fs.length = 0
      · exact c2
      · have : ([i] : List Nat)[j - fs.length]? = none := List.getElem?_eq_none (by show 1 ≤ _; omega)
        rw [this] at hx; cases hx
    rw [hj] at hx
    have hxi : i = x := Option.some.inj hx
    have hjn : j = n := by omega
    subst hxi
    rw [hjn]
    exact ⟨upd_s, upd_s⟩
def mgl (L : Nat → Int32) (t b d p s : Nat) (m : Nat) (fs : List Nat) : Nat := fs.foldl (fun m i => mgf L t b i m (nb d p s)) m
theorem mgl_le {L : Nat → Int32} {t b d p s : Nat} : ∀ (fs : List Nat) (m : Nat), mgl L t b d p s m fs ≤ m := by
  intro fs
  induction fs with
  | nil => intro m; exact Nat.le_refl _
  | cons i fs ih =>
    intro m
    exact Nat.le_trans (ih _) (mgf_le _)
/-! the class reads -/
theorem readC_lp {fu t b d p s : Nat} {lev L fi la : Nat → Int32} {idle : Int32} {Q : Int32 → Int32 → Int32 → Int32 → (Nat → Int32) → (Nat → Int32) → Prop} (hfu : 400 ≤ fu) (hw : CW lev (nI t) L t) (hbt : Bt L t) (hr : RunsOK L t fi la) (hg : GOK b d p s idle) :
    ∀ (m fuel on n : Nat) (le st : Nat → Int32) (pre : List Nat), t - on ≤ m → m < fuel → 6 * n ≤ on → n = pre.length → on < t → LSt L b d p s idle le st pre →
      (∀ le' st', LSt L b d p s idle le' st' (pre ++ (RD L t b d p s idle (on + 1)).1) → ((RD L t b d p s idle (on + 1)).2.1 = 0 → Q (-9) 0 (nI (pre ++ (RD L t b d p s idle (on + 1)).1).length) (nI (mgl L t b d p s 360 (pre ++ (RD L t b d p s idle (on + 1)).1))) le' st') ∧ ((RD L t b d p s idle (on + 1)).2.1 ≠ 0 → ∀ mm, Q (nI (RD L t b d p s idle (on + 1)).2.2) (nI (RD L t b d p s idle (on + 1)).2.1) (nI (pre ++ (RD L t b d p s idle (on + 1)).1).length) mm le' st')) →
      wX4_read_27 fu (nI t) lev (nI t) fi la (nI b) (nI d) idle (nI p) (nI s) Q fuel (nI on) (nI n) (-9) 0 (nI n) (nI (mgl L t b d p s 360 pre)) le st := by
  have ht := hw.2.1
  have hnb := nb_le hg
  intro m
  induction m with
  | zero => intro fuel on n le st pre h1 h2 h3 h4 h5; omega
  | succ m ih =>
    intro fuel on n le st pre h1 h2 h3 h4 h5 hls hq
    obtain ⟨f, rfl⟩ : ∃ f, fuel = f + 1 := ⟨fuel - 1, by omega⟩
    unfold wX4_read_27
    refine wifn (by simp (disch := omega) only [lit_nI, nI_leI]; omega) ?_
    refine nextStart_ok hw hbt hg.2.2.2.2.2.2.2 hr h5 (fun sx hs1 hs2 hs3 => ?_) (fun hnone => ?_)
    · have hst := hs2.2.1
      have e1 : RD L t b d p s idle (on + 1) = RD L t b d p s idle sx := RD_skip (sx - (on + 1)) (on + 1) sx (by omega) hst (by omega) (fun j hj1 hj2 => hs3 j (by omega) hj2)
      rw [e1] at hq
      refine wifn (by simp (disch := omega) only [lit_nI, nI_n9, not_false_eq_true]) ?_
      refine readFrame_ok hfu hw hr hg (by omega) (mgl_le _ _) (fun hz => ?_) (fun hz mm => ?_)
      · have hlt := LTR_lt (L := L) (b := b) (p := p) (s := s) (idle := idle) (i := sx) hg.2.2.2.1
        unfold LTR at hlt
        refine wifn (by simp (disch := omega) only [lit_nI, nI_n9, not_false_eq_true]) ⟨vin (by omega) (by omega), vin (by omega) (by omega), ?_⟩
        refine bitsOfFrame_ok hg.2.2.2.1 hg.2.2.2.2.1 hg.2.2.2.2.2.2.1 ?_
        rw [show (1 : Int32) = nI 1 from rfl, nI_sub (by omega), nI_add, ix_nI (by omega)]
        refine tickOfBit_ok hg.2.1 ?_
        have hk := tkb_gt hg sx
        have hin := fc_in (show nb d p s - 1 < nb d p s by omega) hz
        have hsi := stop_idle hg hz
        have e2 := RD_ok hg hst ⟨hs2.2.2.1, hs2.2.2.2⟩ hz
        have e3 : RD L t b d p s idle (tkb b sx (nb d p s - 1)) = RD L t b d p s idle (tkb b sx (nb d p s - 1) + 1) := RD_no hin (fun hh => hh.1 hsi)
        rw [e2, e3] at hq
        have e4 : mgf L t b sx (mgl L t b d p s 360 pre) (nb d p s) = mgl L t b d p s 360 (pre ++ [sx]) := by
          unfold mgl
          rw [List.foldl_append]
          rfl
        rw [e4]
        refine ih f _ (n + 1) _ _ (pre ++ [sx]) (by omega) (by omega) (by omega) (by rw [List.length_append, h4]; rfl) hin (LSt_push hls h4) ?_
        rw [show pre ++ [sx] ++ (RD L t b d p s idle (tkb b sx (nb d p s - 1) + 1)).1 = pre ++ sx :: (RD L t b d p s idle (tkb b sx (nb d p s - 1) + 1)).1 by rw [List.append_assoc]; rfl]
        exact hq
      · refine wifp rfl ?_
        rw [RD_fail hst ⟨hs2.2.2.1, hs2.2.2.2⟩ hz, List.append_nil] at hq
        rw [h4]
        exact (hq le st hls).2 hz mm
    · rw [RD_none _ (on + 1) rfl (by omega) (fun j hj => hnone j (by omega)), List.append_nil] at hq
      refine wifp rfl ?_
      rw [h4]
      exact (hq le st hls).1 rfl
theorem readC_ok {fu t b d p s : Nat} {lev L fi la le0 st0 : Nat → Int32} {idle a1 a2 a3 a4 : Int32} {Q : Int32 → Int32 → Int32 → Int32 → (Nat → Int32) → (Nat → Int32) → Prop} (hfu : 400 ≤ fu) (hw : CW lev (nI t) L t) (hbt : Bt L t) (hr : RunsOK L t fi la) (hg : GOK b d p s idle)
    (h : ∀ le' st', LSt L b d p s idle le' st' (RD L t b d p s idle 1).1 → ((RD L t b d p s idle 1).2.1 = 0 → Q (-9) 0 (nI (RD L t b d p s idle 1).1.length) (nI (mgl L t b d p s 360 (RD L t b d p s idle 1).1)) le' st') ∧ ((RD L t b d p s idle 1).2.1 ≠ 0 → ∀ mm, Q (nI (RD L t b d p s idle 1).2.2) (nI (RD L t b d p s idle 1).2.1) (nI (RD L t b d p s idle 1).1.length) mm le' st')) : wp_X4_read fu (nI t) lev (nI t) fi la (nI b) (nI d) idle (nI p) (nI s) a1 a2 a3 a4 le0 st0 Q := by
  have ht := hw.2.1
  have hls : LSt L b d p s idle le0 st0 [] := fun j x hx => by simp at hx
  unfold wp_X4_read
  by_cases c : 0 < t
  · exact readC_lp hfu hw hbt hr hg t fu 0 0 le0 st0 [] (by omega) (by omega) (by omega) rfl c hls h
  · obtain ⟨f, rfl⟩ : ∃ f, fu = f + 1 := ⟨fu - 1, by omega⟩
    rw [RD_end (by omega)] at h
    unfold wX4_read_27
    refine wifn (by decide) ?_
    unfold wp_X4_nextStart
    refine nextEdge_out (Or.inr (by rw [show t = 0 by omega]; decide)) ?_
    unfold wp_X8_levelAt
    refine wifp (by decide) ?_
    refine wifn (by rcases hg.2.2.2.2.2.2.2 with e | e <;> rw [e] <;> decide) ?_
    refine wifp rfl ?_
    exact (h le0 st0 hls).1 rfl
