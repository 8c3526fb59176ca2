/-! what the reference does hangs on its own cells alone -/
def NT (X : Nat → Nat → Int32) (p p' : Int32 × (Nat → Nat → Int32)) : Prop := p' = (p.1, cm X p.2)
theorem NT.ite {X : Nat → Nat → Int32} {c : Prop} [Decidable c] {p p' r r' : Int32 × (Nat → Nat → Int32)} (h1 : NT X p p') (h2 : NT X r r') : NT X (if c then p else r) (if c then p' else r') := by
  by_cases h : c
  · rw [if_pos h, if_pos h]; exact h1
  · rw [if_neg h, if_neg h]; exact h2
theorem NT.id {X F : Nat → Nat → Int32} {v : Int32} : NT X (v, F) (v, cm X F) := rfl
theorem NT.fi {X F : Nat → Nat → Int32} {v : Int32} {w : Nat} : NT X (v, S_fi F w) (v, S_fi (cm X F) w) := by
  unfold NT
  rw [cm_fi]
theorem NT.te {X F : Nat → Nat → Int32} {v u : Int32} : NT X (v, S_te F u) (v, S_te (cm X F) u) := by
  unfold NT
  rw [cm_te]
theorem NT.up {X F : Nat → Nat → Int32} {v u : Int32} {k j : Nat} (h : 75 ≤ k) : NT X (v, up2 F k j u) (v, up2 (cm X F) k j u) := by
  unfold NT
  rw [cm_up2 h]
theorem NT.uF {X F : Nat → Nat → Int32} {v : Int32} {k : Nat} {g : Nat → Int32} (h : 75 ≤ k) : NT X (v, upF F k g) (v, upF (cm X F) k g) := by
  unfold NT
  rw [cm_up h]
theorem NT.uFF {X F : Nat → Nat → Int32} {v u : Int32} {k k' j : Nat} {g : Nat → Int32} (h : 75 ≤ k) (h' : 75 ≤ k') : NT X (v, upF (up2 F k' j u) k g) (v, upF (up2 (cm X F) k' j u) k g) := by
  unfold NT
  rw [cm_up2 h', cm_up h]
theorem cm_adds {X F : Nat → Nat → Int32} {n : Nat} {a b c e f g : Int32} : S_adds (cm X F) n a b c e f g = cm X (S_adds F n a b c e f g) := by
  unfold S_adds
  rw [cm_up2 (by decide), cm_up2 (by decide), cm_up2 (by decide), cm_up2 (by decide), cm_up2 (by decide), cm_up2 (by decide), cm_up2 (by decide)]
theorem cm_lot {X F : Nat → Nat → Int32} {n x : Nat} : ∀ k, lotF (cm X F) n x k = cm X (lotF F n x k)
  | 0 => rfl
  | k + 1 => by
    show lot1 (lotF (cm X F) n x k) (n + k) (lotX x (k + 1)) = cm X (lot1 (lotF F n x k) (n + k) (lotX x (k + 1)))
    rw [cm_lot k, lot1_eq, lot1_eq, cm_mq, cm_adds]
theorem cm_fiF {X F : Nat → Nat → Int32} {n r m code : Nat} : fiF (cm X F) n r m code = cm X (fiF F n r m code) := by
  unfold fiF
  rw [cm_up2 (by decide), cm_hi (by decide), cm_up (by decide)]
theorem cm_kpF {X F : Nat → Nat → Int32} {k n : Nat} : keepF (cm X F) k n = keepF F k n := by
  unfold keepF
  rw [cm_mq, cm_hi (by decide)]
theorem cm_on {X F : Nat → Nat → Int32} {k m : Nat} : onF (cm X F) k m = cm X (onF F k m) := by
  unfold onF
  rw [cm_up2 (by decide), cm_hi (k := 89) (by decide), cm_hi (k := 82) (by decide), cm_hi (k := 83) (by decide), cm_hi (k := 84) (by decide), cm_hi (k := 85) (by decide), cm_hi (k := 86) (by decide), cm_hi (k := 87) (by decide), cm_up (by decide), cm_up (by decide), cm_up (by decide), cm_up (by decide), cm_up (by decide), cm_up (by decide)]
theorem cm_cr {X F : Nat → Nat → Int32} {Q : Rq} {n : Nat} : crF (cm X F) Q n = cm X (crF F Q n) := by
  unfold crF
  have : adF (cm X F) Q n = cm X (adF F Q n) := by
    funext k
    by_cases h : k < 75
    · rw [cm_lo h]
      unfold adF
      rw [if_neg (by omega), if_neg (by omega), cm_lo h]
    · rw [cm_hi (by omega)]
      unfold adF
      rw [cm_hi (by omega), cm_hi (k := 75) (by decide)]
  rw [this, cm_hi (k := 88) (by decide), cm_up (by decide)]
section XN
variable {X F : Nat → Nat → Int32}
theorem c75 : cm X F 75 = F 75 := cm_hi (by decide)
theorem c76 : cm X F 76 = F 76 := cm_hi (by decide)
theorem c77 : cm X F 77 = F 77 := cm_hi (by decide)
theorem c78 : cm X F 78 = F 78 := cm_hi (by decide)
theorem c79 : cm X F 79 = F 79 := cm_hi (by decide)
theorem c81 : cm X F 81 = F 81 := cm_hi (by decide)
theorem c83 : cm X F 83 = F 83 := cm_hi (by decide)
theorem c84 : cm X F 84 = F 84 := cm_hi (by decide)
theorem c87 : cm X F 87 = F 87 := cm_hi (by decide)
theorem c88 : cm X F 88 = F 88 := cm_hi (by decide)
theorem n_row {r n : Int32} : NT X (S_row F r n) (S_row (cm X F) r n) := by
  unfold S_row
  simp only [c77]
  exact NT.ite (NT.ite (NT.uFF (by decide) (by decide)) NT.fi) NT.id
theorem n_lay {r i v : Int32} : NT X (S_lay F r i v) (S_lay (cm X F) r i v) := by
  unfold S_lay
  simp only [c76, c77]
  refine NT.ite (NT.ite (NT.ite ?_ NT.fi) NT.fi) NT.id
  unfold NT
  rw [cm_up2 (by decide), cm_te]
theorem n_at {r i : Int32} : NT X (S_at F r i) (S_at (cm X F) r i) := by
  unfold S_at
  simp only [c76, c77]
  exact NT.ite (NT.ite (NT.ite NT.te NT.fi) NT.fi) NT.id
theorem n_tear {r : Int32} : NT X (S_tear F r) (S_tear (cm X F) r) := by
  unfold S_tear
  simp only [c76]
  exact NT.ite (NT.ite (NT.up (by decide)) NT.fi) NT.id
theorem n_copy {r i to j n : Int32} : NT X (S_copy F r i to j n) (S_copy (cm X F) r i to j n) := by
  unfold S_copy
  simp only [c76, c77]
  exact NT.ite (NT.ite (NT.ite (NT.ite (NT.uF (by decide)) NT.fi) NT.fi) NT.fi) NT.id
theorem n_mean {r : Int32} : NT X (S_mean F r) (S_mean (cm X F) r) := by
  unfold S_mean
  simp only [c76, c77]
  exact NT.ite (NT.ite (NT.ite NT.fi NT.te) NT.fi) NT.id
theorem n_text {r n : Int32} : NT X (S_text F r n) (S_text (cm X F) r n) := by
  unfold S_text
  simp only [c79]
  exact NT.ite (NT.ite (NT.uFF (by decide) (by decide)) NT.fi) NT.id
theorem n_put {r i v : Int32} : NT X (S_put F r i v) (S_put (cm X F) r i v) := by
  unfold S_put
  simp only [c78, c79]
  exact NT.ite (NT.ite (NT.ite (NT.up (by decide)) NT.fi) NT.fi) NT.id
theorem n_ruling {i w : Int32} : NT X (S_ruling F i w) (S_ruling (cm X F) i w) := by
  unfold S_ruling
  simp only [c75, cm_mq]
  exact NT.ite NT.te NT.id
theorem n_mark {i w : Int32} : NT X (S_mark F i w) (S_mark (cm X F) i w) := by
  unfold S_mark W0
  simp only [c75, cm_mq]
  exact NT.ite (NT.ite NT.id NT.fi) NT.id
theorem n_reverse {i w : Int32} : NT X (S_reverse F i w) (S_reverse (cm X F) i w) := by
  unfold S_reverse
  simp only [c75, c84]
  exact NT.ite (NT.up (by decide)) NT.id
theorem n_marks {i w : Int32} : NT X (S_marks F i w) (S_marks (cm X F) i w) := by
  unfold S_marks
  simp only [c75, c87]
  exact NT.ite (NT.up (by decide)) NT.id
theorem n_file {k dy v c hw : Int32} : NT X (S_file F k dy v c hw) (S_file (cm X F) k dy v c hw) := by
  unfold S_file
  simp only [c75, c83]
  refine NT.ite (NT.ite NT.id ?_) NT.id
  unfold NT
  rw [cm_adds]
theorem n_strike {m : Int32} : NT X (S_strike F m) (S_strike (cm X F) m) := by
  unfold S_strike
  simp only [c75]
  exact NT.ite (NT.up (by decide)) NT.id
theorem n_keep {m : Int32} : NT X (S_keep F m) (S_keep (cm X F) m) := by
  unfold S_keep
  simp only [c75, cm_kpF]
  exact NT.ite (NT.ite NT.id (NT.uFF (by decide) (by decide))) NT.id
theorem n_on {m : Int32} : NT X (S_on F m) (S_on (cm X F) m) := by
  unfold S_on
  simp only [c88]
  refine NT.ite (NT.ite ?_ NT.fi) NT.id
  unfold NT
  rw [cm_on]
theorem n_due {m : Int32} : NT X (S_due F m) (S_due (cm X F) m) := by
  unfold S_due
  simp only [c75, cm_mq]
  exact NT.ite NT.id NT.id
theorem n_ways : NT X (S_ways F) (S_ways (cm X F)) := by
  unfold S_ways
  simp only [c75, cm_mq]
  exact NT.te
theorem n_sure : NT X (S_sure F) (S_sure (cm X F)) := by
  unfold S_sure
  simp only [c75, cm_mq]
  exact NT.te
theorem n_nth {i : Int32} : NT X (S_nth F i) (S_nth (cm X F) i) := by
  unfold S_nth W0
  simp only [c75, cm_mq]
  exact NT.ite (NT.ite NT.id NT.fi) NT.id
theorem n_together {i : Int32} : NT X (S_together F i) (S_together (cm X F) i) := by
  unfold S_together W0
  simp only [c75, cm_mq]
  exact NT.ite (NT.ite NT.id NT.fi) NT.id
theorem n_till {i : Int32} : NT X (S_till F i) (S_till (cm X F) i) := by
  unfold S_till
  simp only [c75, cm_mq]
  exact NT.ite NT.te NT.id
theorem n_flips {i : Int32} : NT X (S_flips F i) (S_flips (cm X F) i) := by
  unfold S_flips
  simp only [c75, c83, cm_mq]
  exact NT.ite NT.id NT.id
theorem n_jam : NT X (S_jam F) (S_jam (cm X F)) := by
  unfold S_jam
  simp only [c75, cm_mq]
  exact NT.id
theorem n_files {n i r : Nat} {aim : Int32} : NT X (S_files F n i r aim) (S_files (cm X F) n i r aim) := by
  unfold S_files
  simp only [cm_mq]
  refine NT.ite ?_ NT.id
  unfold NT
  rw [cm_fiF]
theorem n_fell {i r aim : Int32} : NT X (S_fell F i r aim) (S_fell (cm X F) i r aim) := by
  unfold S_fell
  simp only [c75]
  exact NT.ite n_files NT.id
theorem n_settle {r : Int32} : NT X (S_settle F r) (S_settle (cm X F) r) := by
  unfold S_settle
  simp only [c75]
  exact NT.ite n_files NT.id
theorem n_matter {i : Int32} : NT X (S_matter F i) (S_matter (cm X F) i) := by
  unfold S_matter
  simp only [c75, cm_mq]
  exact NT.ite NT.id NT.id
theorem n_judge : NT X (S_judge F) (S_judge (cm X F)) := by
  unfold S_judge
  simp only [c75, cm_mq]
  exact NT.ite NT.id NT.te
theorem n_like {i m : Int32} : NT X (S_like F i m) (S_like (cm X F) i m) := by
  unfold S_like
  simp only [c75, cm_mq]
  exact NT.ite NT.te NT.id
theorem n_verdict {i m : Int32} : NT X (S_verdict F i m) (S_verdict (cm X F) i m) := by
  unfold S_verdict
  simp only [c75, cm_mq]
  exact NT.ite NT.id NT.id
theorem n_surely {m : Int32} : NT X (S_surely F m) (S_surely (cm X F) m) := by
  unfold S_surely W0
  simp only [c75, cm_mq]
  exact NT.ite (NT.ite NT.fi NT.te) NT.id
theorem n_freed {m : Int32} : NT X (S_freed F m) (S_freed (cm X F) m) := by
  unfold S_freed W0
  simp only [c75, cm_mq]
  exact NT.ite (NT.ite NT.id NT.fi) NT.id
theorem n_code : NT X (S_code F) (S_code (cm X F)) := by
  unfold S_code W0
  simp only [c75, cm_mq]
  exact NT.ite NT.te NT.fi
theorem n_kinds {i m : Int32} : NT X (S_kinds F i m) (S_kinds (cm X F) i m) := by
  unfold S_kinds
  simp only [c75, cm_mq]
  exact NT.ite NT.id NT.id
theorem n_forged {m : Int32} : NT X (S_forged F m) (S_forged (cm X F) m) := by
  unfold S_forged
  simp only [c75, cm_mq]
  exact NT.ite NT.id NT.id
theorem n_torn {i m : Int32} : NT X (S_torn F i m) (S_torn (cm X F) i m) := by
  unfold S_torn W0
  simp only [c75, cm_mq]
  exact NT.ite NT.te NT.id
theorem n_lots {m sd : Int32} : NT X (S_lots F m sd) (S_lots (cm X F) m sd) := by
  unfold S_lots
  simp only [c75]
  refine NT.ite (NT.ite ?_ NT.id) NT.id
  unfold NT
  rw [cm_lot]
theorem n_ct {n : Nat} {what : Int32} : ctN (cm X F) n what = ctN F n what := by
  unfold ctN
  rw [cm_mq, c76, c78, c88]
theorem n_count {m : Int32} : NT X (S_count F m) (S_count (cm X F) m) := by
  unfold S_count
  simp only [c75, n_ct]
  exact NT.ite NT.id NT.id
theorem n_findings {m : Int32} : NT X (S_findings F m) (S_findings (cm X F) m) := by
  unfold S_findings
  simp only [c81]
  exact NT.ite NT.id NT.id
theorem n_fault {m : Int32} : NT X (S_fault F m) (S_fault (cm X F) m) := by
  unfold S_fault bB
  simp only [c78, c79]
  exact NT.ite (NT.ite NT.id NT.fi) NT.id
theorem n_court {m : Int32} : NT X (S_court F m) (S_court (cm X F) m) := by
  unfold S_court bB
  simp only [c78, c79]
  refine NT.ite (NT.ite ?_ NT.fi) NT.id
  split
  · exact NT.id
  · unfold NT
    rw [cm_cr]
theorem n_digest : S_digest (cm X F) = S_digest F := by
  unfold S_digest
  simp only [c75, c76, c77, c78, c79, c88, cm_mq, n_ct]
theorem n_odds {J : Nat → Int64} {i : Int32} : S_odds (cm X F) J i = ((S_odds F J i).1, cm X (S_odds F J i).2.1, (S_odds F J i).2.2) := by
  unfold S_odds W0
  simp only [c75, cm_mq, cm_fi]
  split
  · split <;> rfl
  · rfl
end XN
