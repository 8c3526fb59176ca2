/-! the law's loop -/
theorem lcmp_self (x : Int64) : lg_cmp x x = 0 := by
  unfold lg_cmp
  simp
theorem law_end {L i : Nat} (hL : L ≤ 384) (hi : i ≤ 400) : nI L - 6 < nI i ↔ L < i + 6 := by
  rw [Int32.lt_iff_toInt_lt, fb_subI (by rw [nI_toInt (by omega)]; show -2147483648 ≤ (L : Int) - 6; omega) (by rw [nI_toInt (by omega)]; show (L : Int) - 6 < 2147483648; omega), nI_toInt (by omega), nI_toInt (by omega)]
  show (L : Int) - 6 < (i : Int) ↔ _
  omega
theorem law_loop {L : Nat} {xs : Nat → Int32} (hL : L ≤ 384) {al0 al1 : Nat} : ∀ m i F J s, L ≤ i + m → i ≤ 390 → INV F J → mm_Ex 10 k_L_law 10 (al0, al1) [.ref 0, .ref 2, .ref 75, .int (nI i)] [] (hH L xs J s F) (fun r _ => r = some (.int 1)) := by
  intro m
  induction m with
  | zero =>
    intro i F J s hm hi hI
    exact mm_run 60 (And.intro (fun _ => ⟨Or.inr rfl, rfl⟩) (fun z => absurd ((law_end hL (by omega)).mpr (by omega)) z))
  | succ m ih =>
    intro i F J s hm hi hI
    by_cases hlt : L < i + 6
    · exact mm_run 60 (And.intro (fun _ => ⟨Or.inr rfl, rfl⟩) (fun z => absurd ((law_end hL (by omega)).mpr hlt) z))
    · have V : ∀ j, j < 6 → vp_in (nI i + nI j) L := fun j hj => by rw [nI_add]; exact vp_in_nI (by omega) (by omega)
      have V0 : vp_in (nI i) L := vp_in_nI (by omega) (by omega)
      have V1 : vp_in (nI i + 1) L := V 1 (by decide)
      have V2 : vp_in (nI i + 2) L := V 2 (by decide)
      have V3 : vp_in (nI i + 3) L := V 3 (by decide)
      have V4 : vp_in (nI i + 4) L := V 4 (by decide)
      have V5 : vp_in (nI i + 5) L := V 5 (by decide)
      have E : ∀ F2 J2 s2, INV F2 J2 → mm_Ex 10 k_L_law 1001 (al0, al1) [.ref 0, .ref 2, .ref 75, .int (nI i)] [] (hH L xs J2 s2 F2) (fun r _ => r = some (.int 1)) := fun F2 J2 s2 h2 => mm_run 20 (by
        have := ih (i + 6) F2 J2 s2 (by omega) (by omega) h2
        rw [← nI_add] at this
        exact this)
      refine mm_run 120 (And.intro (fun z => absurd ((law_end hL (by omega)).mp z) hlt) (fun _ => ⟨V0, ⟨?_, fun _ => ⟨?_, fun _ => ⟨?_, fun _ => ⟨?_, fun _ => ⟨?_, fun _ => ⟨?_, fun _ => ⟨?_, fun _ => ⟨?_, fun _ => ⟨?_, fun _ => ⟨?_, fun _ => ⟨?_, fun _ => ⟨?_, fun _ => ⟨?_, fun _ => ⟨?_, fun _ => ⟨?_, fun _ => ⟨?_, fun _ => ⟨?_, fun _ => ⟨?_, fun _ => ⟨?_, fun _ => ⟨?_, fun _ => ⟨?_, fun _ => ⟨?_, fun _ => ⟨?_, fun _ => ⟨?_, fun _ => ⟨?_, fun _ => ⟨?_, fun _ => ⟨?_, fun _ => ⟨?_, fun _ => ⟨?_, fun _ => ⟨?_, fun _ => ⟨?_, fun _ => ⟨?_, fun _ => ⟨?_, fun _ => ⟨?_, fun _ => ⟨?_, fun _ => ⟨?_, fun _ => ⟨?_, fun _ => ⟨?_, fun _ => ⟨?_, fun _ => ⟨?_, fun _ => ⟨?_, fun _ => ⟨?_, fun _ => ⟨?_, fun _ => ⟨?_, fun _ => ⟨?_, fun _ => ⟨?_, fun _ => ⟨?_, fun _ => ⟨?_, fun _ => E _ _ _ hI⟩⟩⟩⟩⟩⟩⟩⟩⟩⟩⟩⟩⟩⟩⟩⟩⟩⟩⟩⟩⟩⟩⟩⟩⟩⟩⟩⟩⟩⟩⟩⟩⟩⟩⟩⟩⟩⟩⟩⟩⟩⟩⟩⟩⟩⟩⟩⟩⟩))
      · exact fun _ => ⟨V1, V2, l_row hI (fun v F1 s1 h2 => ⟨V1, V2, h2 _ (fun F2 s2 hI2 => And.intro (fun _ => E _ _ _ hI2) (fun z => absurd rfl z))⟩)⟩
      · exact fun _ => ⟨V1, V2, V3, l_lay hI (fun v F1 s1 h2 => ⟨V1, V2, V3, h2 _ (fun F2 s2 hI2 => And.intro (fun _ => E _ _ _ hI2) (fun z => absurd rfl z))⟩)⟩
      · exact fun _ => ⟨V1, V2, l_at hI (fun v F1 s1 h2 => ⟨V1, V2, h2 _ (fun F2 s2 hI2 => And.intro (fun _ => E _ _ _ hI2) (fun z => absurd rfl z))⟩)⟩
      · exact fun _ => ⟨V1, l_tear hI (fun v F1 s1 h2 => ⟨V1, h2 _ (fun F2 s2 hI2 => And.intro (fun _ => E _ _ _ hI2) (fun z => absurd rfl z))⟩)⟩
      · exact fun _ => ⟨V1, V2, V3, V4, V5, l_copy hI (fun v F1 s1 h2 => ⟨V1, V2, V3, V4, V5, h2 _ (fun F2 s2 hI2 => And.intro (fun _ => E _ _ _ hI2) (fun z => absurd rfl z))⟩)⟩
      · exact fun _ => ⟨V1, l_mean hI (fun v F1 s1 h2 => ⟨V1, h2 _ (fun F2 s2 hI2 => And.intro (fun _ => E _ _ _ hI2) (fun z => absurd rfl z))⟩)⟩
      · exact fun _ => ⟨V1, V2, l_text hI (fun v F1 s1 h2 => ⟨V1, V2, h2 _ (fun F2 s2 hI2 => And.intro (fun _ => E _ _ _ hI2) (fun z => absurd rfl z))⟩)⟩
      · exact fun _ => ⟨V1, V2, V3, l_put hI (fun v F1 s1 h2 => ⟨V1, V2, V3, h2 _ (fun F2 s2 hI2 => And.intro (fun _ => E _ _ _ hI2) (fun z => absurd rfl z))⟩)⟩
      · exact fun _ => ⟨V1, l_fault hI (fun v F1 s1 h2 => ⟨V1, h2 _ (fun F2 s2 hI2 => And.intro (fun _ => E _ _ _ hI2) (fun z => absurd rfl z))⟩)⟩
      · exact fun _ => ⟨V1, l_court hI (fun v F1 s1 h2 => ⟨V1, h2 _ (fun F2 s2 hI2 => And.intro (fun _ => E _ _ _ hI2) (fun z => absurd rfl z))⟩)⟩
      · exact fun _ => ⟨V1, V2, l_ruling hI (fun v F1 s1 h2 => ⟨V1, V2, h2 _ (fun F2 s2 hI2 => And.intro (fun _ => E _ _ _ hI2) (fun z => absurd rfl z))⟩)⟩
      · exact fun _ => ⟨V1, V2, l_mark hI (fun v F1 s1 h2 => ⟨V1, V2, h2 _ (fun F2 s2 hI2 => And.intro (fun _ => E _ _ _ hI2) (fun z => absurd rfl z))⟩)⟩
      · exact fun _ => ⟨V1, V2, l_reverse hI (fun v F1 s1 h2 => ⟨V1, V2, h2 _ (fun F2 s2 hI2 => And.intro (fun _ => E _ _ _ hI2) (fun z => absurd rfl z))⟩)⟩
      · exact fun _ => ⟨V1, V2, l_marks hI (fun v F1 s1 h2 => ⟨V1, V2, h2 _ (fun F2 s2 hI2 => And.intro (fun _ => E _ _ _ hI2) (fun z => absurd rfl z))⟩)⟩
      · exact fun _ => ⟨V1, V2, V3, V4, V5, l_file hI (fun v F1 s1 h2 => ⟨V1, V2, V3, V4, V5, h2 _ (fun F2 s2 hI2 => And.intro (fun _ => E _ _ _ hI2) (fun z => absurd rfl z))⟩)⟩
      · exact fun _ => ⟨V1, l_strike hI (fun v F1 s1 h2 => ⟨V1, h2 _ (fun F2 s2 hI2 => And.intro (fun _ => E _ _ _ hI2) (fun z => absurd rfl z))⟩)⟩
      · exact fun _ => ⟨V1, l_keep hI (fun v F1 s1 h2 => ⟨V1, h2 _ (fun F2 s2 hI2 => And.intro (fun _ => E _ _ _ hI2) (fun z => absurd rfl z))⟩)⟩
      · exact fun _ => ⟨V1, l_on hI (fun v F1 s1 h2 => ⟨V1, h2 _ (fun F2 s2 hI2 => And.intro (fun _ => E _ _ _ hI2) (fun z => absurd rfl z))⟩)⟩
      · exact fun _ => ⟨V1, l_due hI (fun v F1 s1 h2 => ⟨V1, h2 _ (fun F2 s2 hI2 => And.intro (fun _ => E _ _ _ hI2) (fun z => absurd rfl z))⟩)⟩
      · exact fun _ => l_ways hI (fun v F1 s1 h2 => h2 _ (fun F2 s2 hI2 => And.intro (fun _ => E _ _ _ hI2) (fun z => absurd rfl z)))
      · exact fun _ => ⟨V1, l_nth hI (fun v F1 s1 h2 => ⟨V1, h2 _ (fun F2 s2 hI2 => And.intro (fun _ => E _ _ _ hI2) (fun z => absurd rfl z))⟩)⟩
      · exact fun _ => l_sure hI (fun v F1 s1 h2 => h2 _ (fun F2 s2 hI2 => And.intro (fun _ => E _ _ _ hI2) (fun z => absurd rfl z)))
      · exact fun _ => ⟨V1, l_odds hI (fun v F1 J1 s1 h2 => ⟨V1, h2 _ (fun F2 J2 s2 hI2 => And.intro (fun _ => E _ _ _ hI2) (fun z => absurd rfl z))⟩)⟩
      · exact fun _ => ⟨V1, l_together hI (fun v F1 s1 h2 => ⟨V1, h2 _ (fun F2 s2 hI2 => And.intro (fun _ => E _ _ _ hI2) (fun z => absurd rfl z))⟩)⟩
      · exact fun _ => ⟨V1, l_till hI (fun v F1 s1 h2 => ⟨V1, h2 _ (fun F2 s2 hI2 => And.intro (fun _ => E _ _ _ hI2) (fun z => absurd rfl z))⟩)⟩
      · exact fun _ => ⟨V1, l_flips hI (fun v F1 s1 h2 => ⟨V1, h2 _ (fun F2 s2 hI2 => And.intro (fun _ => E _ _ _ hI2) (fun z => absurd rfl z))⟩)⟩
      · exact fun _ => l_jam hI (fun v F1 s1 h2 => h2 _ (fun F2 s2 hI2 => And.intro (fun _ => E _ _ _ hI2) (fun z => absurd rfl z)))
      · exact fun _ => ⟨V1, V2, l_fell hI (fun v F1 s1 h2 => ⟨V1, V2, h2 _ (fun F2 s2 hI2 => And.intro (fun _ => E _ _ _ hI2) (fun z => absurd rfl z))⟩)⟩
      · exact fun _ => ⟨V1, V2, l_guard hI (fun v F1 s1 h2 => ⟨V1, V2, h2 _ (fun F2 s2 hI2 => And.intro (fun _ => E _ _ _ hI2) (fun z => absurd rfl z))⟩)⟩
      · exact fun _ => ⟨V1, l_settle hI (fun v F1 s1 h2 => ⟨V1, h2 _ (fun F2 s2 hI2 => And.intro (fun _ => E _ _ _ hI2) (fun z => absurd rfl z))⟩)⟩
      · exact fun _ => ⟨V1, l_matter hI (fun v F1 s1 h2 => ⟨V1, h2 _ (fun F2 s2 hI2 => And.intro (fun _ => E _ _ _ hI2) (fun z => absurd rfl z))⟩)⟩
      · exact fun _ => l_judge hI (fun v F1 s1 h2 => h2 _ (fun F2 s2 hI2 => And.intro (fun _ => E _ _ _ hI2) (fun z => absurd rfl z)))
      · exact fun _ => ⟨V1, V2, l_like hI (fun v F1 s1 h2 => ⟨V1, V2, h2 _ (fun F2 s2 hI2 => And.intro (fun _ => E _ _ _ hI2) (fun z => absurd rfl z))⟩)⟩
      · exact fun _ => ⟨V1, V2, l_verdict hI (fun v F1 s1 h2 => ⟨V1, V2, h2 _ (fun F2 s2 hI2 => And.intro (fun _ => E _ _ _ hI2) (fun z => absurd rfl z))⟩)⟩
      · exact fun _ => ⟨V1, l_surely hI (fun v F1 s1 h2 => ⟨V1, h2 _ (fun F2 s2 hI2 => And.intro (fun _ => E _ _ _ hI2) (fun z => absurd rfl z))⟩)⟩
      · exact fun _ => ⟨V1, l_freed hI (fun v F1 s1 h2 => ⟨V1, h2 _ (fun F2 s2 hI2 => And.intro (fun _ => E _ _ _ hI2) (fun z => absurd rfl z))⟩)⟩
      · exact fun _ => l_code hI (fun v F1 s1 h2 => h2 _ (fun F2 s2 hI2 => And.intro (fun _ => E _ _ _ hI2) (fun z => absurd rfl z)))
      · exact fun _ => ⟨V1, V2, l_kinds hI (fun v F1 s1 h2 => ⟨V1, V2, h2 _ (fun F2 s2 hI2 => And.intro (fun _ => E _ _ _ hI2) (fun z => absurd rfl z))⟩)⟩
      · exact fun _ => ⟨V1, l_forged hI (fun v F1 s1 h2 => ⟨V1, h2 _ (fun F2 s2 hI2 => And.intro (fun _ => E _ _ _ hI2) (fun z => absurd rfl z))⟩)⟩
      · exact fun _ => ⟨V1, V2, l_torn hI (fun v F1 s1 h2 => ⟨V1, V2, h2 _ (fun F2 s2 hI2 => And.intro (fun _ => E _ _ _ hI2) (fun z => absurd rfl z))⟩)⟩
      · exact fun _ => ⟨V1, V2, l_lots hI (fun v F1 s1 h2 => ⟨V1, V2, h2 _ (fun F2 s2 hI2 => And.intro (fun _ => E _ _ _ hI2) (fun z => absurd rfl z))⟩)⟩
      · exact fun _ => x_asked hI.1 (m_asked (And.intro (fun _ => E _ _ _ hI) (fun z => absurd rfl z)))
      · exact fun _ => x_upper hI.2.2.2.2.1 (m_upper (And.intro (fun _ => E _ _ _ hI) (fun z => absurd (lcmp_self _) z)))
      · exact fun _ => x_lower hI.2.2.2.2.2 (m_lower (And.intro (fun _ => E _ _ _ hI) (fun z => absurd (lcmp_self _) z)))
      · exact fun _ => ⟨V1, l_count hI (fun v F1 s1 h2 => ⟨V1, h2 _ (fun F2 s2 hI2 => And.intro (fun _ => E _ _ _ hI2) (fun z => absurd rfl z))⟩)⟩
      · exact fun _ => x_finding hI.1 (m_finding (And.intro (fun _ => E _ _ _ hI) (fun z => absurd rfl z)))
      · exact fun _ => ⟨V1, l_findings hI (fun v F1 s1 h2 => ⟨V1, h2 _ (fun F2 s2 hI2 => And.intro (fun _ => E _ _ _ hI2) (fun z => absurd rfl z))⟩)⟩
      · obtain ⟨n, hn, hc⟩ := hI.2.1
        obtain ⟨-, -, -, hG, -⟩ := side hI.1 (fun _ _ => rfl) hn hc
        exact fun _ => x_digest hI.1 hn hc (m_digest hn hc.1 hG (And.intro (fun _ => E _ _ _ hI) (fun z => absurd (lcmp_self _) z)))
theorem law_ok : law_says := by
  intro L xs hL
  refine mm_run 20 ⟨by show 2 < 93; decide, by decide +kernel, by decide +kernel, by decide +kernel, by decide +kernel, c_new5 ⟨by show 75 < 93; decide, by decide +kernel, by decide +kernel, by decide +kernel, by decide +kernel, c_new6 ?_⟩⟩
  exact law_loop hL L 0 F00 J00 21 (by omega) (by decide) inv_0
