theorem ok_code (μ : Nat) (hμ : μ < mm_cnt) : ∀ c ∈ mm_code μ, c.all (mm_ok μ) = true := by
  have hμ : μ < 212 := hμ
  rcases Nat.lt_or_ge μ 106 with h2 | h2
  · rcases Nat.lt_or_ge μ 53 with h4 | h4
    · rcases Nat.lt_or_ge μ 26 with h6 | h6
      · rcases Nat.lt_or_ge μ 13 with h8 | h8
        · rcases Nat.lt_or_ge μ 6 with h10 | h10
          · rcases Nat.lt_or_ge μ 3 with h12 | h12
            · rcases Nat.lt_or_ge μ 1 with h14 | h14
              · have e : μ = 0 := by omega
                subst e
                exact ok_X0_init
              · rcases Nat.lt_or_ge μ 2 with h16 | h16
                · have e : μ = 1 := by omega
                  subst e
                  exact ok_X0_seat
                · have e : μ = 2 := by omega
                  subst e
                  exact ok_X0_forgetCitation
            · rcases Nat.lt_or_ge μ 4 with h14 | h14
              · have e : μ = 3 := by omega
                subst e
                exact ok_X0_fileAgainst
              · rcases Nat.lt_or_ge μ 5 with h16 | h16
                · have e : μ = 4 := by omega
                  subst e
                  exact ok_X0_isMovedByOneMore
                · have e : μ = 5 := by omega
                  subst e
                  exact ok_X0_isToStand
          · rcases Nat.lt_or_ge μ 9 with h12 | h12
            · rcases Nat.lt_or_ge μ 7 with h14 | h14
              · have e : μ = 6 := by omega
                subst e
                exact ok_X0_clash
              · rcases Nat.lt_or_ge μ 8 with h16 | h16
                · have e : μ = 7 := by omega
                  subst e
                  exact ok_X0_mattersTo
                · have e : μ = 8 := by omega
                  subst e
                  exact ok_X1_init
            · rcases Nat.lt_or_ge μ 11 with h14 | h14
              · rcases Nat.lt_or_ge μ 10 with h16 | h16
                · have e : μ = 9 := by omega
                  subst e
                  exact ok_X1_has
                · have e : μ = 10 := by omega
                  subst e
                  exact ok_X1_everyRuling
              · rcases Nat.lt_or_ge μ 12 with h16 | h16
                · have e : μ = 11 := by omega
                  subst e
                  exact ok_X1_canBeCited
                · have e : μ = 12 := by omega
                  subst e
                  exact ok_X1_citable
        · rcases Nat.lt_or_ge μ 19 with h10 | h10
          · rcases Nat.lt_or_ge μ 16 with h12 | h12
            · rcases Nat.lt_or_ge μ 14 with h14 | h14
              · have e : μ = 13 := by omega
                subst e
                exact ok_X1_add
              · rcases Nat.lt_or_ge μ 15 with h16 | h16
                · have e : μ = 14 := by omega
                  subst e
                  exact ok_X1_cutTo
                · have e : μ = 15 := by omega
                  subst e
                  exact ok_X1_become
            · rcases Nat.lt_or_ge μ 17 with h14 | h14
              · have e : μ = 16 := by omega
                subst e
                exact ok_X1_detail
              · rcases Nat.lt_or_ge μ 18 with h16 | h16
                · have e : μ = 17 := by omega
                  subst e
                  exact ok_X1_citations
                · have e : μ = 18 := by omega
                  subst e
                  exact ok_X1_dependsOn
          · rcases Nat.lt_or_ge μ 22 with h12 | h12
            · rcases Nat.lt_or_ge μ 20 with h14 | h14
              · have e : μ = 19 := by omega
                subst e
                exact ok_X1_ofDay
              · rcases Nat.lt_or_ge μ 21 with h16 | h16
                · have e : μ = 20 := by omega
                  subst e
                  exact ok_X1_othersOfItsDay
                · have e : μ = 21 := by omega
                  subst e
                  exact ok_X1_laterThan
            · rcases Nat.lt_or_ge μ 24 with h14 | h14
              · rcases Nat.lt_or_ge μ 23 with h16 | h16
                · have e : μ = 22 := by omega
                  subst e
                  exact ok_X1_countOf
                · have e : μ = 23 := by omega
                  subst e
                  exact ok_X1_likeness
              · rcases Nat.lt_or_ge μ 25 with h16 | h16
                · have e : μ = 24 := by omega
                  subst e
                  exact ok_X1_decide
                · have e : μ = 25 := by omega
                  subst e
                  exact ok_X1_verdictsBy
      · rcases Nat.lt_or_ge μ 39 with h8 | h8
        · rcases Nat.lt_or_ge μ 32 with h10 | h10
          · rcases Nat.lt_or_ge μ 29 with h12 | h12
            · rcases Nat.lt_or_ge μ 27 with h14 | h14
              · have e : μ = 26 := by omega
                subst e
                exact ok_X1_agrees
              · rcases Nat.lt_or_ge μ 28 with h16 | h16
                · have e : μ = 27 := by omega
                  subst e
                  exact ok_X2_init
                · have e : μ = 28 := by omega
                  subst e
                  exact ok_X2_read
            · rcases Nat.lt_or_ge μ 30 with h14 | h14
              · have e : μ = 29 := by omega
                subst e
                exact ok_X2_skipBlanks
              · rcases Nat.lt_or_ge μ 31 with h16 | h16
                · have e : μ = 30 := by omega
                  subst e
                  exact ok_X2_readItem
                · have e : μ = 31 := by omega
                  subst e
                  exact ok_X2_sign
          · rcases Nat.lt_or_ge μ 35 with h12 | h12
            · rcases Nat.lt_or_ge μ 33 with h14 | h14
              · have e : μ = 32 := by omega
                subst e
                exact ok_X2_letter
              · rcases Nat.lt_or_ge μ 34 with h16 | h16
                · have e : μ = 33 := by omega
                  subst e
                  exact ok_X2_figure
                · have e : μ = 34 := by omega
                  subst e
                  exact ok_X2_readMarks
            · rcases Nat.lt_or_ge μ 37 with h14 | h14
              · rcases Nat.lt_or_ge μ 36 with h16 | h16
                · have e : μ = 35 := by omega
                  subst e
                  exact ok_X3_init
                · have e : μ = 36 := by omega
                  subst e
                  exact ok_X3_isMissing
              · rcases Nat.lt_or_ge μ 38 with h16 | h16
                · have e : μ = 37 := by omega
                  subst e
                  exact ok_X3_has
                · have e : μ = 38 := by omega
                  subst e
                  exact ok_X3_hasRun
        · rcases Nat.lt_or_ge μ 46 with h10 | h10
          · rcases Nat.lt_or_ge μ 42 with h12 | h12
            · rcases Nat.lt_or_ge μ 40 with h14 | h14
              · have e : μ = 39 := by omega
                subst e
                exact ok_X3_value
              · rcases Nat.lt_or_ge μ 41 with h16 | h16
                · have e : μ = 40 := by omega
                  subst e
                  exact ok_X3_swap
                · have e : μ = 41 := by omega
                  subst e
                  exact ok_X3_renew
            · rcases Nat.lt_or_ge μ 44 with h14 | h14
              · rcases Nat.lt_or_ge μ 43 with h16 | h16
                · have e : μ = 42 := by omega
                  subst e
                  exact ok_X3_remove
                · have e : μ = 43 := by omega
                  subst e
                  exact ok_X3_sum
              · rcases Nat.lt_or_ge μ 45 with h16 | h16
                · have e : μ = 44 := by omega
                  subst e
                  exact ok_X3_digestFrom
                · have e : μ = 45 := by omega
                  subst e
                  exact ok_X4_init
          · rcases Nat.lt_or_ge μ 49 with h12 | h12
            · rcases Nat.lt_or_ge μ 47 with h14 | h14
              · have e : μ = 46 := by omega
                subst e
                exact ok_X4_find
              · rcases Nat.lt_or_ge μ 48 with h16 | h16
                · have e : μ = 47 := by omega
                  subst e
                  exact ok_X4_first
                · have e : μ = 48 := by omega
                  subst e
                  exact ok_X4_surelyStanding
            · rcases Nat.lt_or_ge μ 51 with h14 | h14
              · rcases Nat.lt_or_ge μ 50 with h16 | h16
                · have e : μ = 49 := by omega
                  subst e
                  exact ok_X4_surelyFalling
                · have e : μ = 50 := by omega
                  subst e
                  exact ok_X4_waysWith
              · rcases Nat.lt_or_ge μ 52 with h16 | h16
                · have e : μ = 51 := by omega
                  subst e
                  exact ok_X4_meets
                · have e : μ = 52 := by omega
                  subst e
                  exact ok_X5_init
    · rcases Nat.lt_or_ge μ 79 with h6 | h6
      · rcases Nat.lt_or_ge μ 66 with h8 | h8
        · rcases Nat.lt_or_ge μ 59 with h10 | h10
          · rcases Nat.lt_or_ge μ 56 with h12 | h12
            · rcases Nat.lt_or_ge μ 54 with h14 | h14
              · have e : μ = 53 := by omega
                subst e
                exact ok_X5_row
              · rcases Nat.lt_or_ge μ 55 with h16 | h16
                · have e : μ = 54 := by omega
                  subst e
                  exact ok_X5_lay
                · have e : μ = 55 := by omega
                  subst e
                  exact ok_X5_at
            · rcases Nat.lt_or_ge μ 57 with h14 | h14
              · have e : μ = 56 := by omega
                subst e
                exact ok_X5_tear
              · rcases Nat.lt_or_ge μ 58 with h16 | h16
                · have e : μ = 57 := by omega
                  subst e
                  exact ok_X5_copy
                · have e : μ = 58 := by omega
                  subst e
                  exact ok_X5_mean
          · rcases Nat.lt_or_ge μ 62 with h12 | h12
            · rcases Nat.lt_or_ge μ 60 with h14 | h14
              · have e : μ = 59 := by omega
                subst e
                exact ok_X5_text
              · rcases Nat.lt_or_ge μ 61 with h16 | h16
                · have e : μ = 60 := by omega
                  subst e
                  exact ok_X5_put
                · have e : μ = 61 := by omega
                  subst e
                  exact ok_X5_fault
            · rcases Nat.lt_or_ge μ 64 with h14 | h14
              · rcases Nat.lt_or_ge μ 63 with h16 | h16
                · have e : μ = 62 := by omega
                  subst e
                  exact ok_X5_court
                · have e : μ = 63 := by omega
                  subst e
                  exact ok_X5_ruling
              · rcases Nat.lt_or_ge μ 65 with h16 | h16
                · have e : μ = 64 := by omega
                  subst e
                  exact ok_X5_mark
                · have e : μ = 65 := by omega
                  subst e
                  exact ok_X5_reverse
        · rcases Nat.lt_or_ge μ 72 with h10 | h10
          · rcases Nat.lt_or_ge μ 69 with h12 | h12
            · rcases Nat.lt_or_ge μ 67 with h14 | h14
              · have e : μ = 66 := by omega
                subst e
                exact ok_X5_marks
              · rcases Nat.lt_or_ge μ 68 with h16 | h16
                · have e : μ = 67 := by omega
                  subst e
                  exact ok_X5_file
                · have e : μ = 68 := by omega
                  subst e
                  exact ok_X5_strike
            · rcases Nat.lt_or_ge μ 70 with h14 | h14
              · have e : μ = 69 := by omega
                subst e
                exact ok_X5_keep
              · rcases Nat.lt_or_ge μ 71 with h16 | h16
                · have e : μ = 70 := by omega
                  subst e
                  exact ok_X5_on
                · have e : μ = 71 := by omega
                  subst e
                  exact ok_X5_due
          · rcases Nat.lt_or_ge μ 75 with h12 | h12
            · rcases Nat.lt_or_ge μ 73 with h14 | h14
              · have e : μ = 72 := by omega
                subst e
                exact ok_X5_ways
              · rcases Nat.lt_or_ge μ 74 with h16 | h16
                · have e : μ = 73 := by omega
                  subst e
                  exact ok_X5_nth
                · have e : μ = 74 := by omega
                  subst e
                  exact ok_X5_sure
            · rcases Nat.lt_or_ge μ 77 with h14 | h14
              · rcases Nat.lt_or_ge μ 76 with h16 | h16
                · have e : μ = 75 := by omega
                  subst e
                  exact ok_X5_odds
                · have e : μ = 76 := by omega
                  subst e
                  exact ok_X5_together
              · rcases Nat.lt_or_ge μ 78 with h16 | h16
                · have e : μ = 77 := by omega
                  subst e
                  exact ok_X5_till
                · have e : μ = 78 := by omega
                  subst e
                  exact ok_X5_flips
      · rcases Nat.lt_or_ge μ 92 with h8 | h8
        · rcases Nat.lt_or_ge μ 85 with h10 | h10
          · rcases Nat.lt_or_ge μ 82 with h12 | h12
            · rcases Nat.lt_or_ge μ 80 with h14 | h14
              · have e : μ = 79 := by omega
                subst e
                exact ok_X5_jam
              · rcases Nat.lt_or_ge μ 81 with h16 | h16
                · have e : μ = 80 := by omega
                  subst e
                  exact ok_X5_fell
                · have e : μ = 81 := by omega
                  subst e
                  exact ok_X5_guard
            · rcases Nat.lt_or_ge μ 83 with h14 | h14
              · have e : μ = 82 := by omega
                subst e
                exact ok_X5_settle
              · rcases Nat.lt_or_ge μ 84 with h16 | h16
                · have e : μ = 83 := by omega
                  subst e
                  exact ok_X5_matter
                · have e : μ = 84 := by omega
                  subst e
                  exact ok_X5_judge
          · rcases Nat.lt_or_ge μ 88 with h12 | h12
            · rcases Nat.lt_or_ge μ 86 with h14 | h14
              · have e : μ = 85 := by omega
                subst e
                exact ok_X5_like
              · rcases Nat.lt_or_ge μ 87 with h16 | h16
                · have e : μ = 86 := by omega
                  subst e
                  exact ok_X5_verdict
                · have e : μ = 87 := by omega
                  subst e
                  exact ok_X5_surely
            · rcases Nat.lt_or_ge μ 90 with h14 | h14
              · rcases Nat.lt_or_ge μ 89 with h16 | h16
                · have e : μ = 88 := by omega
                  subst e
                  exact ok_X5_freed
                · have e : μ = 89 := by omega
                  subst e
                  exact ok_X5_code
              · rcases Nat.lt_or_ge μ 91 with h16 | h16
                · have e : μ = 90 := by omega
                  subst e
                  exact ok_X5_kinds
                · have e : μ = 91 := by omega
                  subst e
                  exact ok_X5_forged
        · rcases Nat.lt_or_ge μ 99 with h10 | h10
          · rcases Nat.lt_or_ge μ 95 with h12 | h12
            · rcases Nat.lt_or_ge μ 93 with h14 | h14
              · have e : μ = 92 := by omega
                subst e
                exact ok_X5_torn
              · rcases Nat.lt_or_ge μ 94 with h16 | h16
                · have e : μ = 93 := by omega
                  subst e
                  exact ok_X5_lots
                · have e : μ = 94 := by omega
                  subst e
                  exact ok_X5_asked
            · rcases Nat.lt_or_ge μ 97 with h14 | h14
              · rcases Nat.lt_or_ge μ 96 with h16 | h16
                · have e : μ = 95 := by omega
                  subst e
                  exact ok_X5_upper
                · have e : μ = 96 := by omega
                  subst e
                  exact ok_X5_lower
              · rcases Nat.lt_or_ge μ 98 with h16 | h16
                · have e : μ = 97 := by omega
                  subst e
                  exact ok_X5_count
                · have e : μ = 98 := by omega
                  subst e
                  exact ok_X5_finding
          · rcases Nat.lt_or_ge μ 102 with h12 | h12
            · rcases Nat.lt_or_ge μ 100 with h14 | h14
              · have e : μ = 99 := by omega
                subst e
                exact ok_X5_findings
              · rcases Nat.lt_or_ge μ 101 with h16 | h16
                · have e : μ = 100 := by omega
                  subst e
                  exact ok_X5_digest
                · have e : μ = 101 := by omega
                  subst e
                  exact ok_X5_within
            · rcases Nat.lt_or_ge μ 104 with h14 | h14
              · rcases Nat.lt_or_ge μ 103 with h16 | h16
                · have e : μ = 102 := by omega
                  subst e
                  exact ok_X5_holds
                · have e : μ = 103 := by omega
                  subst e
                  exact ok_X5_isOfKind
              · rcases Nat.lt_or_ge μ 105 with h16 | h16
                · have e : μ = 104 := by omega
                  subst e
                  exact ok_X5_greatestDivisor
                · have e : μ = 105 := by omega
                  subst e
                  exact ok_X5_refuse
  · rcases Nat.lt_or_ge μ 159 with h4 | h4
    · rcases Nat.lt_or_ge μ 132 with h6 | h6
      · rcases Nat.lt_or_ge μ 119 with h8 | h8
        · rcases Nat.lt_or_ge μ 112 with h10 | h10
          · rcases Nat.lt_or_ge μ 109 with h12 | h12
            · rcases Nat.lt_or_ge μ 107 with h14 | h14
              · have e : μ = 106 := by omega
                subst e
                exact ok_X5_tell
              · rcases Nat.lt_or_ge μ 108 with h16 | h16
                · have e : μ = 107 := by omega
                  subst e
                  exact ok_X5_renewed
                · have e : μ = 108 := by omega
                  subst e
                  exact ok_X5_refusalOfPlace
            · rcases Nat.lt_or_ge μ 110 with h14 | h14
              · have e : μ = 109 := by omega
                subst e
                exact ok_X5_isKept
              · rcases Nat.lt_or_ge μ 111 with h16 | h16
                · have e : μ = 110 := by omega
                  subst e
                  exact ok_X5_findWays
                · have e : μ = 111 := by omega
                  subst e
                  exact ok_X5_fewest
          · rcases Nat.lt_or_ge μ 115 with h12 | h12
            · rcases Nat.lt_or_ge μ 113 with h14 | h14
              · have e : μ = 112 := by omega
                subst e
                exact ok_X5_canReach
              · rcases Nat.lt_or_ge μ 114 with h16 | h16
                · have e : μ = 113 := by omega
                  subst e
                  exact ok_X5_pick
                · have e : μ = 114 := by omega
                  subst e
                  exact ok_X5_changedWithout
            · rcases Nat.lt_or_ge μ 117 with h14 | h14
              · rcases Nat.lt_or_ge μ 116 with h16 | h16
                · have e : μ = 115 := by omega
                  subst e
                  exact ok_X5_fileByLot
                · have e : μ = 116 := by omega
                  subst e
                  exact ok_X5_countOf
              · rcases Nat.lt_or_ge μ 118 with h16 | h16
                · have e : μ = 117 := by omega
                  subst e
                  exact ok_X5_there
                · have e : μ = 118 := by omega
                  subst e
                  exact ok_X6_init
        · rcases Nat.lt_or_ge μ 125 with h10 | h10
          · rcases Nat.lt_or_ge μ 122 with h12 | h12
            · rcases Nat.lt_or_ge μ 120 with h14 | h14
              · have e : μ = 119 := by omega
                subst e
                exact ok_X6_in
              · rcases Nat.lt_or_ge μ 121 with h16 | h16
                · have e : μ = 120 := by omega
                  subst e
                  exact ok_X6_has
                · have e : μ = 121 := by omega
                  subst e
                  exact ok_X6_ones
            · rcases Nat.lt_or_ge μ 123 with h14 | h14
              · have e : μ = 122 := by omega
                subst e
                exact ok_X6_finds
              · rcases Nat.lt_or_ge μ 124 with h16 | h16
                · have e : μ = 123 := by omega
                  subst e
                  exact ok_X6_tells
                · have e : μ = 124 := by omega
                  subst e
                  exact ok_X6_isRow
          · rcases Nat.lt_or_ge μ 128 with h12 | h12
            · rcases Nat.lt_or_ge μ 126 with h14 | h14
              · have e : μ = 125 := by omega
                subst e
                exact ok_X6_isText
              · rcases Nat.lt_or_ge μ 127 with h16 | h16
                · have e : μ = 126 := by omega
                  subst e
                  exact ok_X6_row
                · have e : μ = 127 := by omega
                  subst e
                  exact ok_X6_lay
            · rcases Nat.lt_or_ge μ 130 with h14 | h14
              · rcases Nat.lt_or_ge μ 129 with h16 | h16
                · have e : μ = 128 := by omega
                  subst e
                  exact ok_X6_at
                · have e : μ = 129 := by omega
                  subst e
                  exact ok_X6_tear
              · rcases Nat.lt_or_ge μ 131 with h16 | h16
                · have e : μ = 130 := by omega
                  subst e
                  exact ok_X6_isPart
                · have e : μ = 131 := by omega
                  subst e
                  exact ok_X6_copy
      · rcases Nat.lt_or_ge μ 145 with h8 | h8
        · rcases Nat.lt_or_ge μ 138 with h10 | h10
          · rcases Nat.lt_or_ge μ 135 with h12 | h12
            · rcases Nat.lt_or_ge μ 133 with h14 | h14
              · have e : μ = 132 := by omega
                subst e
                exact ok_X6_mean
              · rcases Nat.lt_or_ge μ 134 with h16 | h16
                · have e : μ = 133 := by omega
                  subst e
                  exact ok_X6_text
                · have e : μ = 134 := by omega
                  subst e
                  exact ok_X6_put
            · rcases Nat.lt_or_ge μ 136 with h14 | h14
              · have e : μ = 135 := by omega
                subst e
                exact ok_X6_byteAt
              · rcases Nat.lt_or_ge μ 137 with h16 | h16
                · have e : μ = 136 := by omega
                  subst e
                  exact ok_X6_kindOf
                · have e : μ = 137 := by omega
                  subst e
                  exact ok_X6_figure
          · rcases Nat.lt_or_ge μ 141 with h12 | h12
            · rcases Nat.lt_or_ge μ 139 with h14 | h14
              · have e : μ = 138 := by omega
                subst e
                exact ok_X6_faults
              · rcases Nat.lt_or_ge μ 140 with h16 | h16
                · have e : μ = 139 := by omega
                  subst e
                  exact ok_X6_readsCitation
                · have e : μ = 140 := by omega
                  subst e
                  exact ok_X6_readsItem
            · rcases Nat.lt_or_ge μ 143 with h14 | h14
              · rcases Nat.lt_or_ge μ 142 with h16 | h16
                · have e : μ = 141 := by omega
                  subst e
                  exact ok_X6_reads
                · have e : μ = 142 := by omega
                  subst e
                  exact ok_X6_fault
              · rcases Nat.lt_or_ge μ 144 with h16 | h16
                · have e : μ = 143 := by omega
                  subst e
                  exact ok_X6_adds
                · have e : μ = 144 := by omega
                  subst e
                  exact ok_X6_court
        · rcases Nat.lt_or_ge μ 152 with h10 | h10
          · rcases Nat.lt_or_ge μ 148 with h12 | h12
            · rcases Nat.lt_or_ge μ 146 with h14 | h14
              · have e : μ = 145 := by omega
                subst e
                exact ok_X6_isRuling
              · rcases Nat.lt_or_ge μ 147 with h16 | h16
                · have e : μ = 146 := by omega
                  subst e
                  exact ok_X6_isSet
                · have e : μ = 147 := by omega
                  subst e
                  exact ok_X6_citing
            · rcases Nat.lt_or_ge μ 150 with h14 | h14
              · rcases Nat.lt_or_ge μ 149 with h16 | h16
                · have e : μ = 148 := by omega
                  subst e
                  exact ok_X6_told
                · have e : μ = 149 := by omega
                  subst e
                  exact ok_X6_ruling
              · rcases Nat.lt_or_ge μ 151 with h16 | h16
                · have e : μ = 150 := by omega
                  subst e
                  exact ok_X6_isOf
                · have e : μ = 151 := by omega
                  subst e
                  exact ok_X6_depends
          · rcases Nat.lt_or_ge μ 155 with h12 | h12
            · rcases Nat.lt_or_ge μ 153 with h14 | h14
              · have e : μ = 152 := by omega
                subst e
                exact ok_X6_ofItsDay
              · rcases Nat.lt_or_ge μ 154 with h16 | h16
                · have e : μ = 153 := by omega
                  subst e
                  exact ok_X6_mark
                · have e : μ = 154 := by omega
                  subst e
                  exact ok_X6_reverse
            · rcases Nat.lt_or_ge μ 157 with h14 | h14
              · rcases Nat.lt_or_ge μ 156 with h16 | h16
                · have e : μ = 155 := by omega
                  subst e
                  exact ok_X6_marks
                · have e : μ = 156 := by omega
                  subst e
                  exact ok_X6_file
              · rcases Nat.lt_or_ge μ 158 with h16 | h16
                · have e : μ = 157 := by omega
                  subst e
                  exact ok_X6_strike
                · have e : μ = 158 := by omega
                  subst e
                  exact ok_X6_keep
    · rcases Nat.lt_or_ge μ 185 with h6 | h6
      · rcases Nat.lt_or_ge μ 172 with h8 | h8
        · rcases Nat.lt_or_ge μ 165 with h10 | h10
          · rcases Nat.lt_or_ge μ 162 with h12 | h12
            · rcases Nat.lt_or_ge μ 160 with h14 | h14
              · have e : μ = 159 := by omega
                subst e
                exact ok_X6_on
              · rcases Nat.lt_or_ge μ 161 with h16 | h16
                · have e : μ = 160 := by omega
                  subst e
                  exact ok_X6_all
                · have e : μ = 161 := by omega
                  subst e
                  exact ok_X6_isDue
            · rcases Nat.lt_or_ge μ 163 with h14 | h14
              · have e : μ = 162 := by omega
                subst e
                exact ok_X6_dueBy
              · rcases Nat.lt_or_ge μ 164 with h16 | h16
                · have e : μ = 163 := by omega
                  subst e
                  exact ok_X6_isWay
                · have e : μ = 164 := by omega
                  subst e
                  exact ok_X6_due
          · rcases Nat.lt_or_ge μ 168 with h12 | h12
            · rcases Nat.lt_or_ge μ 166 with h14 | h14
              · have e : μ = 165 := by omega
                subst e
                exact ok_X6_wayMany
              · rcases Nat.lt_or_ge μ 167 with h16 | h16
                · have e : μ = 166 := by omega
                  subst e
                  exact ok_X6_firstWay
                · have e : μ = 167 := by omega
                  subst e
                  exact ok_X6_standsIn
            · rcases Nat.lt_or_ge μ 170 with h14 | h14
              · rcases Nat.lt_or_ge μ 169 with h16 | h16
                · have e : μ = 168 := by omega
                  subst e
                  exact ok_X6_ways
                · have e : μ = 169 := by omega
                  subst e
                  exact ok_X6_nth
              · rcases Nat.lt_or_ge μ 171 with h16 | h16
                · have e : μ = 170 := by omega
                  subst e
                  exact ok_X6_findsSure
                · have e : μ = 171 := by omega
                  subst e
                  exact ok_X6_sure
        · rcases Nat.lt_or_ge μ 178 with h10 | h10
          · rcases Nat.lt_or_ge μ 175 with h12 | h12
            · rcases Nat.lt_or_ge μ 173 with h14 | h14
              · have e : μ = 172 := by omega
                subst e
                exact ok_X6_odds
              · rcases Nat.lt_or_ge μ 174 with h16 | h16
                · have e : μ = 173 := by omega
                  subst e
                  exact ok_X6_together
                · have e : μ = 174 := by omega
                  subst e
                  exact ok_X6_upTo
            · rcases Nat.lt_or_ge μ 176 with h14 | h14
              · have e : μ = 175 := by omega
                subst e
                exact ok_X6_till
              · rcases Nat.lt_or_ge μ 177 with h16 | h16
                · have e : μ = 176 := by omega
                  subst e
                  exact ok_X6_flips
                · have e : μ = 177 := by omega
                  subst e
                  exact ok_X6_jam
          · rcases Nat.lt_or_ge μ 181 with h12 | h12
            · rcases Nat.lt_or_ge μ 179 with h14 | h14
              · have e : μ = 178 := by omega
                subst e
                exact ok_X6_isReached
              · rcases Nat.lt_or_ge μ 180 with h16 | h16
                · have e : μ = 179 := by omega
                  subst e
                  exact ok_X6_power
                · have e : μ = 180 := by omega
                  subst e
                  exact ok_X6_strikes
            · rcases Nat.lt_or_ge μ 183 with h14 | h14
              · rcases Nat.lt_or_ge μ 182 with h16 | h16
                · have e : μ = 181 := by omega
                  subst e
                  exact ok_X6_files
                · have e : μ = 182 := by omega
                  subst e
                  exact ok_X6_fell
              · rcases Nat.lt_or_ge μ 184 with h16 | h16
                · have e : μ = 183 := by omega
                  subst e
                  exact ok_X6_guard
                · have e : μ = 184 := by omega
                  subst e
                  exact ok_X6_settle
      · rcases Nat.lt_or_ge μ 198 with h8 | h8
        · rcases Nat.lt_or_ge μ 191 with h10 | h10
          · rcases Nat.lt_or_ge μ 188 with h12 | h12
            · rcases Nat.lt_or_ge μ 186 with h14 | h14
              · have e : μ = 185 := by omega
                subst e
                exact ok_X6_otherwise
              · rcases Nat.lt_or_ge μ 187 with h16 | h16
                · have e : μ = 186 := by omega
                  subst e
                  exact ok_X6_matter
                · have e : μ = 187 := by omega
                  subst e
                  exact ok_X6_judge
            · rcases Nat.lt_or_ge μ 189 with h14 | h14
              · have e : μ = 188 := by omega
                subst e
                exact ok_X6_likeness
              · rcases Nat.lt_or_ge μ 190 with h16 | h16
                · have e : μ = 189 := by omega
                  subst e
                  exact ok_X6_like
                · have e : μ = 190 := by omega
                  subst e
                  exact ok_X6_verdictBy
          · rcases Nat.lt_or_ge μ 194 with h12 | h12
            · rcases Nat.lt_or_ge μ 192 with h14 | h14
              · have e : μ = 191 := by omega
                subst e
                exact ok_X6_verdict
              · rcases Nat.lt_or_ge μ 193 with h16 | h16
                · have e : μ = 192 := by omega
                  subst e
                  exact ok_X6_surely
                · have e : μ = 193 := by omega
                  subst e
                  exact ok_X6_freed
            · rcases Nat.lt_or_ge μ 196 with h14 | h14
              · rcases Nat.lt_or_ge μ 195 with h16 | h16
                · have e : μ = 194 := by omega
                  subst e
                  exact ok_X6_agrees
                · have e : μ = 195 := by omega
                  subst e
                  exact ok_X6_code
              · rcases Nat.lt_or_ge μ 197 with h16 | h16
                · have e : μ = 196 := by omega
                  subst e
                  exact ok_X6_kinds
                · have e : μ = 197 := by omega
                  subst e
                  exact ok_X6_forged
        · rcases Nat.lt_or_ge μ 205 with h10 | h10
          · rcases Nat.lt_or_ge μ 201 with h12 | h12
            · rcases Nat.lt_or_ge μ 199 with h14 | h14
              · have e : μ = 198 := by omega
                subst e
                exact ok_X6_torn
              · rcases Nat.lt_or_ge μ 200 with h16 | h16
                · have e : μ = 199 := by omega
                  subst e
                  exact ok_X6_ahead
                · have e : μ = 200 := by omega
                  subst e
                  exact ok_X6_nthAhead
            · rcases Nat.lt_or_ge μ 203 with h14 | h14
              · rcases Nat.lt_or_ge μ 202 with h16 | h16
                · have e : μ = 201 := by omega
                  subst e
                  exact ok_X6_lots
                · have e : μ = 202 := by omega
                  subst e
                  exact ok_X6_asked
              · rcases Nat.lt_or_ge μ 204 with h16 | h16
                · have e : μ = 203 := by omega
                  subst e
                  exact ok_X6_upper
                · have e : μ = 204 := by omega
                  subst e
                  exact ok_X6_lower
          · rcases Nat.lt_or_ge μ 208 with h12 | h12
            · rcases Nat.lt_or_ge μ 206 with h14 | h14
              · have e : μ = 205 := by omega
                subst e
                exact ok_X6_counted
              · rcases Nat.lt_or_ge μ 207 with h16 | h16
                · have e : μ = 206 := by omega
                  subst e
                  exact ok_X6_count
                · have e : μ = 207 := by omega
                  subst e
                  exact ok_X6_finding
            · rcases Nat.lt_or_ge μ 210 with h14 | h14
              · rcases Nat.lt_or_ge μ 209 with h16 | h16
                · have e : μ = 208 := by omega
                  subst e
                  exact ok_X6_findings
                · have e : μ = 209 := by omega
                  subst e
                  exact ok_X6_digest
              · rcases Nat.lt_or_ge μ 211 with h16 | h16
                · have e : μ = 210 := by omega
                  subst e
                  exact ok_J6_bitCount_0f7a4
                · have e : μ = 211 := by omega
                  subst e
                  exact ok_L_law
