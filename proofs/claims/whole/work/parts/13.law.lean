def pm_T (k : Nat) : Nat → Option pm_I := match k with
  | 0 => fun j => tb_Lo_init[j]?
  | 1 => fun j => tb_Lo_statement[j]?
  | 2 => fun j => tb_Lo_isBelow[j]?
  | 3 => fun j => tb_Lo_body[j]?
  | 4 => fun j => tb_Lo_guard[j]?
  | 5 => fun j => tb_Lo_check[j]?
  | 6 => fun j => tb_Lo_sound[j]?
  | 7 => fun j => tb_Lo_start[j]?
  | 8 => fun j => tb_Lo_step[j]?
  | 9 => fun j => tb_Lo_has[j]?
  | 10 => fun j => tb_Lo_cell[j]?
  | 11 => fun j => tb_Lo_holder[j]?
  | 12 => fun j => tb_Lo_state[j]?
  | 13 => fun j => tb_Lo_count[j]?
  | 14 => fun j => tb_Lo_race[j]?
  | 15 => fun j => tb_Lo_stuck[j]?
  | 16 => fun j => tb_Sh_init[j]?
  | 17 => fun j => tb_Sh_addStatement[j]?
  | 18 => fun j => tb_Sh_fits[j]?
  | 19 => fun j => tb_Sh_closeText[j]?
  | 20 => fun j => tb_Sh_setGuard[j]?
  | 21 => fun j => tb_Sh_contains[j]?
  | 22 => fun j => tb_Sh_firstWrong[j]?
  | 23 => fun j => tb_Sh_isRight[j]?
  | 24 => fun j => tb_Sh_guardHeld[j]?
  | 25 => fun j => tb_Sh_allRight[j]?
  | 26 => fun j => tb_Bo_init[j]?
  | 27 => fun j => tb_Bo_append[j]?
  | 28 => fun j => tb_Bo_joinBlocks[j]?
  | 29 => fun j => tb_Bo_closeBlock[j]?
  | 30 => fun j => tb_Bo_clear[j]?
  | 31 => fun j => tb_Ru_init[j]?
  | 32 => fun j => tb_Ru_begin[j]?
  | 33 => fun j => tb_Ru_leaveEnded[j]?
  | 34 => fun j => tb_Ru_placeOf[j]?
  | 35 => fun j => tb_Ru_bodyOf[j]?
  | 36 => fun j => tb_Ru_advance[j]?
  | 37 => fun j => tb_Ru_wouldWait[j]?
  | 38 => fun j => tb_Ru_perform[j]?
  | 39 => fun j => tb_Ru_readCell[j]?
  | 40 => fun j => tb_Ru_noteRace[j]?
  | 41 => fun j => tb_Ru_writeCell[j]?
  | 42 => fun j => tb_Ru_endBlock[j]?
  | 43 => fun j => tb_Ru_fork[j]?
  | 44 => fun j => tb_Ru_valueOf[j]?
  | 45 => fun j => tb_Ru_contentOf[j]?
  | 46 => fun j => tb_Ru_holderOf[j]?
  | 47 => fun j => tb_Ru_stateOf[j]?
  | 48 => fun j => tb_Ru_countOf[j]?
  | 49 => fun j => tb_Ru_racePart[j]?
  | 50 => fun j => tb_Ru_isStuck[j]?
  | 51 => fun j => tb_Rl_init[j]?
  | 52 => fun j => tb_Rl_clear[j]?
  | 53 => fun j => tb_Rl_add[j]?
  | 54 => fun j => tb_Rl_part[j]?
  | 55 => fun j => tb_Sd_init[j]?
  | 56 => fun j => tb_Sd_begin[j]?
  | 57 => fun j => tb_Sd_enter[j]?
  | 58 => fun j => tb_Sd_isDone[j]?
  | 59 => fun j => tb_Sd_moveTo[j]?
  | 60 => fun j => tb_Sd_learn[j]?
  | 61 => fun j => tb_Lk_init[j]?
  | 62 => fun j => tb_Lk_clear[j]?
  | 63 => fun j => tb_Lk_refuses[j]?
  | 64 => fun j => tb_Lk_take[j]?
  | 65 => fun j => tb_Lk_release[j]?
  | 66 => fun j => tb_Ce_init[j]?
  | 67 => fun j => tb_Ce_clear[j]?
  | 68 => fun j => tb_Ce_races[j]?
  | 69 => fun j => tb_Mo_init[j]?
  | 70 => fun j => tb_Mo_statement[j]?
  | 71 => fun j => tb_Mo_isIn[j]?
  | 72 => fun j => tb_Mo_body[j]?
  | 73 => fun j => tb_Mo_isWhole[j]?
  | 74 => fun j => tb_Mo_kindAt[j]?
  | 75 => fun j => tb_Mo_openerOf[j]?
  | 76 => fun j => tb_Mo_opens[j]?
  | 77 => fun j => tb_Mo_closerOf[j]?
  | 78 => fun j => tb_Mo_numberAt[j]?
  | 79 => fun j => tb_Mo_guard[j]?
  | 80 => fun j => tb_Mo_check[j]?
  | 81 => fun j => tb_Mo_isRight[j]?
  | 82 => fun j => tb_Mo_heldAt[j]?
  | 83 => fun j => tb_Mo_sound[j]?
  | 84 => fun j => tb_Mo_start[j]?
  | 85 => fun j => tb_Mo_begin[j]?
  | 86 => fun j => tb_Mo_enter[j]?
  | 87 => fun j => tb_Mo_leave[j]?
  | 88 => fun j => tb_Mo_step[j]?
  | 89 => fun j => tb_Mo_isThread[j]?
  | 90 => fun j => tb_Mo_waitsFor[j]?
  | 91 => fun j => tb_Mo_does[j]?
  | 92 => fun j => tb_Mo_meets[j]?
  | 93 => fun j => tb_Mo_mark[j]?
  | 94 => fun j => tb_Mo_takes[j]?
  | 95 => fun j => tb_Mo_ends[j]?
  | 96 => fun j => tb_Mo_has[j]?
  | 97 => fun j => tb_Mo_cell[j]?
  | 98 => fun j => tb_Mo_holder[j]?
  | 99 => fun j => tb_Mo_state[j]?
  | 100 => fun j => tb_Mo_count[j]?
  | 101 => fun j => tb_Mo_race[j]?
  | 102 => fun j => tb_Mo_stuck[j]?
  | 103 => fun j => tb_Ar_fill[j]?
  | _ => fun _ => none
def pm_bp (k : Nat) : Nat → Nat := match k with
  | 0 => pm_b bp_Lo_init
  | 1 => pm_b bp_Lo_statement
  | 2 => pm_b bp_Lo_isBelow
  | 3 => pm_b bp_Lo_body
  | 4 => pm_b bp_Lo_guard
  | 5 => pm_b bp_Lo_check
  | 6 => pm_b bp_Lo_sound
  | 7 => pm_b bp_Lo_start
  | 8 => pm_b bp_Lo_step
  | 9 => pm_b bp_Lo_has
  | 10 => pm_b bp_Lo_cell
  | 11 => pm_b bp_Lo_holder
  | 12 => pm_b bp_Lo_state
  | 13 => pm_b bp_Lo_count
  | 14 => pm_b bp_Lo_race
  | 15 => pm_b bp_Lo_stuck
  | 16 => pm_b bp_Sh_init
  | 17 => pm_b bp_Sh_addStatement
  | 18 => pm_b bp_Sh_fits
  | 19 => pm_b bp_Sh_closeText
  | 20 => pm_b bp_Sh_setGuard
  | 21 => pm_b bp_Sh_contains
  | 22 => pm_b bp_Sh_firstWrong
  | 23 => pm_b bp_Sh_isRight
  | 24 => pm_b bp_Sh_guardHeld
  | 25 => pm_b bp_Sh_allRight
  | 26 => pm_b bp_Bo_init
  | 27 => pm_b bp_Bo_append
  | 28 => pm_b bp_Bo_joinBlocks
  | 29 => pm_b bp_Bo_closeBlock
  | 30 => pm_b bp_Bo_clear
  | 31 => pm_b bp_Ru_init
  | 32 => pm_b bp_Ru_begin
  | 33 => pm_b bp_Ru_leaveEnded
  | 34 => pm_b bp_Ru_placeOf
  | 35 => pm_b bp_Ru_bodyOf
  | 36 => pm_b bp_Ru_advance
  | 37 => pm_b bp_Ru_wouldWait
  | 38 => pm_b bp_Ru_perform
  | 39 => pm_b bp_Ru_readCell
  | 40 => pm_b bp_Ru_noteRace
  | 41 => pm_b bp_Ru_writeCell
  | 42 => pm_b bp_Ru_endBlock
  | 43 => pm_b bp_Ru_fork
  | 44 => pm_b bp_Ru_valueOf
  | 45 => pm_b bp_Ru_contentOf
  | 46 => pm_b bp_Ru_holderOf
  | 47 => pm_b bp_Ru_stateOf
  | 48 => pm_b bp_Ru_countOf
  | 49 => pm_b bp_Ru_racePart
  | 50 => pm_b bp_Ru_isStuck
  | 51 => pm_b bp_Rl_init
  | 52 => pm_b bp_Rl_clear
  | 53 => pm_b bp_Rl_add
  | 54 => pm_b bp_Rl_part
  | 55 => pm_b bp_Sd_init
  | 56 => pm_b bp_Sd_begin
  | 57 => pm_b bp_Sd_enter
  | 58 => pm_b bp_Sd_isDone
  | 59 => pm_b bp_Sd_moveTo
  | 60 => pm_b bp_Sd_learn
  | 61 => pm_b bp_Lk_init
  | 62 => pm_b bp_Lk_clear
  | 63 => pm_b bp_Lk_refuses
  | 64 => pm_b bp_Lk_take
  | 65 => pm_b bp_Lk_release
  | 66 => pm_b bp_Ce_init
  | 67 => pm_b bp_Ce_clear
  | 68 => pm_b bp_Ce_races
  | 69 => pm_b bp_Mo_init
  | 70 => pm_b bp_Mo_statement
  | 71 => pm_b bp_Mo_isIn
  | 72 => pm_b bp_Mo_body
  | 73 => pm_b bp_Mo_isWhole
  | 74 => pm_b bp_Mo_kindAt
  | 75 => pm_b bp_Mo_openerOf
  | 76 => pm_b bp_Mo_opens
  | 77 => pm_b bp_Mo_closerOf
  | 78 => pm_b bp_Mo_numberAt
  | 79 => pm_b bp_Mo_guard
  | 80 => pm_b bp_Mo_check
  | 81 => pm_b bp_Mo_isRight
  | 82 => pm_b bp_Mo_heldAt
  | 83 => pm_b bp_Mo_sound
  | 84 => pm_b bp_Mo_start
  | 85 => pm_b bp_Mo_begin
  | 86 => pm_b bp_Mo_enter
  | 87 => pm_b bp_Mo_leave
  | 88 => pm_b bp_Mo_step
  | 89 => pm_b bp_Mo_isThread
  | 90 => pm_b bp_Mo_waitsFor
  | 91 => pm_b bp_Mo_does
  | 92 => pm_b bp_Mo_meets
  | 93 => pm_b bp_Mo_mark
  | 94 => pm_b bp_Mo_takes
  | 95 => pm_b bp_Mo_ends
  | 96 => pm_b bp_Mo_has
  | 97 => pm_b bp_Mo_cell
  | 98 => pm_b bp_Mo_holder
  | 99 => pm_b bp_Mo_state
  | 100 => pm_b bp_Mo_count
  | 101 => pm_b bp_Mo_race
  | 102 => pm_b bp_Mo_stuck
  | 103 => pm_b bp_Ar_fill
  | _ => fun _ => 0
theorem pm_hT : ∀ (mid j : Nat) (f : pm_I), pm_T mid j = some f → pm_S (pm_Y mid).2.1 (pm_Y mid).2.2.1 (pm_Y mid).1.cls (pm_Y mid).1.name (pm_Y mid).2.2.2 pm_Y (pm_bp mid) j f := by
  intro mid j f h
  rw [show j = 0 + j from (Nat.zero_add j).symm]
  match mid, h with
  | 0, h => exact pm_Sl_at _ 0 sd_Lo_init j f h
  | 1, h => exact pm_Sl_at _ 0 sd_Lo_statement j f h
  | 2, h => exact pm_Sl_at _ 0 sd_Lo_isBelow j f h
  | 3, h => exact pm_Sl_at _ 0 sd_Lo_body j f h
  | 4, h => exact pm_Sl_at _ 0 sd_Lo_guard j f h
  | 5, h => exact pm_Sl_at _ 0 sd_Lo_check j f h
  | 6, h => exact pm_Sl_at _ 0 sd_Lo_sound j f h
  | 7, h => exact pm_Sl_at _ 0 sd_Lo_start j f h
  | 8, h => exact pm_Sl_at _ 0 sd_Lo_step j f h
  | 9, h => exact pm_Sl_at _ 0 sd_Lo_has j f h
  | 10, h => exact pm_Sl_at _ 0 sd_Lo_cell j f h
  | 11, h => exact pm_Sl_at _ 0 sd_Lo_holder j f h
  | 12, h => exact pm_Sl_at _ 0 sd_Lo_state j f h
  | 13, h => exact pm_Sl_at _ 0 sd_Lo_count j f h
  | 14, h => exact pm_Sl_at _ 0 sd_Lo_race j f h
  | 15, h => exact pm_Sl_at _ 0 sd_Lo_stuck j f h
  | 16, h => exact pm_Sl_at _ 0 sd_Sh_init j f h
  | 17, h => exact pm_Sl_at _ 0 sd_Sh_addStatement j f h
  | 18, h => exact pm_Sl_at _ 0 sd_Sh_fits j f h
  | 19, h => exact pm_Sl_at _ 0 sd_Sh_closeText j f h
  | 20, h => exact pm_Sl_at _ 0 sd_Sh_setGuard j f h
  | 21, h => exact pm_Sl_at _ 0 sd_Sh_contains j f h
  | 22, h => exact pm_Sl_at _ 0 sd_Sh_firstWrong j f h
  | 23, h => exact pm_Sl_at _ 0 sd_Sh_isRight j f h
  | 24, h => exact pm_Sl_at _ 0 sd_Sh_guardHeld j f h
  | 25, h => exact pm_Sl_at _ 0 sd_Sh_allRight j f h
  | 26, h => exact pm_Sl_at _ 0 sd_Bo_init j f h
  | 27, h => exact pm_Sl_at _ 0 sd_Bo_append j f h
  | 28, h => exact pm_Sl_at _ 0 sd_Bo_joinBlocks j f h
  | 29, h => exact pm_Sl_at _ 0 sd_Bo_closeBlock j f h
  | 30, h => exact pm_Sl_at _ 0 sd_Bo_clear j f h
  | 31, h => exact pm_Sl_at _ 0 sd_Ru_init j f h
  | 32, h => exact pm_Sl_at _ 0 sd_Ru_begin j f h
  | 33, h => exact pm_Sl_at _ 0 sd_Ru_leaveEnded j f h
  | 34, h => exact pm_Sl_at _ 0 sd_Ru_placeOf j f h
  | 35, h => exact pm_Sl_at _ 0 sd_Ru_bodyOf j f h
  | 36, h => exact pm_Sl_at _ 0 sd_Ru_advance j f h
  | 37, h => exact pm_Sl_at _ 0 sd_Ru_wouldWait j f h
  | 38, h => exact pm_Sl_at _ 0 sd_Ru_perform j f h
  | 39, h => exact pm_Sl_at _ 0 sd_Ru_readCell j f h
  | 40, h => exact pm_Sl_at _ 0 sd_Ru_noteRace j f h
  | 41, h => exact pm_Sl_at _ 0 sd_Ru_writeCell j f h
  | 42, h => exact pm_Sl_at _ 0 sd_Ru_endBlock j f h
  | 43, h => exact pm_Sl_at _ 0 sd_Ru_fork j f h
  | 44, h => exact pm_Sl_at _ 0 sd_Ru_valueOf j f h
  | 45, h => exact pm_Sl_at _ 0 sd_Ru_contentOf j f h
  | 46, h => exact pm_Sl_at _ 0 sd_Ru_holderOf j f h
  | 47, h => exact pm_Sl_at _ 0 sd_Ru_stateOf j f h
  | 48, h => exact pm_Sl_at _ 0 sd_Ru_countOf j f h
  | 49, h => exact pm_Sl_at _ 0 sd_Ru_racePart j f h
  | 50, h => exact pm_Sl_at _ 0 sd_Ru_isStuck j f h
  | 51, h => exact pm_Sl_at _ 0 sd_Rl_init j f h
  | 52, h => exact pm_Sl_at _ 0 sd_Rl_clear j f h
  | 53, h => exact pm_Sl_at _ 0 sd_Rl_add j f h
  | 54, h => exact pm_Sl_at _ 0 sd_Rl_part j f h
  | 55, h => exact pm_Sl_at _ 0 sd_Sd_init j f h
  | 56, h => exact pm_Sl_at _ 0 sd_Sd_begin j f h
  | 57, h => exact pm_Sl_at _ 0 sd_Sd_enter j f h
  | 58, h => exact pm_Sl_at _ 0 sd_Sd_isDone j f h
  | 59, h => exact pm_Sl_at _ 0 sd_Sd_moveTo j f h
  | 60, h => exact pm_Sl_at _ 0 sd_Sd_learn j f h
  | 61, h => exact pm_Sl_at _ 0 sd_Lk_init j f h
  | 62, h => exact pm_Sl_at _ 0 sd_Lk_clear j f h
  | 63, h => exact pm_Sl_at _ 0 sd_Lk_refuses j f h
  | 64, h => exact pm_Sl_at _ 0 sd_Lk_take j f h
  | 65, h => exact pm_Sl_at _ 0 sd_Lk_release j f h
  | 66, h => exact pm_Sl_at _ 0 sd_Ce_init j f h
  | 67, h => exact pm_Sl_at _ 0 sd_Ce_clear j f h
  | 68, h => exact pm_Sl_at _ 0 sd_Ce_races j f h
  | 69, h => exact pm_Sl_at _ 0 sd_Mo_init j f h
  | 70, h => exact pm_Sl_at _ 0 sd_Mo_statement j f h
  | 71, h => exact pm_Sl_at _ 0 sd_Mo_isIn j f h
  | 72, h => exact pm_Sl_at _ 0 sd_Mo_body j f h
  | 73, h => exact pm_Sl_at _ 0 sd_Mo_isWhole j f h
  | 74, h => exact pm_Sl_at _ 0 sd_Mo_kindAt j f h
  | 75, h => exact pm_Sl_at _ 0 sd_Mo_openerOf j f h
  | 76, h => exact pm_Sl_at _ 0 sd_Mo_opens j f h
  | 77, h => exact pm_Sl_at _ 0 sd_Mo_closerOf j f h
  | 78, h => exact pm_Sl_at _ 0 sd_Mo_numberAt j f h
  | 79, h => exact pm_Sl_at _ 0 sd_Mo_guard j f h
  | 80, h => exact pm_Sl_at _ 0 sd_Mo_check j f h
  | 81, h => exact pm_Sl_at _ 0 sd_Mo_isRight j f h
  | 82, h => exact pm_Sl_at _ 0 sd_Mo_heldAt j f h
  | 83, h => exact pm_Sl_at _ 0 sd_Mo_sound j f h
  | 84, h => exact pm_Sl_at _ 0 sd_Mo_start j f h
  | 85, h => exact pm_Sl_at _ 0 sd_Mo_begin j f h
  | 86, h => exact pm_Sl_at _ 0 sd_Mo_enter j f h
  | 87, h => exact pm_Sl_at _ 0 sd_Mo_leave j f h
  | 88, h => exact pm_Sl_at _ 0 sd_Mo_step j f h
  | 89, h => exact pm_Sl_at _ 0 sd_Mo_isThread j f h
  | 90, h => exact pm_Sl_at _ 0 sd_Mo_waitsFor j f h
  | 91, h => exact pm_Sl_at _ 0 sd_Mo_does j f h
  | 92, h => exact pm_Sl_at _ 0 sd_Mo_meets j f h
  | 93, h => exact pm_Sl_at _ 0 sd_Mo_mark j f h
  | 94, h => exact pm_Sl_at _ 0 sd_Mo_takes j f h
  | 95, h => exact pm_Sl_at _ 0 sd_Mo_ends j f h
  | 96, h => exact pm_Sl_at _ 0 sd_Mo_has j f h
  | 97, h => exact pm_Sl_at _ 0 sd_Mo_cell j f h
  | 98, h => exact pm_Sl_at _ 0 sd_Mo_holder j f h
  | 99, h => exact pm_Sl_at _ 0 sd_Mo_state j f h
  | 100, h => exact pm_Sl_at _ 0 sd_Mo_count j f h
  | 101, h => exact pm_Sl_at _ 0 sd_Mo_race j f h
  | 102, h => exact pm_Sl_at _ 0 sd_Mo_stuck j f h
  | 103, h => exact pm_Sl_at _ 0 sd_Ar_fill j f h
  | _ + 104, h => cases h
theorem pm_hpl : ∀ mid : Nat, plainName (pm_Y mid).1.cls = true := by
  intro mid
  match mid with
  | 0 => decide
  | 1 => decide
  | 2 => decide
  | 3 => decide
  | 4 => decide
  | 5 => decide
  | 6 => decide
  | 7 => decide
  | 8 => decide
  | 9 => decide
  | 10 => decide
  | 11 => decide
  | 12 => decide
  | 13 => decide
  | 14 => decide
  | 15 => decide
  | 16 => decide
  | 17 => decide
  | 18 => decide
  | 19 => decide
  | 20 => decide
  | 21 => decide
  | 22 => decide
  | 23 => decide
  | 24 => decide
  | 25 => decide
  | 26 => decide
  | 27 => decide
  | 28 => decide
  | 29 => decide
  | 30 => decide
  | 31 => decide
  | 32 => decide
  | 33 => decide
  | 34 => decide
  | 35 => decide
  | 36 => decide
  | 37 => decide
  | 38 => decide
  | 39 => decide
  | 40 => decide
  | 41 => decide
  | 42 => decide
  | 43 => decide
  | 44 => decide
  | 45 => decide
  | 46 => decide
  | 47 => decide
  | 48 => decide
  | 49 => decide
  | 50 => decide
  | 51 => decide
  | 52 => decide
  | 53 => decide
  | 54 => decide
  | 55 => decide
  | 56 => decide
  | 57 => decide
  | 58 => decide
  | 59 => decide
  | 60 => decide
  | 61 => decide
  | 62 => decide
  | 63 => decide
  | 64 => decide
  | 65 => decide
  | 66 => decide
  | 67 => decide
  | 68 => decide
  | 69 => decide
  | 70 => decide
  | 71 => decide
  | 72 => decide
  | 73 => decide
  | 74 => decide
  | 75 => decide
  | 76 => decide
  | 77 => decide
  | 78 => decide
  | 79 => decide
  | 80 => decide
  | 81 => decide
  | 82 => decide
  | 83 => decide
  | 84 => decide
  | 85 => decide
  | 86 => decide
  | 87 => decide
  | 88 => decide
  | 89 => decide
  | 90 => decide
  | 91 => decide
  | 92 => decide
  | 93 => decide
  | 94 => decide
  | 95 => decide
  | 96 => decide
  | 97 => decide
  | 98 => decide
  | 99 => decide
  | 100 => decide
  | 101 => decide
  | 102 => decide
  | 103 => decide
  | _ + 104 =>
    show plainName R_Lo = true
    decide
theorem pm_hb0 : ∀ mid : Nat, pm_bp mid 0 = 0 := by
  intro mid
  match mid with
  | 0 => rfl
  | 1 => rfl
  | 2 => rfl
  | 3 => rfl
  | 4 => rfl
  | 5 => rfl
  | 6 => rfl
  | 7 => rfl
  | 8 => rfl
  | 9 => rfl
  | 10 => rfl
  | 11 => rfl
  | 12 => rfl
  | 13 => rfl
  | 14 => rfl
  | 15 => rfl
  | 16 => rfl
  | 17 => rfl
  | 18 => rfl
  | 19 => rfl
  | 20 => rfl
  | 21 => rfl
  | 22 => rfl
  | 23 => rfl
  | 24 => rfl
  | 25 => rfl
  | 26 => rfl
  | 27 => rfl
  | 28 => rfl
  | 29 => rfl
  | 30 => rfl
  | 31 => rfl
  | 32 => rfl
  | 33 => rfl
  | 34 => rfl
  | 35 => rfl
  | 36 => rfl
  | 37 => rfl
  | 38 => rfl
  | 39 => rfl
  | 40 => rfl
  | 41 => rfl
  | 42 => rfl
  | 43 => rfl
  | 44 => rfl
  | 45 => rfl
  | 46 => rfl
  | 47 => rfl
  | 48 => rfl
  | 49 => rfl
  | 50 => rfl
  | 51 => rfl
  | 52 => rfl
  | 53 => rfl
  | 54 => rfl
  | 55 => rfl
  | 56 => rfl
  | 57 => rfl
  | 58 => rfl
  | 59 => rfl
  | 60 => rfl
  | 61 => rfl
  | 62 => rfl
  | 63 => rfl
  | 64 => rfl
  | 65 => rfl
  | 66 => rfl
  | 67 => rfl
  | 68 => rfl
  | 69 => rfl
  | 70 => rfl
  | 71 => rfl
  | 72 => rfl
  | 73 => rfl
  | 74 => rfl
  | 75 => rfl
  | 76 => rfl
  | 77 => rfl
  | 78 => rfl
  | 79 => rfl
  | 80 => rfl
  | 81 => rfl
  | 82 => rfl
  | 83 => rfl
  | 84 => rfl
  | 85 => rfl
  | 86 => rfl
  | 87 => rfl
  | 88 => rfl
  | 89 => rfl
  | 90 => rfl
  | 91 => rfl
  | 92 => rfl
  | 93 => rfl
  | 94 => rfl
  | 95 => rfl
  | 96 => rfl
  | 97 => rfl
  | 98 => rfl
  | 99 => rfl
  | 100 => rfl
  | 101 => rfl
  | 102 => rfl
  | 103 => rfl
  | _ + 104 => rfl
theorem pm_cI : ∀ (ci : Nat) (q : vw_C), vwCl[ci]? = some q → Cond.instantiable q.1 q.2.2 ∈ lw_tbl := by
  intro ci q hq
  match ci, hq with
  | 0, hq => cases hq; exact pm_in1 (List.mem_append_left _ (List.mem_of_getElem? (i := 14) rfl))
  | 1, hq => cases hq; exact pm_in1 (List.mem_append_left _ (List.mem_of_getElem? (i := 22) rfl))
  | 2, hq => cases hq; exact pm_in1 (List.mem_append_left _ (List.mem_of_getElem? (i := 29) rfl))
  | 3, hq => cases hq; exact pm_in1 (List.mem_append_left _ (List.mem_of_getElem? (i := 81) rfl))
  | 4, hq => cases hq; exact pm_in1 (List.mem_append_left _ (List.mem_of_getElem? (i := 93) rfl))
  | 5, hq => cases hq; exact pm_in1 (List.mem_append_left _ (List.mem_of_getElem? (i := 106) rfl))
  | 6, hq => cases hq; exact pm_in1 (List.mem_append_left _ (List.mem_of_getElem? (i := 138) rfl))
  | 7, hq => cases hq; exact pm_in1 (List.mem_append_left _ (List.mem_of_getElem? (i := 154) rfl))
  | 8, hq => cases hq; exact pm_in1 (List.mem_append_right _ (List.mem_append_left _ (List.mem_of_getElem? (i := 223) rfl)))
  | n + 9, hq => cases hq
theorem pm_arrC {s : State} {args : Array Value} {ty : FieldType} (h : (Cond.arrayClass ty).before args s = true) (hn : ∀ C, ty ≠ .object C) : ∃ cA : ClassId, ArrOfT s cA ty ∧ va_RA s cA ty ∧ pm_mk ty s := by
  obtain ⟨cA, kA, comp, h1, h2, h3⟩ := Cond.arrayClass_spec h
  refine ⟨cA, fun n w => ⟨fun k g => (by cases g), kA, h2, comp, h3⟩, ?_, ?_⟩
  · cases ty with
    | object C => exact absurd rfl (hn C)
    | _ => exact h1
  · cases ty with
    | object C => exact absurd rfl (hn C)
    | _ => exact word_at (State.WarmedH.refl s) (Or.inr ⟨_, rfl⟩) h
theorem pm_arrO {s : State} {args : Array Value} {C : String} (h : (Cond.arrayOver (.object C)).before args s = true) : ∃ cA : ClassId, ArrOfT s cA (.object C) ∧ va_RA s cA (.object C) ∧ pm_mk (.object C) s := by
  obtain ⟨comp, cA, kA, h1, h2, h3, h4, h5⟩ := Cond.arrayOver_spec h
  exact ⟨cA, fun n w => ⟨fun k g => (by cases g), kA, h3, comp, h4⟩, ⟨kA, comp, h3, h4, h1, h5⟩, va_AO.of h⟩
theorem pm_G_of {s : State} {args : Array Value} (hts : ∀ w ∈ lw_tbl, w.before args s = true) : ∃ (D : va_G) (aC : Nat → ClassId), pm_G D aC s := by
  have k1 : ∀ ci : Nat, ∃ d : ClassId × (Nat → Nat), ∀ q : vw_C, vwCl[ci]? = some q → u_Kn s q.1 q.2.1 q.2.2 d.1 d.2 := by
    intro ci
    cases hq : vwCl[ci]? with
    | none => exact ⟨(0, fun _ => 0), fun q h => by cases h⟩
    | some q =>
      obtain ⟨cC, iS, hK⟩ := u_known (ws := u_ws q.1 q.2.1 q.2.2) (n := q.2.2) (fun w hw => hts w (pm_cF ci q hq w hw).1) (fun _ h => h) (hts _ (pm_cI ci q hq))
      exact ⟨(cC, iS), fun q' h => by cases h; exact hK⟩
  have k2 : ∀ t : Nat, ∃ cA : ClassId, ∀ ty, pm_tg[t]? = some ty → ArrOfT s cA ty ∧ va_RA s cA ty ∧ pm_mk ty s := by
    intro t
    match t with
    | 0 => obtain ⟨cA, h⟩ := pm_arrC (hts (.arrayClass .int) (pm_in1 (List.mem_append_left _ (List.mem_of_getElem? (i := 62) rfl)))) (fun _ g => by cases g); exact ⟨cA, fun ty g => by cases g; exact h⟩
    | 1 => obtain ⟨cA, h⟩ := pm_arrC (hts (.arrayClass .boolean) (pm_in1 (List.mem_append_right _ (List.mem_append_right _ (List.mem_of_getElem? (i := 61) rfl))))) (fun _ g => by cases g); exact ⟨cA, fun ty g => by cases g; exact h⟩
    | 2 => obtain ⟨cA, h⟩ := pm_arrO (hts (.arrayOver (.object "LockLoom$Body")) (pm_in1 (List.mem_append_left _ (List.mem_of_getElem? (i := 28) rfl)))); exact ⟨cA, fun ty g => by cases g; exact h⟩
    | 3 => obtain ⟨cA, h⟩ := pm_arrO (hts (.arrayOver (.object "LockLoom$Strand")) (pm_in1 (List.mem_append_left _ (List.mem_of_getElem? (i := 87) rfl)))); exact ⟨cA, fun ty g => by cases g; exact h⟩
    | 4 => obtain ⟨cA, h⟩ := pm_arrO (hts (.arrayOver (.object "LockLoom$Lock")) (pm_in1 (List.mem_append_left _ (List.mem_of_getElem? (i := 89) rfl)))); exact ⟨cA, fun ty g => by cases g; exact h⟩
    | 5 => obtain ⟨cA, h⟩ := pm_arrO (hts (.arrayOver (.object "LockLoom$Cell")) (pm_in1 (List.mem_append_left _ (List.mem_of_getElem? (i := 91) rfl)))); exact ⟨cA, fun ty g => by cases g; exact h⟩
    | n + 6 => exact ⟨0, fun ty g => by cases g⟩
  refine ⟨(fun ci => (Classical.choose (k1 ci)).1, fun ci => (Classical.choose (k1 ci)).2), fun t => Classical.choose (k2 t), fun w h1 h2 => ?_, fun ci q hq => Classical.choose_spec (k1 ci) q hq, fun t ty ht => Classical.choose_spec (k2 t) ty ht⟩
  simp only [pm_gd, Bool.and_eq_true] at h2
  exact va_Nw.of h2.1 (hts w h1)
theorem d_law_0 : decode code 0 = .ok (.new 7, 3) := by decide +kernel
theorem d_law_3 : decode code 3 = .ok (.dup, 1) := by decide +kernel
theorem d_law_4 : decode code 4 = .ok (.invokespecial 9, 3) := by decide +kernel
theorem d_law_7 : decode code 7 = .ok (.astore_n 1, 1) := by decide +kernel
theorem d_law_8 : decode code 8 = .ok (.new 10, 3) := by decide +kernel
theorem d_law_11 : decode code 11 = .ok (.dup, 1) := by decide +kernel
theorem d_law_12 : decode code 12 = .ok (.invokespecial 12, 3) := by decide +kernel
theorem d_law_15 : decode code 15 = .ok (.astore_n 2, 1) := by decide +kernel
theorem d_law_16 : decode code 16 = .ok (.iconst 0, 1) := by decide +kernel
theorem d_law_17 : decode code 17 = .ok (.istore_n 3, 1) := by decide +kernel
theorem d_law_18 : decode code 18 = .ok (.iload_n 3, 1) := by decide +kernel
theorem d_law_19 : decode code 19 = .ok (.aload_n 0, 1) := by decide +kernel
theorem d_law_20 : decode code 20 = .ok (.arraylength, 1) := by decide +kernel
theorem d_law_21 : decode code 21 = .ok (.iconst 3, 1) := by decide +kernel
theorem d_law_22 : decode code 22 = .ok (.isub, 1) := by decide +kernel
theorem d_law_23 : decode code 23 = .ok (.if_icmp .gt 429, 3) := by decide +kernel
theorem d_law_26 : decode code 26 = .ok (.aload_n 0, 1) := by decide +kernel
theorem d_law_27 : decode code 27 = .ok (.iload_n 3, 1) := by decide +kernel
theorem d_law_28 : decode code 28 = .ok (.iaload, 1) := by decide +kernel
theorem d_law_29 : decode code 29 = .ok (.bipush 15, 2) := by decide +kernel
theorem d_law_31 : decode code 31 = .ok (.iand, 1) := by decide +kernel
theorem d_law_32 : decode code 32 = .ok (.tableswitch 414 0 13 #[72, 105, 128, 161, 184, 197, 230, 253, 276, 299, 322, 345, 368, 401], 72) := by decide +kernel
theorem d_law_104 : decode code 104 = .ok (.aload_n 1, 1) := by decide +kernel
theorem d_law_105 : decode code 105 = .ok (.aload_n 0, 1) := by decide +kernel
theorem d_law_106 : decode code 106 = .ok (.iload_n 3, 1) := by decide +kernel
theorem d_law_107 : decode code 107 = .ok (.iconst 1, 1) := by decide +kernel
theorem d_law_108 : decode code 108 = .ok (.iadd, 1) := by decide +kernel
theorem d_law_109 : decode code 109 = .ok (.iaload, 1) := by decide +kernel
theorem d_law_110 : decode code 110 = .ok (.aload_n 0, 1) := by decide +kernel
theorem d_law_111 : decode code 111 = .ok (.iload_n 3, 1) := by decide +kernel
theorem d_law_112 : decode code 112 = .ok (.iconst 2, 1) := by decide +kernel
theorem d_law_113 : decode code 113 = .ok (.iadd, 1) := by decide +kernel
theorem d_law_114 : decode code 114 = .ok (.iaload, 1) := by decide +kernel
theorem d_law_115 : decode code 115 = .ok (.invokevirtual 13, 3) := by decide +kernel
theorem d_law_118 : decode code 118 = .ok (.aload_n 2, 1) := by decide +kernel
theorem d_law_119 : decode code 119 = .ok (.aload_n 0, 1) := by decide +kernel
theorem d_law_120 : decode code 120 = .ok (.iload_n 3, 1) := by decide +kernel
theorem d_law_121 : decode code 121 = .ok (.iconst 1, 1) := by decide +kernel
theorem d_law_122 : decode code 122 = .ok (.iadd, 1) := by decide +kernel
theorem d_law_123 : decode code 123 = .ok (.iaload, 1) := by decide +kernel
theorem d_law_124 : decode code 124 = .ok (.aload_n 0, 1) := by decide +kernel
theorem d_law_125 : decode code 125 = .ok (.iload_n 3, 1) := by decide +kernel
theorem d_law_126 : decode code 126 = .ok (.iconst 2, 1) := by decide +kernel
theorem d_law_127 : decode code 127 = .ok (.iadd, 1) := by decide +kernel
theorem d_law_128 : decode code 128 = .ok (.iaload, 1) := by decide +kernel
theorem d_law_129 : decode code 129 = .ok (.invokevirtual 17, 3) := by decide +kernel
theorem d_law_132 : decode code 132 = .ok (.if_icmp .eq 314, 3) := by decide +kernel
theorem d_law_135 : decode code 135 = .ok (.iconst 0, 1) := by decide +kernel
theorem d_law_136 : decode code 136 = .ok (.ireturn, 1) := by decide +kernel
theorem d_law_137 : decode code 137 = .ok (.aload_n 1, 1) := by decide +kernel
theorem d_law_138 : decode code 138 = .ok (.aload_n 0, 1) := by decide +kernel
theorem d_law_139 : decode code 139 = .ok (.iload_n 3, 1) := by decide +kernel
theorem d_law_140 : decode code 140 = .ok (.iconst 1, 1) := by decide +kernel
theorem d_law_141 : decode code 141 = .ok (.iadd, 1) := by decide +kernel
theorem d_law_142 : decode code 142 = .ok (.iaload, 1) := by decide +kernel
theorem d_law_143 : decode code 143 = .ok (.invokevirtual 18, 3) := by decide +kernel
theorem d_law_146 : decode code 146 = .ok (.aload_n 2, 1) := by decide +kernel
theorem d_law_147 : decode code 147 = .ok (.aload_n 0, 1) := by decide +kernel
theorem d_law_148 : decode code 148 = .ok (.iload_n 3, 1) := by decide +kernel
theorem d_law_149 : decode code 149 = .ok (.iconst 1, 1) := by decide +kernel
theorem d_law_150 : decode code 150 = .ok (.iadd, 1) := by decide +kernel
theorem d_law_151 : decode code 151 = .ok (.iaload, 1) := by decide +kernel
theorem d_law_152 : decode code 152 = .ok (.invokevirtual 22, 3) := by decide +kernel
theorem d_law_155 : decode code 155 = .ok (.if_icmp .eq 291, 3) := by decide +kernel
theorem d_law_158 : decode code 158 = .ok (.iconst 0, 1) := by decide +kernel
theorem d_law_159 : decode code 159 = .ok (.ireturn, 1) := by decide +kernel
theorem d_law_160 : decode code 160 = .ok (.aload_n 1, 1) := by decide +kernel
theorem d_law_161 : decode code 161 = .ok (.aload_n 0, 1) := by decide +kernel
theorem d_law_162 : decode code 162 = .ok (.iload_n 3, 1) := by decide +kernel
theorem d_law_163 : decode code 163 = .ok (.iconst 1, 1) := by decide +kernel
theorem d_law_164 : decode code 164 = .ok (.iadd, 1) := by decide +kernel
theorem d_law_165 : decode code 165 = .ok (.iaload, 1) := by decide +kernel
theorem d_law_166 : decode code 166 = .ok (.aload_n 0, 1) := by decide +kernel
theorem d_law_167 : decode code 167 = .ok (.iload_n 3, 1) := by decide +kernel
theorem d_law_168 : decode code 168 = .ok (.iconst 2, 1) := by decide +kernel
theorem d_law_169 : decode code 169 = .ok (.iadd, 1) := by decide +kernel
theorem d_law_170 : decode code 170 = .ok (.iaload, 1) := by decide +kernel
theorem d_law_171 : decode code 171 = .ok (.invokevirtual 23, 3) := by decide +kernel
theorem d_law_174 : decode code 174 = .ok (.aload_n 2, 1) := by decide +kernel
theorem d_law_175 : decode code 175 = .ok (.aload_n 0, 1) := by decide +kernel
theorem d_law_176 : decode code 176 = .ok (.iload_n 3, 1) := by decide +kernel
theorem d_law_177 : decode code 177 = .ok (.iconst 1, 1) := by decide +kernel
theorem d_law_178 : decode code 178 = .ok (.iadd, 1) := by decide +kernel
theorem d_law_179 : decode code 179 = .ok (.iaload, 1) := by decide +kernel
theorem d_law_180 : decode code 180 = .ok (.aload_n 0, 1) := by decide +kernel
theorem d_law_181 : decode code 181 = .ok (.iload_n 3, 1) := by decide +kernel
theorem d_law_182 : decode code 182 = .ok (.iconst 2, 1) := by decide +kernel
theorem d_law_183 : decode code 183 = .ok (.iadd, 1) := by decide +kernel
theorem d_law_184 : decode code 184 = .ok (.iaload, 1) := by decide +kernel
theorem d_law_185 : decode code 185 = .ok (.invokevirtual 27, 3) := by decide +kernel
theorem d_law_188 : decode code 188 = .ok (.if_icmp .eq 258, 3) := by decide +kernel
theorem d_law_191 : decode code 191 = .ok (.iconst 0, 1) := by decide +kernel
theorem d_law_192 : decode code 192 = .ok (.ireturn, 1) := by decide +kernel
theorem d_law_193 : decode code 193 = .ok (.aload_n 1, 1) := by decide +kernel
theorem d_law_194 : decode code 194 = .ok (.aload_n 0, 1) := by decide +kernel
theorem d_law_195 : decode code 195 = .ok (.iload_n 3, 1) := by decide +kernel
theorem d_law_196 : decode code 196 = .ok (.iconst 1, 1) := by decide +kernel
theorem d_law_197 : decode code 197 = .ok (.iadd, 1) := by decide +kernel
theorem d_law_198 : decode code 198 = .ok (.iaload, 1) := by decide +kernel
theorem d_law_199 : decode code 199 = .ok (.invokevirtual 28, 3) := by decide +kernel
theorem d_law_202 : decode code 202 = .ok (.aload_n 2, 1) := by decide +kernel
theorem d_law_203 : decode code 203 = .ok (.aload_n 0, 1) := by decide +kernel
theorem d_law_204 : decode code 204 = .ok (.iload_n 3, 1) := by decide +kernel
theorem d_law_205 : decode code 205 = .ok (.iconst 1, 1) := by decide +kernel
theorem d_law_206 : decode code 206 = .ok (.iadd, 1) := by decide +kernel
theorem d_law_207 : decode code 207 = .ok (.iaload, 1) := by decide +kernel
theorem d_law_208 : decode code 208 = .ok (.invokevirtual 31, 3) := by decide +kernel
theorem d_law_211 : decode code 211 = .ok (.if_icmp .eq 235, 3) := by decide +kernel
theorem d_law_214 : decode code 214 = .ok (.iconst 0, 1) := by decide +kernel
theorem d_law_215 : decode code 215 = .ok (.ireturn, 1) := by decide +kernel
theorem d_law_216 : decode code 216 = .ok (.aload_n 1, 1) := by decide +kernel
theorem d_law_217 : decode code 217 = .ok (.invokevirtual 32, 3) := by decide +kernel
theorem d_law_220 : decode code 220 = .ok (.aload_n 2, 1) := by decide +kernel
theorem d_law_221 : decode code 221 = .ok (.invokevirtual 36, 3) := by decide +kernel
theorem d_law_224 : decode code 224 = .ok (.if_icmp .eq 222, 3) := by decide +kernel
theorem d_law_227 : decode code 227 = .ok (.iconst 0, 1) := by decide +kernel
theorem d_law_228 : decode code 228 = .ok (.ireturn, 1) := by decide +kernel
theorem d_law_229 : decode code 229 = .ok (.aload_n 1, 1) := by decide +kernel
theorem d_law_230 : decode code 230 = .ok (.aload_n 0, 1) := by decide +kernel
theorem d_law_231 : decode code 231 = .ok (.iload_n 3, 1) := by decide +kernel
theorem d_law_232 : decode code 232 = .ok (.iconst 1, 1) := by decide +kernel
theorem d_law_233 : decode code 233 = .ok (.iadd, 1) := by decide +kernel
theorem d_law_234 : decode code 234 = .ok (.iaload, 1) := by decide +kernel
theorem d_law_235 : decode code 235 = .ok (.aload_n 0, 1) := by decide +kernel
theorem d_law_236 : decode code 236 = .ok (.iload_n 3, 1) := by decide +kernel
theorem d_law_237 : decode code 237 = .ok (.iconst 2, 1) := by decide +kernel
theorem d_law_238 : decode code 238 = .ok (.iadd, 1) := by decide +kernel
theorem d_law_239 : decode code 239 = .ok (.iaload, 1) := by decide +kernel
theorem d_law_240 : decode code 240 = .ok (.invokevirtual 37, 3) := by decide +kernel
theorem d_law_243 : decode code 243 = .ok (.aload_n 2, 1) := by decide +kernel
theorem d_law_244 : decode code 244 = .ok (.aload_n 0, 1) := by decide +kernel
theorem d_law_245 : decode code 245 = .ok (.iload_n 3, 1) := by decide +kernel
theorem d_law_246 : decode code 246 = .ok (.iconst 1, 1) := by decide +kernel
theorem d_law_247 : decode code 247 = .ok (.iadd, 1) := by decide +kernel
theorem d_law_248 : decode code 248 = .ok (.iaload, 1) := by decide +kernel
theorem d_law_249 : decode code 249 = .ok (.aload_n 0, 1) := by decide +kernel
theorem d_law_250 : decode code 250 = .ok (.iload_n 3, 1) := by decide +kernel
theorem d_law_251 : decode code 251 = .ok (.iconst 2, 1) := by decide +kernel
theorem d_law_252 : decode code 252 = .ok (.iadd, 1) := by decide +kernel
theorem d_law_253 : decode code 253 = .ok (.iaload, 1) := by decide +kernel
theorem d_law_254 : decode code 254 = .ok (.invokevirtual 40, 3) := by decide +kernel
theorem d_law_257 : decode code 257 = .ok (.if_icmp .eq 189, 3) := by decide +kernel
theorem d_law_260 : decode code 260 = .ok (.iconst 0, 1) := by decide +kernel
theorem d_law_261 : decode code 261 = .ok (.ireturn, 1) := by decide +kernel
theorem d_law_262 : decode code 262 = .ok (.aload_n 1, 1) := by decide +kernel
theorem d_law_263 : decode code 263 = .ok (.aload_n 0, 1) := by decide +kernel
theorem d_law_264 : decode code 264 = .ok (.iload_n 3, 1) := by decide +kernel
theorem d_law_265 : decode code 265 = .ok (.iconst 1, 1) := by decide +kernel
theorem d_law_266 : decode code 266 = .ok (.iadd, 1) := by decide +kernel
theorem d_law_267 : decode code 267 = .ok (.iaload, 1) := by decide +kernel
theorem d_law_268 : decode code 268 = .ok (.invokevirtual 41, 3) := by decide +kernel
theorem d_law_271 : decode code 271 = .ok (.aload_n 2, 1) := by decide +kernel
theorem d_law_272 : decode code 272 = .ok (.aload_n 0, 1) := by decide +kernel
theorem d_law_273 : decode code 273 = .ok (.iload_n 3, 1) := by decide +kernel
theorem d_law_274 : decode code 274 = .ok (.iconst 1, 1) := by decide +kernel
theorem d_law_275 : decode code 275 = .ok (.iadd, 1) := by decide +kernel
theorem d_law_276 : decode code 276 = .ok (.iaload, 1) := by decide +kernel
theorem d_law_277 : decode code 277 = .ok (.invokevirtual 44, 3) := by decide +kernel
theorem d_law_280 : decode code 280 = .ok (.if_icmp .eq 166, 3) := by decide +kernel
theorem d_law_283 : decode code 283 = .ok (.iconst 0, 1) := by decide +kernel
theorem d_law_284 : decode code 284 = .ok (.ireturn, 1) := by decide +kernel
theorem d_law_285 : decode code 285 = .ok (.aload_n 1, 1) := by decide +kernel
theorem d_law_286 : decode code 286 = .ok (.aload_n 0, 1) := by decide +kernel
theorem d_law_287 : decode code 287 = .ok (.iload_n 3, 1) := by decide +kernel
theorem d_law_288 : decode code 288 = .ok (.iconst 1, 1) := by decide +kernel
theorem d_law_289 : decode code 289 = .ok (.iadd, 1) := by decide +kernel
theorem d_law_290 : decode code 290 = .ok (.iaload, 1) := by decide +kernel
theorem d_law_291 : decode code 291 = .ok (.invokevirtual 45, 3) := by decide +kernel
theorem d_law_294 : decode code 294 = .ok (.aload_n 2, 1) := by decide +kernel
theorem d_law_295 : decode code 295 = .ok (.aload_n 0, 1) := by decide +kernel
theorem d_law_296 : decode code 296 = .ok (.iload_n 3, 1) := by decide +kernel
theorem d_law_297 : decode code 297 = .ok (.iconst 1, 1) := by decide +kernel
theorem d_law_298 : decode code 298 = .ok (.iadd, 1) := by decide +kernel
theorem d_law_299 : decode code 299 = .ok (.iaload, 1) := by decide +kernel
theorem d_law_300 : decode code 300 = .ok (.invokevirtual 48, 3) := by decide +kernel
theorem d_law_303 : decode code 303 = .ok (.if_icmp .eq 143, 3) := by decide +kernel
theorem d_law_306 : decode code 306 = .ok (.iconst 0, 1) := by decide +kernel
theorem d_law_307 : decode code 307 = .ok (.ireturn, 1) := by decide +kernel
theorem d_law_308 : decode code 308 = .ok (.aload_n 1, 1) := by decide +kernel
theorem d_law_309 : decode code 309 = .ok (.aload_n 0, 1) := by decide +kernel
theorem d_law_310 : decode code 310 = .ok (.iload_n 3, 1) := by decide +kernel
theorem d_law_311 : decode code 311 = .ok (.iconst 1, 1) := by decide +kernel
theorem d_law_312 : decode code 312 = .ok (.iadd, 1) := by decide +kernel
theorem d_law_313 : decode code 313 = .ok (.iaload, 1) := by decide +kernel
theorem d_law_314 : decode code 314 = .ok (.invokevirtual 49, 3) := by decide +kernel
theorem d_law_317 : decode code 317 = .ok (.aload_n 2, 1) := by decide +kernel
theorem d_law_318 : decode code 318 = .ok (.aload_n 0, 1) := by decide +kernel
theorem d_law_319 : decode code 319 = .ok (.iload_n 3, 1) := by decide +kernel
theorem d_law_320 : decode code 320 = .ok (.iconst 1, 1) := by decide +kernel
theorem d_law_321 : decode code 321 = .ok (.iadd, 1) := by decide +kernel
theorem d_law_322 : decode code 322 = .ok (.iaload, 1) := by decide +kernel
theorem d_law_323 : decode code 323 = .ok (.invokevirtual 52, 3) := by decide +kernel
theorem d_law_326 : decode code 326 = .ok (.if_icmp .eq 120, 3) := by decide +kernel
theorem d_law_329 : decode code 329 = .ok (.iconst 0, 1) := by decide +kernel
theorem d_law_330 : decode code 330 = .ok (.ireturn, 1) := by decide +kernel
theorem d_law_331 : decode code 331 = .ok (.aload_n 1, 1) := by decide +kernel
theorem d_law_332 : decode code 332 = .ok (.aload_n 0, 1) := by decide +kernel
theorem d_law_333 : decode code 333 = .ok (.iload_n 3, 1) := by decide +kernel
theorem d_law_334 : decode code 334 = .ok (.iconst 1, 1) := by decide +kernel
theorem d_law_335 : decode code 335 = .ok (.iadd, 1) := by decide +kernel
theorem d_law_336 : decode code 336 = .ok (.iaload, 1) := by decide +kernel
theorem d_law_337 : decode code 337 = .ok (.invokevirtual 53, 3) := by decide +kernel
theorem d_law_340 : decode code 340 = .ok (.aload_n 2, 1) := by decide +kernel
theorem d_law_341 : decode code 341 = .ok (.aload_n 0, 1) := by decide +kernel
theorem d_law_342 : decode code 342 = .ok (.iload_n 3, 1) := by decide +kernel
theorem d_law_343 : decode code 343 = .ok (.iconst 1, 1) := by decide +kernel
theorem d_law_344 : decode code 344 = .ok (.iadd, 1) := by decide +kernel
theorem d_law_345 : decode code 345 = .ok (.iaload, 1) := by decide +kernel
theorem d_law_346 : decode code 346 = .ok (.invokevirtual 56, 3) := by decide +kernel
theorem d_law_349 : decode code 349 = .ok (.if_icmp .eq 97, 3) := by decide +kernel
theorem d_law_352 : decode code 352 = .ok (.iconst 0, 1) := by decide +kernel
theorem d_law_353 : decode code 353 = .ok (.ireturn, 1) := by decide +kernel
theorem d_law_354 : decode code 354 = .ok (.aload_n 1, 1) := by decide +kernel
theorem d_law_355 : decode code 355 = .ok (.aload_n 0, 1) := by decide +kernel
theorem d_law_356 : decode code 356 = .ok (.iload_n 3, 1) := by decide +kernel
theorem d_law_357 : decode code 357 = .ok (.iconst 1, 1) := by decide +kernel
theorem d_law_358 : decode code 358 = .ok (.iadd, 1) := by decide +kernel
theorem d_law_359 : decode code 359 = .ok (.iaload, 1) := by decide +kernel
theorem d_law_360 : decode code 360 = .ok (.invokevirtual 57, 3) := by decide +kernel
theorem d_law_363 : decode code 363 = .ok (.aload_n 2, 1) := by decide +kernel
theorem d_law_364 : decode code 364 = .ok (.aload_n 0, 1) := by decide +kernel
theorem d_law_365 : decode code 365 = .ok (.iload_n 3, 1) := by decide +kernel
theorem d_law_366 : decode code 366 = .ok (.iconst 1, 1) := by decide +kernel
theorem d_law_367 : decode code 367 = .ok (.iadd, 1) := by decide +kernel
theorem d_law_368 : decode code 368 = .ok (.iaload, 1) := by decide +kernel
theorem d_law_369 : decode code 369 = .ok (.invokevirtual 60, 3) := by decide +kernel
theorem d_law_372 : decode code 372 = .ok (.if_icmp .eq 74, 3) := by decide +kernel
theorem d_law_375 : decode code 375 = .ok (.iconst 0, 1) := by decide +kernel
theorem d_law_376 : decode code 376 = .ok (.ireturn, 1) := by decide +kernel
theorem d_law_377 : decode code 377 = .ok (.aload_n 1, 1) := by decide +kernel
theorem d_law_378 : decode code 378 = .ok (.aload_n 0, 1) := by decide +kernel
theorem d_law_379 : decode code 379 = .ok (.iload_n 3, 1) := by decide +kernel
theorem d_law_380 : decode code 380 = .ok (.iconst 1, 1) := by decide +kernel
theorem d_law_381 : decode code 381 = .ok (.iadd, 1) := by decide +kernel
theorem d_law_382 : decode code 382 = .ok (.iaload, 1) := by decide +kernel
theorem d_law_383 : decode code 383 = .ok (.invokevirtual 61, 3) := by decide +kernel
theorem d_law_386 : decode code 386 = .ok (.aload_n 2, 1) := by decide +kernel
theorem d_law_387 : decode code 387 = .ok (.aload_n 0, 1) := by decide +kernel
theorem d_law_388 : decode code 388 = .ok (.iload_n 3, 1) := by decide +kernel
theorem d_law_389 : decode code 389 = .ok (.iconst 1, 1) := by decide +kernel
theorem d_law_390 : decode code 390 = .ok (.iadd, 1) := by decide +kernel
theorem d_law_391 : decode code 391 = .ok (.iaload, 1) := by decide +kernel
theorem d_law_392 : decode code 392 = .ok (.invokevirtual 64, 3) := by decide +kernel
theorem d_law_395 : decode code 395 = .ok (.if_icmp .eq 51, 3) := by decide +kernel
theorem d_law_398 : decode code 398 = .ok (.iconst 0, 1) := by decide +kernel
theorem d_law_399 : decode code 399 = .ok (.ireturn, 1) := by decide +kernel
theorem d_law_400 : decode code 400 = .ok (.aload_n 1, 1) := by decide +kernel
theorem d_law_401 : decode code 401 = .ok (.aload_n 0, 1) := by decide +kernel
theorem d_law_402 : decode code 402 = .ok (.iload_n 3, 1) := by decide +kernel
theorem d_law_403 : decode code 403 = .ok (.iconst 1, 1) := by decide +kernel
theorem d_law_404 : decode code 404 = .ok (.iadd, 1) := by decide +kernel
theorem d_law_405 : decode code 405 = .ok (.iaload, 1) := by decide +kernel
theorem d_law_406 : decode code 406 = .ok (.aload_n 0, 1) := by decide +kernel
theorem d_law_407 : decode code 407 = .ok (.iload_n 3, 1) := by decide +kernel
theorem d_law_408 : decode code 408 = .ok (.iconst 2, 1) := by decide +kernel
theorem d_law_409 : decode code 409 = .ok (.iadd, 1) := by decide +kernel
theorem d_law_410 : decode code 410 = .ok (.iaload, 1) := by decide +kernel
theorem d_law_411 : decode code 411 = .ok (.invokevirtual 65, 3) := by decide +kernel
theorem d_law_414 : decode code 414 = .ok (.aload_n 2, 1) := by decide +kernel
theorem d_law_415 : decode code 415 = .ok (.aload_n 0, 1) := by decide +kernel
theorem d_law_416 : decode code 416 = .ok (.iload_n 3, 1) := by decide +kernel
theorem d_law_417 : decode code 417 = .ok (.iconst 1, 1) := by decide +kernel
theorem d_law_418 : decode code 418 = .ok (.iadd, 1) := by decide +kernel
theorem d_law_419 : decode code 419 = .ok (.iaload, 1) := by decide +kernel
theorem d_law_420 : decode code 420 = .ok (.aload_n 0, 1) := by decide +kernel
theorem d_law_421 : decode code 421 = .ok (.iload_n 3, 1) := by decide +kernel
theorem d_law_422 : decode code 422 = .ok (.iconst 2, 1) := by decide +kernel
theorem d_law_423 : decode code 423 = .ok (.iadd, 1) := by decide +kernel
theorem d_law_424 : decode code 424 = .ok (.iaload, 1) := by decide +kernel
theorem d_law_425 : decode code 425 = .ok (.invokevirtual 68, 3) := by decide +kernel
theorem d_law_428 : decode code 428 = .ok (.if_icmp .eq 18, 3) := by decide +kernel
theorem d_law_431 : decode code 431 = .ok (.iconst 0, 1) := by decide +kernel
theorem d_law_432 : decode code 432 = .ok (.ireturn, 1) := by decide +kernel
theorem d_law_433 : decode code 433 = .ok (.aload_n 1, 1) := by decide +kernel
theorem d_law_434 : decode code 434 = .ok (.invokevirtual 69, 3) := by decide +kernel
theorem d_law_437 : decode code 437 = .ok (.aload_n 2, 1) := by decide +kernel
theorem d_law_438 : decode code 438 = .ok (.invokevirtual 72, 3) := by decide +kernel
theorem d_law_441 : decode code 441 = .ok (.if_icmp .eq 5, 3) := by decide +kernel
theorem d_law_444 : decode code 444 = .ok (.iconst 0, 1) := by decide +kernel
theorem d_law_445 : decode code 445 = .ok (.ireturn, 1) := by decide +kernel
theorem d_law_446 : decode code 446 = .ok (.iinc 3 3, 3) := by decide +kernel
theorem d_law_449 : decode code 449 = .ok (.goto (-431), 3) := by decide +kernel
theorem d_law_452 : decode code 452 = .ok (.iconst 1, 1) := by decide +kernel
theorem d_law_453 : decode code 453 = .ok (.ireturn, 1) := by decide +kernel
def tb_law (L : Nat) (xs : Nat → Int32) : List pm_I := [
  pm_newo 1 0 2,
  pm_dup 2,
  pm_callc 3 0 1,
  pm_astore 4 1,
  pm_newo 5 8 24,
  pm_dup 6,
  pm_callc 7 69 1,
  pm_astore 8 2,
  pm_const 9 0,
  pm_istore 10 3,
  pm_iload 11 3,
  pm_aload 12 0,
  pm_slen 13 L,
  pm_const 14 3,
  pm_bin 15 (fun a b => a - b),
  pm_icmp 282 16 (fun a b => decide (b < a)),
  pm_aload 17 0,
  pm_iload 18 3,
  pm_sld 19 L xs,
  pm_const 20 15,
  pm_bin 21 (fun a b => a &&& b),
  pm_sw [(0, 22), (1, 49), (2, 66), (3, 93), (4, 110), (5, 117), (6, 144), (7, 161), (8, 178), (9, 195), (10, 212), (11, 229), (12, 246), (13, 273)] 280,
  pm_aload 23 1,
  pm_aload 24 0,
  pm_iload 25 3,
  pm_const 26 1,
  pm_bin 27 (fun a b => a + b),
  pm_sld 28 L xs,
  pm_aload 29 0,
  pm_iload 30 3,
  pm_const 31 2,
  pm_bin 32 (fun a b => a + b),
  pm_sld 33 L xs,
  pm_callv 34 1 3 0,
  pm_aload 35 2,
  pm_aload 36 0,
  pm_iload 37 3,
  pm_const 38 1,
  pm_bin 39 (fun a b => a + b),
  pm_sld 40 L xs,
  pm_aload 41 0,
  pm_iload 42 3,
  pm_const 43 2,
  pm_bin 44 (fun a b => a + b),
  pm_sld 45 L xs,
  pm_callv 46 70 3 8,
  pm_icmp 280 47 (fun a b => decide (a = b)),
  pm_const 48 0,
  pm_zret,
  pm_aload 50 1,
  pm_aload 51 0,
  pm_iload 52 3,
  pm_const 53 1,
  pm_bin 54 (fun a b => a + b),
  pm_sld 55 L xs,
  pm_callv 56 3 2 0,
  pm_aload 57 2,
  pm_aload 58 0,
  pm_iload 59 3,
  pm_const 60 1,
  pm_bin 61 (fun a b => a + b),
  pm_sld 62 L xs,
  pm_callv 63 72 2 8,
  pm_icmp 280 64 (fun a b => decide (a = b)),
  pm_const 65 0,
  pm_zret,
  pm_aload 67 1,
  pm_aload 68 0,
  pm_iload 69 3,
  pm_const 70 1,
  pm_bin 71 (fun a b => a + b),
  pm_sld 72 L xs,
  pm_aload 73 0,
  pm_iload 74 3,
  pm_const 75 2,
  pm_bin 76 (fun a b => a + b),
  pm_sld 77 L xs,
  pm_callv 78 4 3 0,
  pm_aload 79 2,
  pm_aload 80 0,
  pm_iload 81 3,
  pm_const 82 1,
  pm_bin 83 (fun a b => a + b),
  pm_sld 84 L xs,
  pm_aload 85 0,
  pm_iload 86 3,
  pm_const 87 2,
  pm_bin 88 (fun a b => a + b),
  pm_sld 89 L xs,
  pm_callv 90 79 3 8,
  pm_icmp 280 91 (fun a b => decide (a = b)),
  pm_const 92 0,
  pm_zret,
  pm_aload 94 1,
  pm_aload 95 0,
  pm_iload 96 3,
  pm_const 97 1,
  pm_bin 98 (fun a b => a + b),
  pm_sld 99 L xs,
  pm_callv 100 5 2 0,
  pm_aload 101 2,
  pm_aload 102 0,
  pm_iload 103 3,
  pm_const 104 1,
  pm_bin 105 (fun a b => a + b),
  pm_sld 106 L xs,
  pm_callv 107 80 2 8,
  pm_icmp 280 108 (fun a b => decide (a = b)),
  pm_const 109 0,
  pm_zret,
  pm_aload 111 1,
  pm_callv 112 6 1 0,
  pm_aload 113 2,
  pm_callv 114 83 1 8,
  pm_icmp 280 115 (fun a b => decide (a = b)),
  pm_const 116 0,
  pm_zret,
  pm_aload 118 1,
  pm_aload 119 0,
  pm_iload 120 3,
  pm_const 121 1,
  pm_bin 122 (fun a b => a + b),
  pm_sld 123 L xs,
  pm_aload 124 0,
  pm_iload 125 3,
  pm_const 126 2,
  pm_bin 127 (fun a b => a + b),
  pm_sld 128 L xs,
  pm_callv 129 7 3 0,
  pm_aload 130 2,
  pm_aload 131 0,
  pm_iload 132 3,
  pm_const 133 1,
  pm_bin 134 (fun a b => a + b),
  pm_sld 135 L xs,
  pm_aload 136 0,
  pm_iload 137 3,
  pm_const 138 2,
  pm_bin 139 (fun a b => a + b),
  pm_sld 140 L xs,
  pm_callv 141 84 3 8,
  pm_icmp 280 142 (fun a b => decide (a = b)),
  pm_const 143 0,
  pm_zret,
  pm_aload 145 1,
  pm_aload 146 0,
  pm_iload 147 3,
  pm_const 148 1,
  pm_bin 149 (fun a b => a + b),
  pm_sld 150 L xs,
  pm_callv 151 8 2 0,
  pm_aload 152 2,
  pm_aload 153 0,
  pm_iload 154 3,
  pm_const 155 1,
  pm_bin 156 (fun a b => a + b),
  pm_sld 157 L xs,
  pm_callv 158 88 2 8,
  pm_icmp 280 159 (fun a b => decide (a = b)),
  pm_const 160 0,
  pm_zret,
  pm_aload 162 1,
  pm_aload 163 0,
  pm_iload 164 3,
  pm_const 165 1,
  pm_bin 166 (fun a b => a + b),
  pm_sld 167 L xs,
  pm_callv 168 9 2 0,
  pm_aload 169 2,
  pm_aload 170 0,
  pm_iload 171 3,
  pm_const 172 1,
  pm_bin 173 (fun a b => a + b),
  pm_sld 174 L xs,
  pm_callv 175 96 2 8,
  pm_icmp 280 176 (fun a b => decide (a = b)),
  pm_const 177 0,
  pm_zret,
  pm_aload 179 1,
  pm_aload 180 0,
  pm_iload 181 3,
  pm_const 182 1,
  pm_bin 183 (fun a b => a + b),
  pm_sld 184 L xs,
  pm_callv 185 10 2 0,
  pm_aload 186 2,
  pm_aload 187 0,
  pm_iload 188 3,
  pm_const 189 1,
  pm_bin 190 (fun a b => a + b),
  pm_sld 191 L xs,
  pm_callv 192 97 2 8,
  pm_icmp 280 193 (fun a b => decide (a = b)),
  pm_const 194 0,
  pm_zret,
  pm_aload 196 1,
  pm_aload 197 0,
  pm_iload 198 3,
  pm_const 199 1,
  pm_bin 200 (fun a b => a + b),
  pm_sld 201 L xs,
  pm_callv 202 11 2 0,
  pm_aload 203 2,
  pm_aload 204 0,
  pm_iload 205 3,
  pm_const 206 1,
  pm_bin 207 (fun a b => a + b),
  pm_sld 208 L xs,
  pm_callv 209 98 2 8,
  pm_icmp 280 210 (fun a b => decide (a = b)),
  pm_const 211 0,
  pm_zret,
  pm_aload 213 1,
  pm_aload 214 0,
  pm_iload 215 3,
  pm_const 216 1,
  pm_bin 217 (fun a b => a + b),
  pm_sld 218 L xs,
  pm_callv 219 12 2 0,
  pm_aload 220 2,
  pm_aload 221 0,
  pm_iload 222 3,
  pm_const 223 1,
  pm_bin 224 (fun a b => a + b),
  pm_sld 225 L xs,
  pm_callv 226 99 2 8,
  pm_icmp 280 227 (fun a b => decide (a = b)),
  pm_const 228 0,
  pm_zret,
  pm_aload 230 1,
  pm_aload 231 0,
  pm_iload 232 3,
  pm_const 233 1,
  pm_bin 234 (fun a b => a + b),
  pm_sld 235 L xs,
  pm_callv 236 13 2 0,
  pm_aload 237 2,
  pm_aload 238 0,
  pm_iload 239 3,
  pm_const 240 1,
  pm_bin 241 (fun a b => a + b),
  pm_sld 242 L xs,
  pm_callv 243 100 2 8,
  pm_icmp 280 244 (fun a b => decide (a = b)),
  pm_const 245 0,
  pm_zret,
  pm_aload 247 1,
  pm_aload 248 0,
  pm_iload 249 3,
  pm_const 250 1,
  pm_bin 251 (fun a b => a + b),
  pm_sld 252 L xs,
  pm_aload 253 0,
  pm_iload 254 3,
  pm_const 255 2,
  pm_bin 256 (fun a b => a + b),
  pm_sld 257 L xs,
  pm_callv 258 14 3 0,
  pm_aload 259 2,
  pm_aload 260 0,
  pm_iload 261 3,
  pm_const 262 1,
  pm_bin 263 (fun a b => a + b),
  pm_sld 264 L xs,
  pm_aload 265 0,
  pm_iload 266 3,
  pm_const 267 2,
  pm_bin 268 (fun a b => a + b),
  pm_sld 269 L xs,
  pm_callv 270 101 3 8,
  pm_icmp 280 271 (fun a b => decide (a = b)),
  pm_const 272 0,
  pm_zret,
  pm_aload 274 1,
  pm_callv 275 15 1 0,
  pm_aload 276 2,
  pm_callv 277 102 1 8,
  pm_icmp 280 278 (fun a b => decide (a = b)),
  pm_const 279 0,
  pm_zret,
  pm_iinc 281 3 3,
  pm_goto 10,
  pm_const 283 1,
  pm_zret]
def bp_law : List Nat := [0, 3, 4, 7, 8, 11, 12, 15, 16, 17, 18, 19, 20, 21, 22, 23, 26, 27, 28, 29, 31, 32, 104, 105, 106, 107, 108, 109, 110, 111, 112, 113, 114, 115, 118, 119, 120, 121, 122, 123, 124, 125, 126, 127, 128, 129, 132, 135, 136, 137, 138, 139, 140, 141, 142, 143, 146, 147, 148, 149, 150, 151, 152, 155, 158, 159, 160, 161, 162, 163, 164, 165, 166, 167, 168, 169, 170, 171, 174, 175, 176, 177, 178, 179, 180, 181, 182, 183, 184, 185, 188, 191, 192, 193, 194, 195, 196, 197, 198, 199, 202, 203, 204, 205, 206, 207, 208, 211, 214, 215, 216, 217, 220, 221, 224, 227, 228, 229, 230, 231, 232, 233, 234, 235, 236, 237, 238, 239, 240, 243, 244, 245, 246, 247, 248, 249, 250, 251, 252, 253, 254, 257, 260, 261, 262, 263, 264, 265, 266, 267, 268, 271, 272, 273, 274, 275, 276, 277, 280, 283, 284, 285, 286, 287, 288, 289, 290, 291, 294, 295, 296, 297, 298, 299, 300, 303, 306, 307, 308, 309, 310, 311, 312, 313, 314, 317, 318, 319, 320, 321, 322, 323, 326, 329, 330, 331, 332, 333, 334, 335, 336, 337, 340, 341, 342, 343, 344, 345, 346, 349, 352, 353, 354, 355, 356, 357, 358, 359, 360, 363, 364, 365, 366, 367, 368, 369, 372, 375, 376, 377, 378, 379, 380, 381, 382, 383, 386, 387, 388, 389, 390, 391, 392, 395, 398, 399, 400, 401, 402, 403, 404, 405, 406, 407, 408, 409, 410, 411, 414, 415, 416, 417, 418, 419, 420, 421, 422, 423, 424, 425, 428, 431, 432, 433, 434, 437, 438, 441, 444, 445, 446, 449, 452, 453]
def pm_Sk (P : Nat → pm_I → Prop) : Nat → List pm_I → Prop
  | _, [] => True
  | i, f :: l => P i f ∧ pm_Sk P (i + 1) l
theorem pm_Sk_at {P : Nat → pm_I → Prop} : ∀ (l : List pm_I) (i : Nat), pm_Sk P i l → ∀ (j : Nat) (f : pm_I), l[j]? = some f → P (i + j) f := by
  intro l
  induction l with
  | nil => intro i _ j f h; cases h
  | cons g l ih =>
    intro i h j f hj
    cases j with
    | zero => cases hj; exact h.1
    | succ j =>
      have := ih (i + 1) h.2 j f (by simpa using hj)
      rw [show i + (j + 1) = i + 1 + j by omega]
      exact this
section LAW
variable {p : Program} {l : Launch} {e : Env} {R : Room} {s : State} {m : MethodId} {args : Array Value} {below : List Frame} {meth : Method} {c : Code} {Q : State → Prop} {D : va_G} {aC : Nat → ClassId} {z bS : Nat}
/-- an instruction of the law's, in its one activation -/
def pm_cx (p : Program) (l : Launch) (e : Env) (R : Room) (s : State) (m : MethodId) (args : Array Value) (below : List Frame) (meth : Method) (c : Code) (Q : State → Prop) (D : va_G) (aC : Nat → ClassId) (z bS : Nat) (i : Nat) (f : pm_I) : Prop :=
  ∀ (lc st : List Value) (h : pm_H) (o : pm_O), f lc st h = some o → pm_Sm p l e R s m args below meth c Q D aC z bS 4 (pm_b bp_law) i code ret pm_Y lc st h o
theorem pm_of (X : pm_X p R s m meth c code 4 R_Law meth.name D aC z) {i : Nat} {f : pm_I} (h : pm_S code 4 R_Law meth.name ret pm_Y (pm_b bp_law) i f) : pm_cx p l e R s m args below meth c Q D aC z bS i f := fun lc st g o ho => h p l e R s m args below meth c Q D aC z bS X lc st g o ho
theorem so_sld (X : pm_X p R s m meth c code 4 R_Law meth.name D aC z) {L : Nat} {xs : Nat → Int32} (hX : va_X bS L xs s s.heap) (hbz : bS < z) {i x : Nat} (hd : decode code (pm_b bp_law i) = .ok (.iaload, 1)) (hx : pm_b bp_law x = pm_b bp_law i + 1) : pm_cx p l e R s m args below meth c Q D aC z bS i (pm_sld x L xs) := by
  intro lc st h o ho
  unfold pm_sld at ho
  split at ho
  · split at ho
    · rename_i j w st' hj
      cases ho
      simp only [Bool.not_eq_true', Bool.or_eq_false_iff, decide_eq_false_iff_not] at hj
      refine pm_keep fun H locs ls kc ks hL hkc hks k => ?_
      have k := k ls hL.2.2
      rw [hx] at k
      exact va_sld X.1 X.2.1 hX (Nat.lt_of_lt_of_le hbz X.2.2.2.2.2.1) (show ¬ z ≤ bS by omega) hL.2.1 (fun g => g.elim hj.1 hj.2) hd k
    · cases ho
  · cases ho
theorem so_slen (X : pm_X p R s m meth c code 4 R_Law meth.name D aC z) {L : Nat} {xs : Nat → Int32} (hX : va_X bS L xs s s.heap) (hbz : bS < z) {i x : Nat} (hd : decode code (pm_b bp_law i) = .ok (.arraylength, 1)) (hx : pm_b bp_law x = pm_b bp_law i + 1) : pm_cx p l e R s m args below meth c Q D aC z bS i (pm_slen x L) := by
  intro lc st h o ho
  unfold pm_slen at ho
  split at ho
  · cases ho
    refine pm_keep fun H locs ls kc ks hL hkc hks k => ?_
    have k := k ls hL.2.2
    rw [hx] at k
    exact va_slen X.1 X.2.1 hX (Nat.lt_of_lt_of_le hbz X.2.2.2.2.2.1) (show ¬ z ≤ bS by omega) hL.2.1 hd k
  · cases ho
set_option maxRecDepth 100000 in
theorem sd_law (X : pm_X p R s m meth c code 4 R_Law meth.name D aC z) {L : Nat} {xs : Nat → Int32} (hX : va_X bS L xs s s.heap) (hbz : bS < z) : pm_Sk (pm_cx p l e R s m args below meth c Q D aC z bS) 0 (tb_law L xs) := by
  refine ⟨pm_of X (so_newo (ci := 0) rfl (by decide +kernel) (pm_in1 (List.mem_append_left _ (List.mem_of_getElem? (i := 13) rfl))) (pm_in1 (List.mem_append_left _ (List.mem_of_getElem? (i := 14) rfl))) (pm_in1 (List.mem_append_left _ (List.mem_of_getElem? (i := 1) rfl))) d_law_0 rfl), ?_⟩
  refine ⟨pm_of X (so_dup d_law_3 rfl), ?_⟩
  refine ⟨pm_of X (so_callc rfl rfl mc_Lo_init mi_Lo mj_Lo_init ml_Law_9 yd_Lo_init (by decide) d_law_4 rfl), ?_⟩
  refine ⟨pm_of X (so_astoren d_law_7 rfl (by decide) rfl), ?_⟩
  refine ⟨pm_of X (so_newo (ci := 8) rfl (by decide +kernel) (pm_in1 (List.mem_append_right _ (List.mem_append_left _ (List.mem_of_getElem? (i := 222) rfl)))) (pm_in1 (List.mem_append_right _ (List.mem_append_left _ (List.mem_of_getElem? (i := 223) rfl)))) (pm_in1 (List.mem_append_left _ (List.mem_of_getElem? (i := 10) rfl))) d_law_8 rfl), ?_⟩
  refine ⟨pm_of X (so_dup d_law_11 rfl), ?_⟩
  refine ⟨pm_of X (so_callc rfl rfl mc_Mo_init mi_Mo mj_Mo_init ml_Law_12 yd_Mo_init (by decide) d_law_12 rfl), ?_⟩
  refine ⟨pm_of X (so_astoren d_law_15 rfl (by decide) rfl), ?_⟩
  refine ⟨pm_of X (so_const1 d_law_16 (by decide) rfl), ?_⟩
  refine ⟨pm_of X (so_istoren d_law_17 rfl (by decide) rfl), ?_⟩
  refine ⟨pm_of X (so_iloadn d_law_18 rfl rfl), ?_⟩
  refine ⟨pm_of X (so_aloadn d_law_19 rfl rfl), ?_⟩
  refine ⟨so_slen X hX hbz d_law_20 rfl, ?_⟩
  refine ⟨pm_of X (so_const1 d_law_21 (by decide) rfl), ?_⟩
  refine ⟨pm_of X (so_isub d_law_22 rfl), ?_⟩
  refine ⟨pm_of X (so_icmp_gt d_law_23 rfl rfl), ?_⟩
  refine ⟨pm_of X (so_aloadn d_law_26 rfl rfl), ?_⟩
  refine ⟨pm_of X (so_iloadn d_law_27 rfl rfl), ?_⟩
  refine ⟨so_sld X hX hbz d_law_28 rfl, ?_⟩
  refine ⟨pm_of X (so_const2 d_law_29 (by decide) rfl), ?_⟩
  refine ⟨pm_of X (so_iand d_law_31 rfl), ?_⟩
  refine ⟨pm_of X (so_tsw d_law_32 (by decide +kernel) (by decide +kernel) rfl), ?_⟩
  refine ⟨pm_of X (so_aloadn d_law_104 rfl rfl), ?_⟩
  refine ⟨pm_of X (so_aloadn d_law_105 rfl rfl), ?_⟩
  refine ⟨pm_of X (so_iloadn d_law_106 rfl rfl), ?_⟩
  refine ⟨pm_of X (so_const1 d_law_107 (by decide) rfl), ?_⟩
  refine ⟨pm_of X (so_iadd d_law_108 rfl), ?_⟩
  refine ⟨so_sld X hX hbz d_law_109 rfl, ?_⟩
  refine ⟨pm_of X (so_aloadn d_law_110 rfl rfl), ?_⟩
  refine ⟨pm_of X (so_iloadn d_law_111 rfl rfl), ?_⟩
  refine ⟨pm_of X (so_const1 d_law_112 (by decide) rfl), ?_⟩
  refine ⟨pm_of X (so_iadd d_law_113 rfl), ?_⟩
  refine ⟨so_sld X hX hbz d_law_114 rfl, ?_⟩
  refine ⟨pm_of X (so_callv (ci := 0) rfl rfl mc_Lo_statement mi_Lo mj_Lo_statement ms_Lo_statement ml_Law_13 yd_Lo_statement (by decide) d_law_115 rfl), ?_⟩
  refine ⟨pm_of X (so_aloadn d_law_118 rfl rfl), ?_⟩
  refine ⟨pm_of X (so_aloadn d_law_119 rfl rfl), ?_⟩
  refine ⟨pm_of X (so_iloadn d_law_120 rfl rfl), ?_⟩
  refine ⟨pm_of X (so_const1 d_law_121 (by decide) rfl), ?_⟩
  refine ⟨pm_of X (so_iadd d_law_122 rfl), ?_⟩
  refine ⟨so_sld X hX hbz d_law_123 rfl, ?_⟩
  refine ⟨pm_of X (so_aloadn d_law_124 rfl rfl), ?_⟩
  refine ⟨pm_of X (so_iloadn d_law_125 rfl rfl), ?_⟩
  refine ⟨pm_of X (so_const1 d_law_126 (by decide) rfl), ?_⟩
  refine ⟨pm_of X (so_iadd d_law_127 rfl), ?_⟩
  refine ⟨so_sld X hX hbz d_law_128 rfl, ?_⟩
  refine ⟨pm_of X (so_callv (ci := 8) rfl rfl mc_Mo_statement mi_Mo mj_Mo_statement ms_Mo_statement ml_Law_17 yd_Mo_statement (by decide) d_law_129 rfl), ?_⟩
  refine ⟨pm_of X (so_icmp_eq d_law_132 rfl rfl), ?_⟩
  refine ⟨pm_of X (so_const1 d_law_135 (by decide) rfl), ?_⟩
  refine ⟨pm_of X (so_zret d_law_136 rfl), ?_⟩
  refine ⟨pm_of X (so_aloadn d_law_137 rfl rfl), ?_⟩
  refine ⟨pm_of X (so_aloadn d_law_138 rfl rfl), ?_⟩
  refine ⟨pm_of X (so_iloadn d_law_139 rfl rfl), ?_⟩
  refine ⟨pm_of X (so_const1 d_law_140 (by decide) rfl), ?_⟩
  refine ⟨pm_of X (so_iadd d_law_141 rfl), ?_⟩
  refine ⟨so_sld X hX hbz d_law_142 rfl, ?_⟩
  refine ⟨pm_of X (so_callv (ci := 0) rfl rfl mc_Lo_body mi_Lo mj_Lo_body ms_Lo_body ml_Law_18 yd_Lo_body (by decide) d_law_143 rfl), ?_⟩
  refine ⟨pm_of X (so_aloadn d_law_146 rfl rfl), ?_⟩
  refine ⟨pm_of X (so_aloadn d_law_147 rfl rfl), ?_⟩
  refine ⟨pm_of X (so_iloadn d_law_148 rfl rfl), ?_⟩
  refine ⟨pm_of X (so_const1 d_law_149 (by decide) rfl), ?_⟩
  refine ⟨pm_of X (so_iadd d_law_150 rfl), ?_⟩
  refine ⟨so_sld X hX hbz d_law_151 rfl, ?_⟩
  refine ⟨pm_of X (so_callv (ci := 8) rfl rfl mc_Mo_body mi_Mo mj_Mo_body ms_Mo_body ml_Law_22 yd_Mo_body (by decide) d_law_152 rfl), ?_⟩
  refine ⟨pm_of X (so_icmp_eq d_law_155 rfl rfl), ?_⟩
  refine ⟨pm_of X (so_const1 d_law_158 (by decide) rfl), ?_⟩
  refine ⟨pm_of X (so_zret d_law_159 rfl), ?_⟩
  refine ⟨pm_of X (so_aloadn d_law_160 rfl rfl), ?_⟩
  refine ⟨pm_of X (so_aloadn d_law_161 rfl rfl), ?_⟩
  refine ⟨pm_of X (so_iloadn d_law_162 rfl rfl), ?_⟩
  refine ⟨pm_of X (so_const1 d_law_163 (by decide) rfl), ?_⟩
  refine ⟨pm_of X (so_iadd d_law_164 rfl), ?_⟩
  refine ⟨so_sld X hX hbz d_law_165 rfl, ?_⟩
  refine ⟨pm_of X (so_aloadn d_law_166 rfl rfl), ?_⟩
  refine ⟨pm_of X (so_iloadn d_law_167 rfl rfl), ?_⟩
  refine ⟨pm_of X (so_const1 d_law_168 (by decide) rfl), ?_⟩
  refine ⟨pm_of X (so_iadd d_law_169 rfl), ?_⟩
  refine ⟨so_sld X hX hbz d_law_170 rfl, ?_⟩
  refine ⟨pm_of X (so_callv (ci := 0) rfl rfl mc_Lo_guard mi_Lo mj_Lo_guard ms_Lo_guard ml_Law_23 yd_Lo_guard (by decide) d_law_171 rfl), ?_⟩
  refine ⟨pm_of X (so_aloadn d_law_174 rfl rfl), ?_⟩
  refine ⟨pm_of X (so_aloadn d_law_175 rfl rfl), ?_⟩
  refine ⟨pm_of X (so_iloadn d_law_176 rfl rfl), ?_⟩
  refine ⟨pm_of X (so_const1 d_law_177 (by decide) rfl), ?_⟩
  refine ⟨pm_of X (so_iadd d_law_178 rfl), ?_⟩
  refine ⟨so_sld X hX hbz d_law_179 rfl, ?_⟩
  refine ⟨pm_of X (so_aloadn d_law_180 rfl rfl), ?_⟩
  refine ⟨pm_of X (so_iloadn d_law_181 rfl rfl), ?_⟩
  refine ⟨pm_of X (so_const1 d_law_182 (by decide) rfl), ?_⟩
  refine ⟨pm_of X (so_iadd d_law_183 rfl), ?_⟩
  refine ⟨so_sld X hX hbz d_law_184 rfl, ?_⟩
  refine ⟨pm_of X (so_callv (ci := 8) rfl rfl mc_Mo_guard mi_Mo mj_Mo_guard ms_Mo_guard ml_Law_27 yd_Mo_guard (by decide) d_law_185 rfl), ?_⟩
  refine ⟨pm_of X (so_icmp_eq d_law_188 rfl rfl), ?_⟩
  refine ⟨pm_of X (so_const1 d_law_191 (by decide) rfl), ?_⟩
  refine ⟨pm_of X (so_zret d_law_192 rfl), ?_⟩
  refine ⟨pm_of X (so_aloadn d_law_193 rfl rfl), ?_⟩
  refine ⟨pm_of X (so_aloadn d_law_194 rfl rfl), ?_⟩
  refine ⟨pm_of X (so_iloadn d_law_195 rfl rfl), ?_⟩
  refine ⟨pm_of X (so_const1 d_law_196 (by decide) rfl), ?_⟩
  refine ⟨pm_of X (so_iadd d_law_197 rfl), ?_⟩
  refine ⟨so_sld X hX hbz d_law_198 rfl, ?_⟩
  refine ⟨pm_of X (so_callv (ci := 0) rfl rfl mc_Lo_check mi_Lo mj_Lo_check ms_Lo_check ml_Law_28 yd_Lo_check (by decide) d_law_199 rfl), ?_⟩
  refine ⟨pm_of X (so_aloadn d_law_202 rfl rfl), ?_⟩
  refine ⟨pm_of X (so_aloadn d_law_203 rfl rfl), ?_⟩
  refine ⟨pm_of X (so_iloadn d_law_204 rfl rfl), ?_⟩
  refine ⟨pm_of X (so_const1 d_law_205 (by decide) rfl), ?_⟩
  refine ⟨pm_of X (so_iadd d_law_206 rfl), ?_⟩
  refine ⟨so_sld X hX hbz d_law_207 rfl, ?_⟩
  refine ⟨pm_of X (so_callv (ci := 8) rfl rfl mc_Mo_check mi_Mo mj_Mo_check ms_Mo_check ml_Law_31 yd_Mo_check (by decide) d_law_208 rfl), ?_⟩
  refine ⟨pm_of X (so_icmp_eq d_law_211 rfl rfl), ?_⟩
  refine ⟨pm_of X (so_const1 d_law_214 (by decide) rfl), ?_⟩
  refine ⟨pm_of X (so_zret d_law_215 rfl), ?_⟩
  refine ⟨pm_of X (so_aloadn d_law_216 rfl rfl), ?_⟩
  refine ⟨pm_of X (so_callv (ci := 0) rfl rfl mc_Lo_sound mi_Lo mj_Lo_sound ms_Lo_sound ml_Law_32 yd_Lo_sound (by decide) d_law_217 rfl), ?_⟩
  refine ⟨pm_of X (so_aloadn d_law_220 rfl rfl), ?_⟩
  refine ⟨pm_of X (so_callv (ci := 8) rfl rfl mc_Mo_sound mi_Mo mj_Mo_sound ms_Mo_sound ml_Law_36 yd_Mo_sound (by decide) d_law_221 rfl), ?_⟩
  refine ⟨pm_of X (so_icmp_eq d_law_224 rfl rfl), ?_⟩
  refine ⟨pm_of X (so_const1 d_law_227 (by decide) rfl), ?_⟩
  refine ⟨pm_of X (so_zret d_law_228 rfl), ?_⟩
  refine ⟨pm_of X (so_aloadn d_law_229 rfl rfl), ?_⟩
  refine ⟨pm_of X (so_aloadn d_law_230 rfl rfl), ?_⟩
  refine ⟨pm_of X (so_iloadn d_law_231 rfl rfl), ?_⟩
  refine ⟨pm_of X (so_const1 d_law_232 (by decide) rfl), ?_⟩
  refine ⟨pm_of X (so_iadd d_law_233 rfl), ?_⟩
  refine ⟨so_sld X hX hbz d_law_234 rfl, ?_⟩
  refine ⟨pm_of X (so_aloadn d_law_235 rfl rfl), ?_⟩
  refine ⟨pm_of X (so_iloadn d_law_236 rfl rfl), ?_⟩
  refine ⟨pm_of X (so_const1 d_law_237 (by decide) rfl), ?_⟩
  refine ⟨pm_of X (so_iadd d_law_238 rfl), ?_⟩
  refine ⟨so_sld X hX hbz d_law_239 rfl, ?_⟩
  refine ⟨pm_of X (so_callv (ci := 0) rfl rfl mc_Lo_start mi_Lo mj_Lo_start ms_Lo_start ml_Law_37 yd_Lo_start (by decide) d_law_240 rfl), ?_⟩
  refine ⟨pm_of X (so_aloadn d_law_243 rfl rfl), ?_⟩
  refine ⟨pm_of X (so_aloadn d_law_244 rfl rfl), ?_⟩
  refine ⟨pm_of X (so_iloadn d_law_245 rfl rfl), ?_⟩
  refine ⟨pm_of X (so_const1 d_law_246 (by decide) rfl), ?_⟩
  refine ⟨pm_of X (so_iadd d_law_247 rfl), ?_⟩
  refine ⟨so_sld X hX hbz d_law_248 rfl, ?_⟩
  refine ⟨pm_of X (so_aloadn d_law_249 rfl rfl), ?_⟩
  refine ⟨pm_of X (so_iloadn d_law_250 rfl rfl), ?_⟩
  refine ⟨pm_of X (so_const1 d_law_251 (by decide) rfl), ?_⟩
  refine ⟨pm_of X (so_iadd d_law_252 rfl), ?_⟩
  refine ⟨so_sld X hX hbz d_law_253 rfl, ?_⟩
  refine ⟨pm_of X (so_callv (ci := 8) rfl rfl mc_Mo_start mi_Mo mj_Mo_start ms_Mo_start ml_Law_40 yd_Mo_start (by decide) d_law_254 rfl), ?_⟩
  refine ⟨pm_of X (so_icmp_eq d_law_257 rfl rfl), ?_⟩
  refine ⟨pm_of X (so_const1 d_law_260 (by decide) rfl), ?_⟩
  refine ⟨pm_of X (so_zret d_law_261 rfl), ?_⟩
  refine ⟨pm_of X (so_aloadn d_law_262 rfl rfl), ?_⟩
  refine ⟨pm_of X (so_aloadn d_law_263 rfl rfl), ?_⟩
  refine ⟨pm_of X (so_iloadn d_law_264 rfl rfl), ?_⟩
  refine ⟨pm_of X (so_const1 d_law_265 (by decide) rfl), ?_⟩
  refine ⟨pm_of X (so_iadd d_law_266 rfl), ?_⟩
  refine ⟨so_sld X hX hbz d_law_267 rfl, ?_⟩
  refine ⟨pm_of X (so_callv (ci := 0) rfl rfl mc_Lo_step mi_Lo mj_Lo_step ms_Lo_step ml_Law_41 yd_Lo_step (by decide) d_law_268 rfl), ?_⟩
  refine ⟨pm_of X (so_aloadn d_law_271 rfl rfl), ?_⟩
  refine ⟨pm_of X (so_aloadn d_law_272 rfl rfl), ?_⟩
  refine ⟨pm_of X (so_iloadn d_law_273 rfl rfl), ?_⟩
  refine ⟨pm_of X (so_const1 d_law_274 (by decide) rfl), ?_⟩
  refine ⟨pm_of X (so_iadd d_law_275 rfl), ?_⟩
  refine ⟨so_sld X hX hbz d_law_276 rfl, ?_⟩
  refine ⟨pm_of X (so_callv (ci := 8) rfl rfl mc_Mo_step mi_Mo mj_Mo_step ms_Mo_step ml_Law_44 yd_Mo_step (by decide) d_law_277 rfl), ?_⟩
  refine ⟨pm_of X (so_icmp_eq d_law_280 rfl rfl), ?_⟩
  refine ⟨pm_of X (so_const1 d_law_283 (by decide) rfl), ?_⟩
  refine ⟨pm_of X (so_zret d_law_284 rfl), ?_⟩
  refine ⟨pm_of X (so_aloadn d_law_285 rfl rfl), ?_⟩
  refine ⟨pm_of X (so_aloadn d_law_286 rfl rfl), ?_⟩
  refine ⟨pm_of X (so_iloadn d_law_287 rfl rfl), ?_⟩
  refine ⟨pm_of X (so_const1 d_law_288 (by decide) rfl), ?_⟩
  refine ⟨pm_of X (so_iadd d_law_289 rfl), ?_⟩
  refine ⟨so_sld X hX hbz d_law_290 rfl, ?_⟩
  refine ⟨pm_of X (so_callv (ci := 0) rfl rfl mc_Lo_has mi_Lo mj_Lo_has ms_Lo_has ml_Law_45 yd_Lo_has (by decide) d_law_291 rfl), ?_⟩
  refine ⟨pm_of X (so_aloadn d_law_294 rfl rfl), ?_⟩
  refine ⟨pm_of X (so_aloadn d_law_295 rfl rfl), ?_⟩
  refine ⟨pm_of X (so_iloadn d_law_296 rfl rfl), ?_⟩
  refine ⟨pm_of X (so_const1 d_law_297 (by decide) rfl), ?_⟩
  refine ⟨pm_of X (so_iadd d_law_298 rfl), ?_⟩
  refine ⟨so_sld X hX hbz d_law_299 rfl, ?_⟩
  refine ⟨pm_of X (so_callv (ci := 8) rfl rfl mc_Mo_has mi_Mo mj_Mo_has ms_Mo_has ml_Law_48 yd_Mo_has (by decide) d_law_300 rfl), ?_⟩
  refine ⟨pm_of X (so_icmp_eq d_law_303 rfl rfl), ?_⟩
  refine ⟨pm_of X (so_const1 d_law_306 (by decide) rfl), ?_⟩
  refine ⟨pm_of X (so_zret d_law_307 rfl), ?_⟩
  refine ⟨pm_of X (so_aloadn d_law_308 rfl rfl), ?_⟩
  refine ⟨pm_of X (so_aloadn d_law_309 rfl rfl), ?_⟩
  refine ⟨pm_of X (so_iloadn d_law_310 rfl rfl), ?_⟩
  refine ⟨pm_of X (so_const1 d_law_311 (by decide) rfl), ?_⟩
  refine ⟨pm_of X (so_iadd d_law_312 rfl), ?_⟩
  refine ⟨so_sld X hX hbz d_law_313 rfl, ?_⟩
  refine ⟨pm_of X (so_callv (ci := 0) rfl rfl mc_Lo_cell mi_Lo mj_Lo_cell ms_Lo_cell ml_Law_49 yd_Lo_cell (by decide) d_law_314 rfl), ?_⟩
  refine ⟨pm_of X (so_aloadn d_law_317 rfl rfl), ?_⟩
  refine ⟨pm_of X (so_aloadn d_law_318 rfl rfl), ?_⟩
  refine ⟨pm_of X (so_iloadn d_law_319 rfl rfl), ?_⟩
  refine ⟨pm_of X (so_const1 d_law_320 (by decide) rfl), ?_⟩
  refine ⟨pm_of X (so_iadd d_law_321 rfl), ?_⟩
  refine ⟨so_sld X hX hbz d_law_322 rfl, ?_⟩
  refine ⟨pm_of X (so_callv (ci := 8) rfl rfl mc_Mo_cell mi_Mo mj_Mo_cell ms_Mo_cell ml_Law_52 yd_Mo_cell (by decide) d_law_323 rfl), ?_⟩
  refine ⟨pm_of X (so_icmp_eq d_law_326 rfl rfl), ?_⟩
  refine ⟨pm_of X (so_const1 d_law_329 (by decide) rfl), ?_⟩
  refine ⟨pm_of X (so_zret d_law_330 rfl), ?_⟩
  refine ⟨pm_of X (so_aloadn d_law_331 rfl rfl), ?_⟩
  refine ⟨pm_of X (so_aloadn d_law_332 rfl rfl), ?_⟩
  refine ⟨pm_of X (so_iloadn d_law_333 rfl rfl), ?_⟩
  refine ⟨pm_of X (so_const1 d_law_334 (by decide) rfl), ?_⟩
  refine ⟨pm_of X (so_iadd d_law_335 rfl), ?_⟩
  refine ⟨so_sld X hX hbz d_law_336 rfl, ?_⟩
  refine ⟨pm_of X (so_callv (ci := 0) rfl rfl mc_Lo_holder mi_Lo mj_Lo_holder ms_Lo_holder ml_Law_53 yd_Lo_holder (by decide) d_law_337 rfl), ?_⟩
  refine ⟨pm_of X (so_aloadn d_law_340 rfl rfl), ?_⟩
  refine ⟨pm_of X (so_aloadn d_law_341 rfl rfl), ?_⟩
  refine ⟨pm_of X (so_iloadn d_law_342 rfl rfl), ?_⟩
  refine ⟨pm_of X (so_const1 d_law_343 (by decide) rfl), ?_⟩
  refine ⟨pm_of X (so_iadd d_law_344 rfl), ?_⟩
  refine ⟨so_sld X hX hbz d_law_345 rfl, ?_⟩
  refine ⟨pm_of X (so_callv (ci := 8) rfl rfl mc_Mo_holder mi_Mo mj_Mo_holder ms_Mo_holder ml_Law_56 yd_Mo_holder (by decide) d_law_346 rfl), ?_⟩
  refine ⟨pm_of X (so_icmp_eq d_law_349 rfl rfl), ?_⟩
  refine ⟨pm_of X (so_const1 d_law_352 (by decide) rfl), ?_⟩
  refine ⟨pm_of X (so_zret d_law_353 rfl), ?_⟩
  refine ⟨pm_of X (so_aloadn d_law_354 rfl rfl), ?_⟩
  refine ⟨pm_of X (so_aloadn d_law_355 rfl rfl), ?_⟩
  refine ⟨pm_of X (so_iloadn d_law_356 rfl rfl), ?_⟩
  refine ⟨pm_of X (so_const1 d_law_357 (by decide) rfl), ?_⟩
  refine ⟨pm_of X (so_iadd d_law_358 rfl), ?_⟩
  refine ⟨so_sld X hX hbz d_law_359 rfl, ?_⟩
  refine ⟨pm_of X (so_callv (ci := 0) rfl rfl mc_Lo_state mi_Lo mj_Lo_state ms_Lo_state ml_Law_57 yd_Lo_state (by decide) d_law_360 rfl), ?_⟩
  refine ⟨pm_of X (so_aloadn d_law_363 rfl rfl), ?_⟩
  refine ⟨pm_of X (so_aloadn d_law_364 rfl rfl), ?_⟩
  refine ⟨pm_of X (so_iloadn d_law_365 rfl rfl), ?_⟩
  refine ⟨pm_of X (so_const1 d_law_366 (by decide) rfl), ?_⟩
  refine ⟨pm_of X (so_iadd d_law_367 rfl), ?_⟩
  refine ⟨so_sld X hX hbz d_law_368 rfl, ?_⟩
  refine ⟨pm_of X (so_callv (ci := 8) rfl rfl mc_Mo_state mi_Mo mj_Mo_state ms_Mo_state ml_Law_60 yd_Mo_state (by decide) d_law_369 rfl), ?_⟩
  refine ⟨pm_of X (so_icmp_eq d_law_372 rfl rfl), ?_⟩
  refine ⟨pm_of X (so_const1 d_law_375 (by decide) rfl), ?_⟩
  refine ⟨pm_of X (so_zret d_law_376 rfl), ?_⟩
  refine ⟨pm_of X (so_aloadn d_law_377 rfl rfl), ?_⟩
  refine ⟨pm_of X (so_aloadn d_law_378 rfl rfl), ?_⟩
  refine ⟨pm_of X (so_iloadn d_law_379 rfl rfl), ?_⟩
  refine ⟨pm_of X (so_const1 d_law_380 (by decide) rfl), ?_⟩
  refine ⟨pm_of X (so_iadd d_law_381 rfl), ?_⟩
  refine ⟨so_sld X hX hbz d_law_382 rfl, ?_⟩
  refine ⟨pm_of X (so_callv (ci := 0) rfl rfl mc_Lo_count mi_Lo mj_Lo_count ms_Lo_count ml_Law_61 yd_Lo_count (by decide) d_law_383 rfl), ?_⟩
  refine ⟨pm_of X (so_aloadn d_law_386 rfl rfl), ?_⟩
  refine ⟨pm_of X (so_aloadn d_law_387 rfl rfl), ?_⟩
  refine ⟨pm_of X (so_iloadn d_law_388 rfl rfl), ?_⟩
  refine ⟨pm_of X (so_const1 d_law_389 (by decide) rfl), ?_⟩
  refine ⟨pm_of X (so_iadd d_law_390 rfl), ?_⟩
  refine ⟨so_sld X hX hbz d_law_391 rfl, ?_⟩
  refine ⟨pm_of X (so_callv (ci := 8) rfl rfl mc_Mo_count mi_Mo mj_Mo_count ms_Mo_count ml_Law_64 yd_Mo_count (by decide) d_law_392 rfl), ?_⟩
  refine ⟨pm_of X (so_icmp_eq d_law_395 rfl rfl), ?_⟩
  refine ⟨pm_of X (so_const1 d_law_398 (by decide) rfl), ?_⟩
  refine ⟨pm_of X (so_zret d_law_399 rfl), ?_⟩
  refine ⟨pm_of X (so_aloadn d_law_400 rfl rfl), ?_⟩
  refine ⟨pm_of X (so_aloadn d_law_401 rfl rfl), ?_⟩
  refine ⟨pm_of X (so_iloadn d_law_402 rfl rfl), ?_⟩
  refine ⟨pm_of X (so_const1 d_law_403 (by decide) rfl), ?_⟩
  refine ⟨pm_of X (so_iadd d_law_404 rfl), ?_⟩
  refine ⟨so_sld X hX hbz d_law_405 rfl, ?_⟩
  refine ⟨pm_of X (so_aloadn d_law_406 rfl rfl), ?_⟩
  refine ⟨pm_of X (so_iloadn d_law_407 rfl rfl), ?_⟩
  refine ⟨pm_of X (so_const1 d_law_408 (by decide) rfl), ?_⟩
  refine ⟨pm_of X (so_iadd d_law_409 rfl), ?_⟩
  refine ⟨so_sld X hX hbz d_law_410 rfl, ?_⟩
  refine ⟨pm_of X (so_callv (ci := 0) rfl rfl mc_Lo_race mi_Lo mj_Lo_race ms_Lo_race ml_Law_65 yd_Lo_race (by decide) d_law_411 rfl), ?_⟩
  refine ⟨pm_of X (so_aloadn d_law_414 rfl rfl), ?_⟩
  refine ⟨pm_of X (so_aloadn d_law_415 rfl rfl), ?_⟩
  refine ⟨pm_of X (so_iloadn d_law_416 rfl rfl), ?_⟩
  refine ⟨pm_of X (so_const1 d_law_417 (by decide) rfl), ?_⟩
  refine ⟨pm_of X (so_iadd d_law_418 rfl), ?_⟩
  refine ⟨so_sld X hX hbz d_law_419 rfl, ?_⟩
  refine ⟨pm_of X (so_aloadn d_law_420 rfl rfl), ?_⟩
  refine ⟨pm_of X (so_iloadn d_law_421 rfl rfl), ?_⟩
  refine ⟨pm_of X (so_const1 d_law_422 (by decide) rfl), ?_⟩
  refine ⟨pm_of X (so_iadd d_law_423 rfl), ?_⟩
  refine ⟨so_sld X hX hbz d_law_424 rfl, ?_⟩
  refine ⟨pm_of X (so_callv (ci := 8) rfl rfl mc_Mo_race mi_Mo mj_Mo_race ms_Mo_race ml_Law_68 yd_Mo_race (by decide) d_law_425 rfl), ?_⟩
  refine ⟨pm_of X (so_icmp_eq d_law_428 rfl rfl), ?_⟩
  refine ⟨pm_of X (so_const1 d_law_431 (by decide) rfl), ?_⟩
  refine ⟨pm_of X (so_zret d_law_432 rfl), ?_⟩
  refine ⟨pm_of X (so_aloadn d_law_433 rfl rfl), ?_⟩
  refine ⟨pm_of X (so_callv (ci := 0) rfl rfl mc_Lo_stuck mi_Lo mj_Lo_stuck ms_Lo_stuck ml_Law_69 yd_Lo_stuck (by decide) d_law_434 rfl), ?_⟩
  refine ⟨pm_of X (so_aloadn d_law_437 rfl rfl), ?_⟩
  refine ⟨pm_of X (so_callv (ci := 8) rfl rfl mc_Mo_stuck mi_Mo mj_Mo_stuck ms_Mo_stuck ml_Law_72 yd_Mo_stuck (by decide) d_law_438 rfl), ?_⟩
  refine ⟨pm_of X (so_icmp_eq d_law_441 rfl rfl), ?_⟩
  refine ⟨pm_of X (so_const1 d_law_444 (by decide) rfl), ?_⟩
  refine ⟨pm_of X (so_zret d_law_445 rfl), ?_⟩
  refine ⟨pm_of X (so_iinc d_law_446 (by decide) (by decide) rfl), ?_⟩
  refine ⟨pm_of X (so_goto d_law_449 rfl), ?_⟩
  refine ⟨pm_of X (so_const1 d_law_452 (by decide) rfl), ?_⟩
  refine ⟨pm_of X (so_zret d_law_453 rfl), ?_⟩
  exact trivial
end LAW
