theorem dX0_init_0 : decode cX0_init 0 = .ok (.aload_n 0, 1) := by decide +kernel
theorem dX0_init_1 : decode cX0_init 1 = .ok (.invokespecial 3, 3) := by decide +kernel
theorem dX0_init_4 : decode cX0_init 4 = .ok (.aload_n 0, 1) := by decide +kernel
theorem dX0_init_5 : decode cX0_init 5 = .ok (.bipush 6, 2) := by decide +kernel
theorem dX0_init_7 : decode cX0_init 7 = .ok (.newarray .int, 2) := by decide +kernel
theorem dX0_init_9 : decode cX0_init 9 = .ok (.putfield 9, 3) := by decide +kernel
theorem dX0_init_12 : decode cX0_init 12 = .ok (.aload_n 0, 1) := by decide +kernel
theorem dX0_init_13 : decode cX0_init 13 = .ok (.bipush 6, 2) := by decide +kernel
theorem dX0_init_15 : decode cX0_init 15 = .ok (.newarray .int, 2) := by decide +kernel
theorem dX0_init_17 : decode cX0_init 17 = .ok (.putfield 15, 3) := by decide +kernel
theorem dX0_init_20 : decode cX0_init 20 = .ok (.return_, 1) := by decide +kernel
theorem dX0_begin_0 : decode cX0_begin 0 = .ok (.aload_n 0, 1) := by decide +kernel
theorem dX0_begin_1 : decode cX0_begin 1 = .ok (.iload_n 1, 1) := by decide +kernel
theorem dX0_begin_2 : decode cX0_begin 2 = .ok (.putfield 18, 3) := by decide +kernel
theorem dX0_begin_5 : decode cX0_begin 5 = .ok (.aload_n 0, 1) := by decide +kernel
theorem dX0_begin_6 : decode cX0_begin 6 = .ok (.iload_n 2, 1) := by decide +kernel
theorem dX0_begin_7 : decode cX0_begin 7 = .ok (.putfield 22, 3) := by decide +kernel
theorem dX0_begin_10 : decode cX0_begin 10 = .ok (.aload_n 0, 1) := by decide +kernel
theorem dX0_begin_11 : decode cX0_begin 11 = .ok (.iconst 0, 1) := by decide +kernel
theorem dX0_begin_12 : decode cX0_begin 12 = .ok (.invokevirtual 25, 3) := by decide +kernel
theorem dX0_begin_15 : decode cX0_begin 15 = .ok (.return_, 1) := by decide +kernel
theorem dX0_next_0 : decode cX0_next 0 = .ok (.aload_n 0, 1) := by decide +kernel
theorem dX0_next_1 : decode cX0_next 1 = .ok (.getfield 18, 3) := by decide +kernel
theorem dX0_next_4 : decode cX0_next 4 = .ok (.iconst 1, 1) := by decide +kernel
theorem dX0_next_5 : decode cX0_next 5 = .ok (.isub, 1) := by decide +kernel
theorem dX0_next_6 : decode cX0_next 6 = .ok (.istore_n 1, 1) := by decide +kernel
theorem dX0_next_7 : decode cX0_next 7 = .ok (.iload_n 1, 1) := by decide +kernel
theorem dX0_next_8 : decode cX0_next 8 = .ok (.ifCond .lt 60, 3) := by decide +kernel
theorem dX0_next_11 : decode cX0_next 11 = .ok (.aload_n 0, 1) := by decide +kernel
theorem dX0_next_12 : decode cX0_next 12 = .ok (.dup, 1) := by decide +kernel
theorem dX0_next_13 : decode cX0_next 13 = .ok (.getfield 22, 3) := by decide +kernel
theorem dX0_next_16 : decode cX0_next 16 = .ok (.iconst 1, 1) := by decide +kernel
theorem dX0_next_17 : decode cX0_next 17 = .ok (.aload_n 0, 1) := by decide +kernel
theorem dX0_next_18 : decode cX0_next 18 = .ok (.getfield 9, 3) := by decide +kernel
theorem dX0_next_21 : decode cX0_next 21 = .ok (.iload_n 1, 1) := by decide +kernel
theorem dX0_next_22 : decode cX0_next 22 = .ok (.iaload, 1) := by decide +kernel
theorem dX0_next_23 : decode cX0_next 23 = .ok (.ishl, 1) := by decide +kernel
theorem dX0_next_24 : decode cX0_next 24 = .ok (.ior, 1) := by decide +kernel
theorem dX0_next_25 : decode cX0_next 25 = .ok (.putfield 22, 3) := by decide +kernel
theorem dX0_next_28 : decode cX0_next 28 = .ok (.aload_n 0, 1) := by decide +kernel
theorem dX0_next_29 : decode cX0_next 29 = .ok (.aload_n 0, 1) := by decide +kernel
theorem dX0_next_30 : decode cX0_next 30 = .ok (.getfield 9, 3) := by decide +kernel
theorem dX0_next_33 : decode cX0_next 33 = .ok (.iload_n 1, 1) := by decide +kernel
theorem dX0_next_34 : decode cX0_next 34 = .ok (.iaload, 1) := by decide +kernel
theorem dX0_next_35 : decode cX0_next 35 = .ok (.iconst 1, 1) := by decide +kernel
theorem dX0_next_36 : decode cX0_next 36 = .ok (.iadd, 1) := by decide +kernel
theorem dX0_next_37 : decode cX0_next 37 = .ok (.invokevirtual 29, 3) := by decide +kernel
theorem dX0_next_40 : decode cX0_next 40 = .ok (.istore_n 2, 1) := by decide +kernel
theorem dX0_next_41 : decode cX0_next 41 = .ok (.iload_n 2, 1) := by decide +kernel
theorem dX0_next_42 : decode cX0_next 42 = .ok (.bipush 6, 2) := by decide +kernel
theorem dX0_next_44 : decode cX0_next 44 = .ok (.if_icmp .ge 18, 3) := by decide +kernel
theorem dX0_next_47 : decode cX0_next 47 = .ok (.aload_n 0, 1) := by decide +kernel
theorem dX0_next_48 : decode cX0_next 48 = .ok (.iload_n 1, 1) := by decide +kernel
theorem dX0_next_49 : decode cX0_next 49 = .ok (.iload_n 2, 1) := by decide +kernel
theorem dX0_next_50 : decode cX0_next 50 = .ok (.invokevirtual 33, 3) := by decide +kernel
theorem dX0_next_53 : decode cX0_next 53 = .ok (.aload_n 0, 1) := by decide +kernel
theorem dX0_next_54 : decode cX0_next 54 = .ok (.iload_n 1, 1) := by decide +kernel
theorem dX0_next_55 : decode cX0_next 55 = .ok (.iconst 1, 1) := by decide +kernel
theorem dX0_next_56 : decode cX0_next 56 = .ok (.iadd, 1) := by decide +kernel
theorem dX0_next_57 : decode cX0_next 57 = .ok (.invokevirtual 25, 3) := by decide +kernel
theorem dX0_next_60 : decode cX0_next 60 = .ok (.iconst 1, 1) := by decide +kernel
theorem dX0_next_61 : decode cX0_next 61 = .ok (.ireturn, 1) := by decide +kernel
theorem dX0_next_62 : decode cX0_next 62 = .ok (.iinc 1 (-1), 3) := by decide +kernel
theorem dX0_next_65 : decode cX0_next 65 = .ok (.goto (-58), 3) := by decide +kernel
theorem dX0_next_68 : decode cX0_next 68 = .ok (.iconst 0, 1) := by decide +kernel
theorem dX0_next_69 : decode cX0_next 69 = .ok (.ireturn, 1) := by decide +kernel
theorem dX0_keep_0 : decode cX0_keep 0 = .ok (.aload_n 0, 1) := by decide +kernel
theorem dX0_keep_1 : decode cX0_keep 1 = .ok (.iload_n 1, 1) := by decide +kernel
theorem dX0_keep_2 : decode cX0_keep 2 = .ok (.putfield 37, 3) := by decide +kernel
theorem dX0_keep_5 : decode cX0_keep 5 = .ok (.aload_n 0, 1) := by decide +kernel
theorem dX0_keep_6 : decode cX0_keep 6 = .ok (.getfield 9, 3) := by decide +kernel
theorem dX0_keep_9 : decode cX0_keep 9 = .ok (.iconst 0, 1) := by decide +kernel
theorem dX0_keep_10 : decode cX0_keep 10 = .ok (.aload_n 0, 1) := by decide +kernel
theorem dX0_keep_11 : decode cX0_keep 11 = .ok (.getfield 15, 3) := by decide +kernel
theorem dX0_keep_14 : decode cX0_keep 14 = .ok (.iconst 0, 1) := by decide +kernel
theorem dX0_keep_15 : decode cX0_keep 15 = .ok (.bipush 6, 2) := by decide +kernel
theorem dX0_keep_17 : decode cX0_keep 17 = .ok (.invokestatic 40, 3) := by decide +kernel
theorem dX0_keep_20 : decode cX0_keep 20 = .ok (.return_, 1) := by decide +kernel
theorem dX0_answer_0 : decode cX0_answer 0 = .ok (.iload_n 1, 1) := by decide +kernel
theorem dX0_answer_1 : decode cX0_answer 1 = .ok (.ifCond .ge 8, 3) := by decide +kernel
theorem dX0_answer_4 : decode cX0_answer 4 = .ok (.aload_n 0, 1) := by decide +kernel
theorem dX0_answer_5 : decode cX0_answer 5 = .ok (.getfield 37, 3) := by decide +kernel
theorem dX0_answer_8 : decode cX0_answer 8 = .ok (.ireturn, 1) := by decide +kernel
theorem dX0_answer_9 : decode cX0_answer 9 = .ok (.iload_n 1, 1) := by decide +kernel
theorem dX0_answer_10 : decode cX0_answer 10 = .ok (.aload_n 0, 1) := by decide +kernel
theorem dX0_answer_11 : decode cX0_answer 11 = .ok (.getfield 18, 3) := by decide +kernel
theorem dX0_answer_14 : decode cX0_answer 14 = .ok (.if_icmp .ge 12, 3) := by decide +kernel
theorem dX0_answer_17 : decode cX0_answer 17 = .ok (.aload_n 0, 1) := by decide +kernel
theorem dX0_answer_18 : decode cX0_answer 18 = .ok (.getfield 15, 3) := by decide +kernel
theorem dX0_answer_21 : decode cX0_answer 21 = .ok (.iload_n 1, 1) := by decide +kernel
theorem dX0_answer_22 : decode cX0_answer 22 = .ok (.iaload, 1) := by decide +kernel
theorem dX0_answer_23 : decode cX0_answer 23 = .ok (.goto 5, 3) := by decide +kernel
theorem dX0_answer_26 : decode cX0_answer 26 = .ok (.bipush (-4), 2) := by decide +kernel
theorem dX0_answer_28 : decode cX0_answer 28 = .ok (.ireturn, 1) := by decide +kernel
theorem dX0_fillFrom_0 : decode cX0_fillFrom 0 = .ok (.iload_n 1, 1) := by decide +kernel
theorem dX0_fillFrom_1 : decode cX0_fillFrom 1 = .ok (.istore_n 2, 1) := by decide +kernel
theorem dX0_fillFrom_2 : decode cX0_fillFrom 2 = .ok (.iload_n 2, 1) := by decide +kernel
theorem dX0_fillFrom_3 : decode cX0_fillFrom 3 = .ok (.aload_n 0, 1) := by decide +kernel
theorem dX0_fillFrom_4 : decode cX0_fillFrom 4 = .ok (.getfield 18, 3) := by decide +kernel
theorem dX0_fillFrom_7 : decode cX0_fillFrom 7 = .ok (.if_icmp .ge 27, 3) := by decide +kernel
theorem dX0_fillFrom_10 : decode cX0_fillFrom 10 = .ok (.aload_n 0, 1) := by decide +kernel
theorem dX0_fillFrom_11 : decode cX0_fillFrom 11 = .ok (.iconst 0, 1) := by decide +kernel
theorem dX0_fillFrom_12 : decode cX0_fillFrom 12 = .ok (.invokevirtual 29, 3) := by decide +kernel
theorem dX0_fillFrom_15 : decode cX0_fillFrom 15 = .ok (.istore_n 3, 1) := by decide +kernel
theorem dX0_fillFrom_16 : decode cX0_fillFrom 16 = .ok (.iload_n 3, 1) := by decide +kernel
theorem dX0_fillFrom_17 : decode cX0_fillFrom 17 = .ok (.bipush 6, 2) := by decide +kernel
theorem dX0_fillFrom_19 : decode cX0_fillFrom 19 = .ok (.if_icmp .ge 9, 3) := by decide +kernel
theorem dX0_fillFrom_22 : decode cX0_fillFrom 22 = .ok (.aload_n 0, 1) := by decide +kernel
theorem dX0_fillFrom_23 : decode cX0_fillFrom 23 = .ok (.iload_n 2, 1) := by decide +kernel
theorem dX0_fillFrom_24 : decode cX0_fillFrom 24 = .ok (.iload_n 3, 1) := by decide +kernel
theorem dX0_fillFrom_25 : decode cX0_fillFrom 25 = .ok (.invokevirtual 33, 3) := by decide +kernel
theorem dX0_fillFrom_28 : decode cX0_fillFrom 28 = .ok (.iinc 2 1, 3) := by decide +kernel
theorem dX0_fillFrom_31 : decode cX0_fillFrom 31 = .ok (.goto (-29), 3) := by decide +kernel
theorem dX0_fillFrom_34 : decode cX0_fillFrom 34 = .ok (.return_, 1) := by decide +kernel
theorem dX0_give_0 : decode cX0_give 0 = .ok (.aload_n 0, 1) := by decide +kernel
theorem dX0_give_1 : decode cX0_give 1 = .ok (.getfield 9, 3) := by decide +kernel
theorem dX0_give_4 : decode cX0_give 4 = .ok (.iload_n 1, 1) := by decide +kernel
theorem dX0_give_5 : decode cX0_give 5 = .ok (.iload_n 2, 1) := by decide +kernel
theorem dX0_give_6 : decode cX0_give 6 = .ok (.iastore, 1) := by decide +kernel
theorem dX0_give_7 : decode cX0_give 7 = .ok (.aload_n 0, 1) := by decide +kernel
theorem dX0_give_8 : decode cX0_give 8 = .ok (.dup, 1) := by decide +kernel
theorem dX0_give_9 : decode cX0_give 9 = .ok (.getfield 22, 3) := by decide +kernel
theorem dX0_give_12 : decode cX0_give 12 = .ok (.iconst 1, 1) := by decide +kernel
theorem dX0_give_13 : decode cX0_give 13 = .ok (.iload_n 2, 1) := by decide +kernel
theorem dX0_give_14 : decode cX0_give 14 = .ok (.ishl, 1) := by decide +kernel
theorem dX0_give_15 : decode cX0_give 15 = .ok (.iconst (-1), 1) := by decide +kernel
theorem dX0_give_16 : decode cX0_give 16 = .ok (.ixor, 1) := by decide +kernel
theorem dX0_give_17 : decode cX0_give 17 = .ok (.iand, 1) := by decide +kernel
theorem dX0_give_18 : decode cX0_give 18 = .ok (.putfield 22, 3) := by decide +kernel
theorem dX0_give_21 : decode cX0_give 21 = .ok (.return_, 1) := by decide +kernel
theorem dX0_freeFrom_0 : decode cX0_freeFrom 0 = .ok (.iload_n 1, 1) := by decide +kernel
theorem dX0_freeFrom_1 : decode cX0_freeFrom 1 = .ok (.bipush 6, 2) := by decide +kernel
theorem dX0_freeFrom_3 : decode cX0_freeFrom 3 = .ok (.if_icmp .ge 20, 3) := by decide +kernel
theorem dX0_freeFrom_6 : decode cX0_freeFrom 6 = .ok (.aload_n 0, 1) := by decide +kernel
theorem dX0_freeFrom_7 : decode cX0_freeFrom 7 = .ok (.getfield 22, 3) := by decide +kernel
theorem dX0_freeFrom_10 : decode cX0_freeFrom 10 = .ok (.iload_n 1, 1) := by decide +kernel
theorem dX0_freeFrom_11 : decode cX0_freeFrom 11 = .ok (.ishr, 1) := by decide +kernel
theorem dX0_freeFrom_12 : decode cX0_freeFrom 12 = .ok (.iconst 1, 1) := by decide +kernel
theorem dX0_freeFrom_13 : decode cX0_freeFrom 13 = .ok (.iand, 1) := by decide +kernel
theorem dX0_freeFrom_14 : decode cX0_freeFrom 14 = .ok (.ifCond .ne 9, 3) := by decide +kernel
theorem dX0_freeFrom_17 : decode cX0_freeFrom 17 = .ok (.iinc 1 1, 3) := by decide +kernel
theorem dX0_freeFrom_20 : decode cX0_freeFrom 20 = .ok (.goto (-20), 3) := by decide +kernel
theorem dX0_freeFrom_23 : decode cX0_freeFrom 23 = .ok (.iload_n 1, 1) := by decide +kernel
theorem dX0_freeFrom_24 : decode cX0_freeFrom 24 = .ok (.ireturn, 1) := by decide +kernel
theorem dX1_init_0 : decode cX1_init 0 = .ok (.aload_n 0, 1) := by decide +kernel
theorem dX1_init_1 : decode cX1_init 1 = .ok (.invokespecial 3, 3) := by decide +kernel
theorem dX1_init_4 : decode cX1_init 4 = .ok (.aload_n 0, 1) := by decide +kernel
theorem dX1_init_5 : decode cX1_init 5 = .ok (.bipush 6, 2) := by decide +kernel
theorem dX1_init_7 : decode cX1_init 7 = .ok (.newarray .int, 2) := by decide +kernel
theorem dX1_init_9 : decode cX1_init 9 = .ok (.putfield 9, 3) := by decide +kernel
theorem dX1_init_12 : decode cX1_init 12 = .ok (.aload_n 0, 1) := by decide +kernel
theorem dX1_init_13 : decode cX1_init 13 = .ok (.bipush 6, 2) := by decide +kernel
theorem dX1_init_15 : decode cX1_init 15 = .ok (.newarray .int, 2) := by decide +kernel
theorem dX1_init_17 : decode cX1_init 17 = .ok (.putfield 15, 3) := by decide +kernel
theorem dX1_init_20 : decode cX1_init 20 = .ok (.return_, 1) := by decide +kernel
theorem dX1_note_0 : decode cX1_note 0 = .ok (.aload_n 1, 1) := by decide +kernel
theorem dX1_note_1 : decode cX1_note 1 = .ok (.getfield 18, 3) := by decide +kernel
theorem dX1_note_4 : decode cX1_note 4 = .ok (.iconst 0, 1) := by decide +kernel
theorem dX1_note_5 : decode cX1_note 5 = .ok (.aload_n 0, 1) := by decide +kernel
theorem dX1_note_6 : decode cX1_note 6 = .ok (.getfield 9, 3) := by decide +kernel
theorem dX1_note_9 : decode cX1_note 9 = .ok (.iconst 0, 1) := by decide +kernel
theorem dX1_note_10 : decode cX1_note 10 = .ok (.bipush 6, 2) := by decide +kernel
theorem dX1_note_12 : decode cX1_note 12 = .ok (.invokestatic 21, 3) := by decide +kernel
theorem dX1_note_15 : decode cX1_note 15 = .ok (.aload_n 1, 1) := by decide +kernel
theorem dX1_note_16 : decode cX1_note 16 = .ok (.getfield 27, 3) := by decide +kernel
theorem dX1_note_19 : decode cX1_note 19 = .ok (.iconst 0, 1) := by decide +kernel
theorem dX1_note_20 : decode cX1_note 20 = .ok (.aload_n 0, 1) := by decide +kernel
theorem dX1_note_21 : decode cX1_note 21 = .ok (.getfield 15, 3) := by decide +kernel
theorem dX1_note_24 : decode cX1_note 24 = .ok (.iconst 0, 1) := by decide +kernel
theorem dX1_note_25 : decode cX1_note 25 = .ok (.bipush 6, 2) := by decide +kernel
theorem dX1_note_27 : decode cX1_note 27 = .ok (.invokestatic 21, 3) := by decide +kernel
theorem dX1_note_30 : decode cX1_note 30 = .ok (.aload_n 0, 1) := by decide +kernel
theorem dX1_note_31 : decode cX1_note 31 = .ok (.aload_n 1, 1) := by decide +kernel
theorem dX1_note_32 : decode cX1_note 32 = .ok (.getfield 28, 3) := by decide +kernel
theorem dX1_note_35 : decode cX1_note 35 = .ok (.putfield 32, 3) := by decide +kernel
theorem dX1_note_38 : decode cX1_note 38 = .ok (.aload_n 0, 1) := by decide +kernel
theorem dX1_note_39 : decode cX1_note 39 = .ok (.aload_n 1, 1) := by decide +kernel
theorem dX1_note_40 : decode cX1_note 40 = .ok (.getfield 33, 3) := by decide +kernel
theorem dX1_note_43 : decode cX1_note 43 = .ok (.putfield 36, 3) := by decide +kernel
theorem dX1_note_46 : decode cX1_note 46 = .ok (.aload_n 0, 1) := by decide +kernel
theorem dX1_note_47 : decode cX1_note 47 = .ok (.aload_n 1, 1) := by decide +kernel
theorem dX1_note_48 : decode cX1_note 48 = .ok (.getfield 37, 3) := by decide +kernel
theorem dX1_note_51 : decode cX1_note 51 = .ok (.putfield 40, 3) := by decide +kernel
theorem dX1_note_54 : decode cX1_note 54 = .ok (.return_, 1) := by decide +kernel
theorem dX1_give_0 : decode cX1_give 0 = .ok (.aload_n 0, 1) := by decide +kernel
theorem dX1_give_1 : decode cX1_give 1 = .ok (.getfield 9, 3) := by decide +kernel
theorem dX1_give_4 : decode cX1_give 4 = .ok (.iconst 0, 1) := by decide +kernel
theorem dX1_give_5 : decode cX1_give 5 = .ok (.aload_n 1, 1) := by decide +kernel
theorem dX1_give_6 : decode cX1_give 6 = .ok (.getfield 18, 3) := by decide +kernel
theorem dX1_give_9 : decode cX1_give 9 = .ok (.iconst 0, 1) := by decide +kernel
theorem dX1_give_10 : decode cX1_give 10 = .ok (.bipush 6, 2) := by decide +kernel
theorem dX1_give_12 : decode cX1_give 12 = .ok (.invokestatic 21, 3) := by decide +kernel
theorem dX1_give_15 : decode cX1_give 15 = .ok (.aload_n 1, 1) := by decide +kernel
theorem dX1_give_16 : decode cX1_give 16 = .ok (.aload_n 0, 1) := by decide +kernel
theorem dX1_give_17 : decode cX1_give 17 = .ok (.getfield 15, 3) := by decide +kernel
theorem dX1_give_20 : decode cX1_give 20 = .ok (.invokevirtual 41, 3) := by decide +kernel
theorem dX1_give_23 : decode cX1_give 23 = .ok (.aload_n 1, 1) := by decide +kernel
theorem dX1_give_24 : decode cX1_give 24 = .ok (.aload_n 0, 1) := by decide +kernel
theorem dX1_give_25 : decode cX1_give 25 = .ok (.getfield 32, 3) := by decide +kernel
theorem dX1_give_28 : decode cX1_give 28 = .ok (.putfield 28, 3) := by decide +kernel
theorem dX1_give_31 : decode cX1_give 31 = .ok (.aload_n 1, 1) := by decide +kernel
theorem dX1_give_32 : decode cX1_give 32 = .ok (.aload_n 0, 1) := by decide +kernel
theorem dX1_give_33 : decode cX1_give 33 = .ok (.getfield 36, 3) := by decide +kernel
theorem dX1_give_36 : decode cX1_give 36 = .ok (.putfield 33, 3) := by decide +kernel
theorem dX1_give_39 : decode cX1_give 39 = .ok (.aload_n 1, 1) := by decide +kernel
theorem dX1_give_40 : decode cX1_give 40 = .ok (.aload_n 0, 1) := by decide +kernel
theorem dX1_give_41 : decode cX1_give 41 = .ok (.getfield 40, 3) := by decide +kernel
theorem dX1_give_44 : decode cX1_give 44 = .ok (.putfield 37, 3) := by decide +kernel
theorem dX1_give_47 : decode cX1_give 47 = .ok (.return_, 1) := by decide +kernel
theorem dX1_become_0 : decode cX1_become 0 = .ok (.aload_n 1, 1) := by decide +kernel
theorem dX1_become_1 : decode cX1_become 1 = .ok (.getfield 9, 3) := by decide +kernel
theorem dX1_become_4 : decode cX1_become 4 = .ok (.iconst 0, 1) := by decide +kernel
theorem dX1_become_5 : decode cX1_become 5 = .ok (.aload_n 0, 1) := by decide +kernel
theorem dX1_become_6 : decode cX1_become 6 = .ok (.getfield 9, 3) := by decide +kernel
theorem dX1_become_9 : decode cX1_become 9 = .ok (.iconst 0, 1) := by decide +kernel
theorem dX1_become_10 : decode cX1_become 10 = .ok (.bipush 6, 2) := by decide +kernel
theorem dX1_become_12 : decode cX1_become 12 = .ok (.invokestatic 21, 3) := by decide +kernel
theorem dX1_become_15 : decode cX1_become 15 = .ok (.aload_n 1, 1) := by decide +kernel
theorem dX1_become_16 : decode cX1_become 16 = .ok (.getfield 15, 3) := by decide +kernel
theorem dX1_become_19 : decode cX1_become 19 = .ok (.iconst 0, 1) := by decide +kernel
theorem dX1_become_20 : decode cX1_become 20 = .ok (.aload_n 0, 1) := by decide +kernel
theorem dX1_become_21 : decode cX1_become 21 = .ok (.getfield 15, 3) := by decide +kernel
theorem dX1_become_24 : decode cX1_become 24 = .ok (.iconst 0, 1) := by decide +kernel
theorem dX1_become_25 : decode cX1_become 25 = .ok (.bipush 6, 2) := by decide +kernel
theorem dX1_become_27 : decode cX1_become 27 = .ok (.invokestatic 21, 3) := by decide +kernel
theorem dX1_become_30 : decode cX1_become 30 = .ok (.aload_n 0, 1) := by decide +kernel
theorem dX1_become_31 : decode cX1_become 31 = .ok (.aload_n 1, 1) := by decide +kernel
theorem dX1_become_32 : decode cX1_become 32 = .ok (.getfield 32, 3) := by decide +kernel
theorem dX1_become_35 : decode cX1_become 35 = .ok (.putfield 32, 3) := by decide +kernel
theorem dX1_become_38 : decode cX1_become 38 = .ok (.aload_n 0, 1) := by decide +kernel
theorem dX1_become_39 : decode cX1_become 39 = .ok (.aload_n 1, 1) := by decide +kernel
theorem dX1_become_40 : decode cX1_become 40 = .ok (.getfield 36, 3) := by decide +kernel
theorem dX1_become_43 : decode cX1_become 43 = .ok (.putfield 36, 3) := by decide +kernel
theorem dX1_become_46 : decode cX1_become 46 = .ok (.aload_n 0, 1) := by decide +kernel
theorem dX1_become_47 : decode cX1_become 47 = .ok (.aload_n 1, 1) := by decide +kernel
theorem dX1_become_48 : decode cX1_become 48 = .ok (.getfield 40, 3) := by decide +kernel
theorem dX1_become_51 : decode cX1_become 51 = .ok (.putfield 40, 3) := by decide +kernel
theorem dX1_become_54 : decode cX1_become 54 = .ok (.return_, 1) := by decide +kernel
theorem dX2_init_0 : decode cX2_init 0 = .ok (.aload_n 0, 1) := by decide +kernel
theorem dX2_init_1 : decode cX2_init 1 = .ok (.invokespecial 3, 3) := by decide +kernel
theorem dX2_init_4 : decode cX2_init 4 = .ok (.aload_n 0, 1) := by decide +kernel
theorem dX2_init_5 : decode cX2_init 5 = .ok (.bipush 8, 2) := by decide +kernel
theorem dX2_init_7 : decode cX2_init 7 = .ok (.anewarray 9, 3) := by decide +kernel
theorem dX2_init_10 : decode cX2_init 10 = .ok (.putfield 11, 3) := by decide +kernel
theorem dX2_init_13 : decode cX2_init 13 = .ok (.iconst 0, 1) := by decide +kernel
theorem dX2_init_14 : decode cX2_init 14 = .ok (.istore_n 1, 1) := by decide +kernel
theorem dX2_init_15 : decode cX2_init 15 = .ok (.iload_n 1, 1) := by decide +kernel
theorem dX2_init_16 : decode cX2_init 16 = .ok (.bipush 8, 2) := by decide +kernel
theorem dX2_init_18 : decode cX2_init 18 = .ok (.if_icmp .ge 22, 3) := by decide +kernel
theorem dX2_init_21 : decode cX2_init 21 = .ok (.aload_n 0, 1) := by decide +kernel
theorem dX2_init_22 : decode cX2_init 22 = .ok (.getfield 11, 3) := by decide +kernel
theorem dX2_init_25 : decode cX2_init 25 = .ok (.iload_n 1, 1) := by decide +kernel
theorem dX2_init_26 : decode cX2_init 26 = .ok (.new 9, 3) := by decide +kernel
theorem dX2_init_29 : decode cX2_init 29 = .ok (.dup, 1) := by decide +kernel
theorem dX2_init_30 : decode cX2_init 30 = .ok (.invokespecial 17, 3) := by decide +kernel
theorem dX2_init_33 : decode cX2_init 33 = .ok (.aastore, 1) := by decide +kernel
theorem dX2_init_34 : decode cX2_init 34 = .ok (.iinc 1 1, 3) := by decide +kernel
theorem dX2_init_37 : decode cX2_init 37 = .ok (.goto (-22), 3) := by decide +kernel
theorem dX2_init_40 : decode cX2_init 40 = .ok (.return_, 1) := by decide +kernel
theorem dX2_keep_0 : decode cX2_keep 0 = .ok (.aload_n 0, 1) := by decide +kernel
theorem dX2_keep_1 : decode cX2_keep 1 = .ok (.getfield 11, 3) := by decide +kernel
theorem dX2_keep_4 : decode cX2_keep 4 = .ok (.aload_n 0, 1) := by decide +kernel
theorem dX2_keep_5 : decode cX2_keep 5 = .ok (.getfield 18, 3) := by decide +kernel
theorem dX2_keep_8 : decode cX2_keep 8 = .ok (.aaload, 1) := by decide +kernel
theorem dX2_keep_9 : decode cX2_keep 9 = .ok (.aload_n 1, 1) := by decide +kernel
theorem dX2_keep_10 : decode cX2_keep 10 = .ok (.invokevirtual 22, 3) := by decide +kernel
theorem dX2_keep_13 : decode cX2_keep 13 = .ok (.aload_n 0, 1) := by decide +kernel
theorem dX2_keep_14 : decode cX2_keep 14 = .ok (.aload_n 0, 1) := by decide +kernel
theorem dX2_keep_15 : decode cX2_keep 15 = .ok (.getfield 18, 3) := by decide +kernel
theorem dX2_keep_18 : decode cX2_keep 18 = .ok (.iconst 1, 1) := by decide +kernel
theorem dX2_keep_19 : decode cX2_keep 19 = .ok (.iadd, 1) := by decide +kernel
theorem dX2_keep_20 : decode cX2_keep 20 = .ok (.bipush 8, 2) := by decide +kernel
theorem dX2_keep_22 : decode cX2_keep 22 = .ok (.irem, 1) := by decide +kernel
theorem dX2_keep_23 : decode cX2_keep 23 = .ok (.putfield 18, 3) := by decide +kernel
theorem dX2_keep_26 : decode cX2_keep 26 = .ok (.aload_n 0, 1) := by decide +kernel
theorem dX2_keep_27 : decode cX2_keep 27 = .ok (.bipush 8, 2) := by decide +kernel
theorem dX2_keep_29 : decode cX2_keep 29 = .ok (.aload_n 0, 1) := by decide +kernel
theorem dX2_keep_30 : decode cX2_keep 30 = .ok (.getfield 26, 3) := by decide +kernel
theorem dX2_keep_33 : decode cX2_keep 33 = .ok (.iconst 1, 1) := by decide +kernel
theorem dX2_keep_34 : decode cX2_keep 34 = .ok (.iadd, 1) := by decide +kernel
theorem dX2_keep_35 : decode cX2_keep 35 = .ok (.invokestatic 29, 3) := by decide +kernel
theorem dX2_keep_38 : decode cX2_keep 38 = .ok (.putfield 26, 3) := by decide +kernel
theorem dX2_keep_41 : decode cX2_keep 41 = .ok (.return_, 1) := by decide +kernel
theorem dX2_giveLatest_0 : decode cX2_giveLatest 0 = .ok (.aload_n 0, 1) := by decide +kernel
theorem dX2_giveLatest_1 : decode cX2_giveLatest 1 = .ok (.getfield 26, 3) := by decide +kernel
theorem dX2_giveLatest_4 : decode cX2_giveLatest 4 = .ok (.ifCond .le 42, 3) := by decide +kernel
theorem dX2_giveLatest_7 : decode cX2_giveLatest 7 = .ok (.aload_n 0, 1) := by decide +kernel
theorem dX2_giveLatest_8 : decode cX2_giveLatest 8 = .ok (.aload_n 0, 1) := by decide +kernel
theorem dX2_giveLatest_9 : decode cX2_giveLatest 9 = .ok (.getfield 18, 3) := by decide +kernel
theorem dX2_giveLatest_12 : decode cX2_giveLatest 12 = .ok (.bipush 8, 2) := by decide +kernel
theorem dX2_giveLatest_14 : decode cX2_giveLatest 14 = .ok (.iadd, 1) := by decide +kernel
theorem dX2_giveLatest_15 : decode cX2_giveLatest 15 = .ok (.iconst 1, 1) := by decide +kernel
theorem dX2_giveLatest_16 : decode cX2_giveLatest 16 = .ok (.isub, 1) := by decide +kernel
theorem dX2_giveLatest_17 : decode cX2_giveLatest 17 = .ok (.bipush 8, 2) := by decide +kernel
theorem dX2_giveLatest_19 : decode cX2_giveLatest 19 = .ok (.irem, 1) := by decide +kernel
theorem dX2_giveLatest_20 : decode cX2_giveLatest 20 = .ok (.putfield 18, 3) := by decide +kernel
theorem dX2_giveLatest_23 : decode cX2_giveLatest 23 = .ok (.aload_n 0, 1) := by decide +kernel
theorem dX2_giveLatest_24 : decode cX2_giveLatest 24 = .ok (.dup, 1) := by decide +kernel
theorem dX2_giveLatest_25 : decode cX2_giveLatest 25 = .ok (.getfield 26, 3) := by decide +kernel
theorem dX2_giveLatest_28 : decode cX2_giveLatest 28 = .ok (.iconst 1, 1) := by decide +kernel
theorem dX2_giveLatest_29 : decode cX2_giveLatest 29 = .ok (.isub, 1) := by decide +kernel
theorem dX2_giveLatest_30 : decode cX2_giveLatest 30 = .ok (.putfield 26, 3) := by decide +kernel
theorem dX2_giveLatest_33 : decode cX2_giveLatest 33 = .ok (.aload_n 0, 1) := by decide +kernel
theorem dX2_giveLatest_34 : decode cX2_giveLatest 34 = .ok (.getfield 11, 3) := by decide +kernel
theorem dX2_giveLatest_37 : decode cX2_giveLatest 37 = .ok (.aload_n 0, 1) := by decide +kernel
theorem dX2_giveLatest_38 : decode cX2_giveLatest 38 = .ok (.getfield 18, 3) := by decide +kernel
theorem dX2_giveLatest_41 : decode cX2_giveLatest 41 = .ok (.aaload, 1) := by decide +kernel
theorem dX2_giveLatest_42 : decode cX2_giveLatest 42 = .ok (.aload_n 1, 1) := by decide +kernel
theorem dX2_giveLatest_43 : decode cX2_giveLatest 43 = .ok (.invokevirtual 35, 3) := by decide +kernel
theorem dX2_giveLatest_46 : decode cX2_giveLatest 46 = .ok (.return_, 1) := by decide +kernel
theorem dX2_forget_0 : decode cX2_forget 0 = .ok (.aload_n 0, 1) := by decide +kernel
theorem dX2_forget_1 : decode cX2_forget 1 = .ok (.iconst 0, 1) := by decide +kernel
theorem dX2_forget_2 : decode cX2_forget 2 = .ok (.putfield 26, 3) := by decide +kernel
theorem dX2_forget_5 : decode cX2_forget 5 = .ok (.return_, 1) := by decide +kernel
theorem dX2_become_0 : decode cX2_become 0 = .ok (.iconst 0, 1) := by decide +kernel
theorem dX2_become_1 : decode cX2_become 1 = .ok (.istore_n 2, 1) := by decide +kernel
theorem dX2_become_2 : decode cX2_become 2 = .ok (.iload_n 2, 1) := by decide +kernel
theorem dX2_become_3 : decode cX2_become 3 = .ok (.bipush 8, 2) := by decide +kernel
theorem dX2_become_5 : decode cX2_become 5 = .ok (.if_icmp .ge 24, 3) := by decide +kernel
theorem dX2_become_8 : decode cX2_become 8 = .ok (.aload_n 0, 1) := by decide +kernel
theorem dX2_become_9 : decode cX2_become 9 = .ok (.getfield 11, 3) := by decide +kernel
theorem dX2_become_12 : decode cX2_become 12 = .ok (.iload_n 2, 1) := by decide +kernel
theorem dX2_become_13 : decode cX2_become 13 = .ok (.aaload, 1) := by decide +kernel
theorem dX2_become_14 : decode cX2_become 14 = .ok (.aload_n 1, 1) := by decide +kernel
theorem dX2_become_15 : decode cX2_become 15 = .ok (.getfield 11, 3) := by decide +kernel
theorem dX2_become_18 : decode cX2_become 18 = .ok (.iload_n 2, 1) := by decide +kernel
theorem dX2_become_19 : decode cX2_become 19 = .ok (.aaload, 1) := by decide +kernel
theorem dX2_become_20 : decode cX2_become 20 = .ok (.invokevirtual 38, 3) := by decide +kernel
theorem dX2_become_23 : decode cX2_become 23 = .ok (.iinc 2 1, 3) := by decide +kernel
theorem dX2_become_26 : decode cX2_become 26 = .ok (.goto (-24), 3) := by decide +kernel
theorem dX2_become_29 : decode cX2_become 29 = .ok (.aload_n 0, 1) := by decide +kernel
theorem dX2_become_30 : decode cX2_become 30 = .ok (.aload_n 1, 1) := by decide +kernel
theorem dX2_become_31 : decode cX2_become 31 = .ok (.getfield 18, 3) := by decide +kernel
theorem dX2_become_34 : decode cX2_become 34 = .ok (.putfield 18, 3) := by decide +kernel
theorem dX2_become_37 : decode cX2_become 37 = .ok (.aload_n 0, 1) := by decide +kernel
theorem dX2_become_38 : decode cX2_become 38 = .ok (.aload_n 1, 1) := by decide +kernel
theorem dX2_become_39 : decode cX2_become 39 = .ok (.getfield 26, 3) := by decide +kernel
theorem dX2_become_42 : decode cX2_become 42 = .ok (.putfield 26, 3) := by decide +kernel
theorem dX2_become_45 : decode cX2_become 45 = .ok (.return_, 1) := by decide +kernel
theorem dX3_init_0 : decode cX3_init 0 = .ok (.aload_n 0, 1) := by decide +kernel
theorem dX3_init_1 : decode cX3_init 1 = .ok (.invokespecial 3, 3) := by decide +kernel
theorem dX3_init_4 : decode cX3_init 4 = .ok (.aload_n 0, 1) := by decide +kernel
theorem dX3_init_5 : decode cX3_init 5 = .ok (.bipush 6, 2) := by decide +kernel
theorem dX3_init_7 : decode cX3_init 7 = .ok (.newarray .int, 2) := by decide +kernel
theorem dX3_init_9 : decode cX3_init 9 = .ok (.putfield 9, 3) := by decide +kernel
theorem dX3_init_12 : decode cX3_init 12 = .ok (.aload_n 0, 1) := by decide +kernel
theorem dX3_init_13 : decode cX3_init 13 = .ok (.bipush 6, 2) := by decide +kernel
theorem dX3_init_15 : decode cX3_init 15 = .ok (.newarray .int, 2) := by decide +kernel
theorem dX3_init_17 : decode cX3_init 17 = .ok (.putfield 15, 3) := by decide +kernel
theorem dX3_init_20 : decode cX3_init 20 = .ok (.aload_n 0, 1) := by decide +kernel
theorem dX3_init_21 : decode cX3_init 21 = .ok (.bipush 6, 2) := by decide +kernel
theorem dX3_init_23 : decode cX3_init 23 = .ok (.newarray .int, 2) := by decide +kernel
theorem dX3_init_25 : decode cX3_init 25 = .ok (.putfield 18, 3) := by decide +kernel
theorem dX3_init_28 : decode cX3_init 28 = .ok (.aload_n 0, 1) := by decide +kernel
theorem dX3_init_29 : decode cX3_init 29 = .ok (.bipush 6, 2) := by decide +kernel
theorem dX3_init_31 : decode cX3_init 31 = .ok (.newarray .int, 2) := by decide +kernel
theorem dX3_init_33 : decode cX3_init 33 = .ok (.putfield 21, 3) := by decide +kernel
theorem dX3_init_36 : decode cX3_init 36 = .ok (.aload_n 0, 1) := by decide +kernel
theorem dX3_init_37 : decode cX3_init 37 = .ok (.bipush 6, 2) := by decide +kernel
theorem dX3_init_39 : decode cX3_init 39 = .ok (.newarray .int, 2) := by decide +kernel
theorem dX3_init_41 : decode cX3_init 41 = .ok (.putfield 24, 3) := by decide +kernel
theorem dX3_init_44 : decode cX3_init 44 = .ok (.aload_n 0, 1) := by decide +kernel
theorem dX3_init_45 : decode cX3_init 45 = .ok (.bipush 6, 2) := by decide +kernel
theorem dX3_init_47 : decode cX3_init 47 = .ok (.newarray .int, 2) := by decide +kernel
theorem dX3_init_49 : decode cX3_init 49 = .ok (.putfield 27, 3) := by decide +kernel
theorem dX3_init_52 : decode cX3_init 52 = .ok (.aload_n 0, 1) := by decide +kernel
theorem dX3_init_53 : decode cX3_init 53 = .ok (.bipush 6, 2) := by decide +kernel
theorem dX3_init_55 : decode cX3_init 55 = .ok (.newarray .int, 2) := by decide +kernel
theorem dX3_init_57 : decode cX3_init 57 = .ok (.putfield 30, 3) := by decide +kernel
theorem dX3_init_60 : decode cX3_init 60 = .ok (.aload_n 0, 1) := by decide +kernel
theorem dX3_init_61 : decode cX3_init 61 = .ok (.bipush 6, 2) := by decide +kernel
theorem dX3_init_63 : decode cX3_init 63 = .ok (.newarray .int, 2) := by decide +kernel
theorem dX3_init_65 : decode cX3_init 65 = .ok (.putfield 33, 3) := by decide +kernel
theorem dX3_init_68 : decode cX3_init 68 = .ok (.aload_n 0, 1) := by decide +kernel
theorem dX3_init_69 : decode cX3_init 69 = .ok (.iconst 1, 1) := by decide +kernel
theorem dX3_init_70 : decode cX3_init 70 = .ok (.putfield 36, 3) := by decide +kernel
theorem dX3_init_73 : decode cX3_init 73 = .ok (.iconst 0, 1) := by decide +kernel
theorem dX3_init_74 : decode cX3_init 74 = .ok (.istore_n 1, 1) := by decide +kernel
theorem dX3_init_75 : decode cX3_init 75 = .ok (.iload_n 1, 1) := by decide +kernel
theorem dX3_init_76 : decode cX3_init 76 = .ok (.bipush 6, 2) := by decide +kernel
theorem dX3_init_78 : decode cX3_init 78 = .ok (.if_icmp .ge 31, 3) := by decide +kernel
theorem dX3_init_81 : decode cX3_init 81 = .ok (.aload_n 0, 1) := by decide +kernel
theorem dX3_init_82 : decode cX3_init 82 = .ok (.getfield 24, 3) := by decide +kernel
theorem dX3_init_85 : decode cX3_init 85 = .ok (.iload_n 1, 1) := by decide +kernel
theorem dX3_init_86 : decode cX3_init 86 = .ok (.iconst (-1), 1) := by decide +kernel
theorem dX3_init_87 : decode cX3_init 87 = .ok (.iastore, 1) := by decide +kernel
theorem dX3_init_88 : decode cX3_init 88 = .ok (.aload_n 0, 1) := by decide +kernel
theorem dX3_init_89 : decode cX3_init 89 = .ok (.getfield 27, 3) := by decide +kernel
theorem dX3_init_92 : decode cX3_init 92 = .ok (.iload_n 1, 1) := by decide +kernel
theorem dX3_init_93 : decode cX3_init 93 = .ok (.iconst 3, 1) := by decide +kernel
theorem dX3_init_94 : decode cX3_init 94 = .ok (.iastore, 1) := by decide +kernel
theorem dX3_init_95 : decode cX3_init 95 = .ok (.aload_n 0, 1) := by decide +kernel
theorem dX3_init_96 : decode cX3_init 96 = .ok (.getfield 30, 3) := by decide +kernel
theorem dX3_init_99 : decode cX3_init 99 = .ok (.iload_n 1, 1) := by decide +kernel
theorem dX3_init_100 : decode cX3_init 100 = .ok (.bipush 20, 2) := by decide +kernel
theorem dX3_init_102 : decode cX3_init 102 = .ok (.iastore, 1) := by decide +kernel
theorem dX3_init_103 : decode cX3_init 103 = .ok (.iinc 1 1, 3) := by decide +kernel
theorem dX3_init_106 : decode cX3_init 106 = .ok (.goto (-31), 3) := by decide +kernel
theorem dX3_init_109 : decode cX3_init 109 = .ok (.return_, 1) := by decide +kernel
theorem dX3_become_0 : decode cX3_become 0 = .ok (.aload_n 1, 1) := by decide +kernel
theorem dX3_become_1 : decode cX3_become 1 = .ok (.getfield 9, 3) := by decide +kernel
theorem dX3_become_4 : decode cX3_become 4 = .ok (.iconst 0, 1) := by decide +kernel
theorem dX3_become_5 : decode cX3_become 5 = .ok (.aload_n 0, 1) := by decide +kernel
theorem dX3_become_6 : decode cX3_become 6 = .ok (.getfield 9, 3) := by decide +kernel
theorem dX3_become_9 : decode cX3_become 9 = .ok (.iconst 0, 1) := by decide +kernel
theorem dX3_become_10 : decode cX3_become 10 = .ok (.bipush 6, 2) := by decide +kernel
theorem dX3_become_12 : decode cX3_become 12 = .ok (.invokestatic 40, 3) := by decide +kernel
theorem dX3_become_15 : decode cX3_become 15 = .ok (.aload_n 1, 1) := by decide +kernel
theorem dX3_become_16 : decode cX3_become 16 = .ok (.getfield 15, 3) := by decide +kernel
theorem dX3_become_19 : decode cX3_become 19 = .ok (.iconst 0, 1) := by decide +kernel
theorem dX3_become_20 : decode cX3_become 20 = .ok (.aload_n 0, 1) := by decide +kernel
theorem dX3_become_21 : decode cX3_become 21 = .ok (.getfield 15, 3) := by decide +kernel
theorem dX3_become_24 : decode cX3_become 24 = .ok (.iconst 0, 1) := by decide +kernel
theorem dX3_become_25 : decode cX3_become 25 = .ok (.bipush 6, 2) := by decide +kernel
theorem dX3_become_27 : decode cX3_become 27 = .ok (.invokestatic 40, 3) := by decide +kernel
theorem dX3_become_30 : decode cX3_become 30 = .ok (.aload_n 1, 1) := by decide +kernel
theorem dX3_become_31 : decode cX3_become 31 = .ok (.getfield 18, 3) := by decide +kernel
theorem dX3_become_34 : decode cX3_become 34 = .ok (.iconst 0, 1) := by decide +kernel
theorem dX3_become_35 : decode cX3_become 35 = .ok (.aload_n 0, 1) := by decide +kernel
theorem dX3_become_36 : decode cX3_become 36 = .ok (.getfield 18, 3) := by decide +kernel
theorem dX3_become_39 : decode cX3_become 39 = .ok (.iconst 0, 1) := by decide +kernel
theorem dX3_become_40 : decode cX3_become 40 = .ok (.bipush 6, 2) := by decide +kernel
theorem dX3_become_42 : decode cX3_become 42 = .ok (.invokestatic 40, 3) := by decide +kernel
theorem dX3_become_45 : decode cX3_become 45 = .ok (.aload_n 1, 1) := by decide +kernel
theorem dX3_become_46 : decode cX3_become 46 = .ok (.getfield 21, 3) := by decide +kernel
theorem dX3_become_49 : decode cX3_become 49 = .ok (.iconst 0, 1) := by decide +kernel
theorem dX3_become_50 : decode cX3_become 50 = .ok (.aload_n 0, 1) := by decide +kernel
theorem dX3_become_51 : decode cX3_become 51 = .ok (.getfield 21, 3) := by decide +kernel
theorem dX3_become_54 : decode cX3_become 54 = .ok (.iconst 0, 1) := by decide +kernel
theorem dX3_become_55 : decode cX3_become 55 = .ok (.bipush 6, 2) := by decide +kernel
theorem dX3_become_57 : decode cX3_become 57 = .ok (.invokestatic 40, 3) := by decide +kernel
theorem dX3_become_60 : decode cX3_become 60 = .ok (.aload_n 1, 1) := by decide +kernel
theorem dX3_become_61 : decode cX3_become 61 = .ok (.getfield 24, 3) := by decide +kernel
theorem dX3_become_64 : decode cX3_become 64 = .ok (.iconst 0, 1) := by decide +kernel
theorem dX3_become_65 : decode cX3_become 65 = .ok (.aload_n 0, 1) := by decide +kernel
theorem dX3_become_66 : decode cX3_become 66 = .ok (.getfield 24, 3) := by decide +kernel
theorem dX3_become_69 : decode cX3_become 69 = .ok (.iconst 0, 1) := by decide +kernel
theorem dX3_become_70 : decode cX3_become 70 = .ok (.bipush 6, 2) := by decide +kernel
theorem dX3_become_72 : decode cX3_become 72 = .ok (.invokestatic 40, 3) := by decide +kernel
theorem dX3_become_75 : decode cX3_become 75 = .ok (.aload_n 1, 1) := by decide +kernel
theorem dX3_become_76 : decode cX3_become 76 = .ok (.getfield 27, 3) := by decide +kernel
theorem dX3_become_79 : decode cX3_become 79 = .ok (.iconst 0, 1) := by decide +kernel
theorem dX3_become_80 : decode cX3_become 80 = .ok (.aload_n 0, 1) := by decide +kernel
theorem dX3_become_81 : decode cX3_become 81 = .ok (.getfield 27, 3) := by decide +kernel
theorem dX3_become_84 : decode cX3_become 84 = .ok (.iconst 0, 1) := by decide +kernel
theorem dX3_become_85 : decode cX3_become 85 = .ok (.bipush 6, 2) := by decide +kernel
theorem dX3_become_87 : decode cX3_become 87 = .ok (.invokestatic 40, 3) := by decide +kernel
theorem dX3_become_90 : decode cX3_become 90 = .ok (.aload_n 1, 1) := by decide +kernel
theorem dX3_become_91 : decode cX3_become 91 = .ok (.getfield 30, 3) := by decide +kernel
theorem dX3_become_94 : decode cX3_become 94 = .ok (.iconst 0, 1) := by decide +kernel
theorem dX3_become_95 : decode cX3_become 95 = .ok (.aload_n 0, 1) := by decide +kernel
theorem dX3_become_96 : decode cX3_become 96 = .ok (.getfield 30, 3) := by decide +kernel
theorem dX3_become_99 : decode cX3_become 99 = .ok (.iconst 0, 1) := by decide +kernel
theorem dX3_become_100 : decode cX3_become 100 = .ok (.bipush 6, 2) := by decide +kernel
theorem dX3_become_102 : decode cX3_become 102 = .ok (.invokestatic 40, 3) := by decide +kernel
theorem dX3_become_105 : decode cX3_become 105 = .ok (.aload_n 0, 1) := by decide +kernel
theorem dX3_become_106 : decode cX3_become 106 = .ok (.aload_n 1, 1) := by decide +kernel
theorem dX3_become_107 : decode cX3_become 107 = .ok (.getfield 46, 3) := by decide +kernel
theorem dX3_become_110 : decode cX3_become 110 = .ok (.putfield 46, 3) := by decide +kernel
theorem dX3_become_113 : decode cX3_become 113 = .ok (.aload_n 0, 1) := by decide +kernel
theorem dX3_become_114 : decode cX3_become 114 = .ok (.aload_n 1, 1) := by decide +kernel
theorem dX3_become_115 : decode cX3_become 115 = .ok (.getfield 49, 3) := by decide +kernel
theorem dX3_become_118 : decode cX3_become 118 = .ok (.putfield 49, 3) := by decide +kernel
theorem dX3_become_121 : decode cX3_become 121 = .ok (.aload_n 0, 1) := by decide +kernel
theorem dX3_become_122 : decode cX3_become 122 = .ok (.aload_n 1, 1) := by decide +kernel
theorem dX3_become_123 : decode cX3_become 123 = .ok (.getfield 52, 3) := by decide +kernel
theorem dX3_become_126 : decode cX3_become 126 = .ok (.putfield 52, 3) := by decide +kernel
theorem dX3_become_129 : decode cX3_become 129 = .ok (.aload_n 0, 1) := by decide +kernel
theorem dX3_become_130 : decode cX3_become 130 = .ok (.aload_n 1, 1) := by decide +kernel
theorem dX3_become_131 : decode cX3_become 131 = .ok (.getfield 36, 3) := by decide +kernel
theorem dX3_become_134 : decode cX3_become 134 = .ok (.putfield 36, 3) := by decide +kernel
theorem dX3_become_137 : decode cX3_become 137 = .ok (.return_, 1) := by decide +kernel
theorem dX3_clear_0 : decode cX3_clear 0 = .ok (.iconst 0, 1) := by decide +kernel
theorem dX3_clear_1 : decode cX3_clear 1 = .ok (.istore_n 1, 1) := by decide +kernel
theorem dX3_clear_2 : decode cX3_clear 2 = .ok (.iload_n 1, 1) := by decide +kernel
theorem dX3_clear_3 : decode cX3_clear 3 = .ok (.bipush 6, 2) := by decide +kernel
theorem dX3_clear_5 : decode cX3_clear 5 = .ok (.if_icmp .ge 16, 3) := by decide +kernel
theorem dX3_clear_8 : decode cX3_clear 8 = .ok (.aload_n 0, 1) := by decide +kernel
theorem dX3_clear_9 : decode cX3_clear 9 = .ok (.getfield 24, 3) := by decide +kernel
theorem dX3_clear_12 : decode cX3_clear 12 = .ok (.iload_n 1, 1) := by decide +kernel
theorem dX3_clear_13 : decode cX3_clear 13 = .ok (.iconst (-1), 1) := by decide +kernel
theorem dX3_clear_14 : decode cX3_clear 14 = .ok (.iastore, 1) := by decide +kernel
theorem dX3_clear_15 : decode cX3_clear 15 = .ok (.iinc 1 1, 3) := by decide +kernel
theorem dX3_clear_18 : decode cX3_clear 18 = .ok (.goto (-16), 3) := by decide +kernel
theorem dX3_clear_21 : decode cX3_clear 21 = .ok (.aload_n 0, 1) := by decide +kernel
theorem dX3_clear_22 : decode cX3_clear 22 = .ok (.iconst 0, 1) := by decide +kernel
theorem dX3_clear_23 : decode cX3_clear 23 = .ok (.putfield 46, 3) := by decide +kernel
theorem dX3_clear_26 : decode cX3_clear 26 = .ok (.aload_n 0, 1) := by decide +kernel
theorem dX3_clear_27 : decode cX3_clear 27 = .ok (.iconst 0, 1) := by decide +kernel
theorem dX3_clear_28 : decode cX3_clear 28 = .ok (.putfield 49, 3) := by decide +kernel
theorem dX3_clear_31 : decode cX3_clear 31 = .ok (.aload_n 0, 1) := by decide +kernel
theorem dX3_clear_32 : decode cX3_clear 32 = .ok (.iconst 0, 1) := by decide +kernel
theorem dX3_clear_33 : decode cX3_clear 33 = .ok (.putfield 52, 3) := by decide +kernel
theorem dX3_clear_36 : decode cX3_clear 36 = .ok (.return_, 1) := by decide +kernel
theorem dX3_has_0 : decode cX3_has 0 = .ok (.iload_n 1, 1) := by decide +kernel
theorem dX3_has_1 : decode cX3_has 1 = .ok (.ifCond .lt 15, 3) := by decide +kernel
theorem dX3_has_4 : decode cX3_has 4 = .ok (.iload_n 1, 1) := by decide +kernel
theorem dX3_has_5 : decode cX3_has 5 = .ok (.aload_n 0, 1) := by decide +kernel
theorem dX3_has_6 : decode cX3_has 6 = .ok (.getfield 46, 3) := by decide +kernel
theorem dX3_has_9 : decode cX3_has 9 = .ok (.if_icmp .ge 7, 3) := by decide +kernel
theorem dX3_has_12 : decode cX3_has 12 = .ok (.iconst 1, 1) := by decide +kernel
theorem dX3_has_13 : decode cX3_has 13 = .ok (.goto 4, 3) := by decide +kernel
theorem dX3_has_16 : decode cX3_has 16 = .ok (.iconst 0, 1) := by decide +kernel
theorem dX3_has_17 : decode cX3_has 17 = .ok (.ireturn, 1) := by decide +kernel
theorem dX3_hasTaken_0 : decode cX3_hasTaken 0 = .ok (.aload_n 0, 1) := by decide +kernel
theorem dX3_hasTaken_1 : decode cX3_hasTaken 1 = .ok (.getfield 15, 3) := by decide +kernel
theorem dX3_hasTaken_4 : decode cX3_hasTaken 4 = .ok (.iload_n 1, 1) := by decide +kernel
theorem dX3_hasTaken_5 : decode cX3_hasTaken 5 = .ok (.iaload, 1) := by decide +kernel
theorem dX3_hasTaken_6 : decode cX3_hasTaken 6 = .ok (.bipush 99, 2) := by decide +kernel
theorem dX3_hasTaken_8 : decode cX3_hasTaken 8 = .ok (.if_icmp .lt 7, 3) := by decide +kernel
theorem dX3_hasTaken_11 : decode cX3_hasTaken 11 = .ok (.iconst 1, 1) := by decide +kernel
theorem dX3_hasTaken_12 : decode cX3_hasTaken 12 = .ok (.goto 4, 3) := by decide +kernel
theorem dX3_hasTaken_15 : decode cX3_hasTaken 15 = .ok (.iconst 0, 1) := by decide +kernel
theorem dX3_hasTaken_16 : decode cX3_hasTaken 16 = .ok (.ireturn, 1) := by decide +kernel
theorem dX3_lowestFreeBay_0 : decode cX3_lowestFreeBay 0 = .ok (.iconst 0, 1) := by decide +kernel
theorem dX3_lowestFreeBay_1 : decode cX3_lowestFreeBay 1 = .ok (.istore_n 1, 1) := by decide +kernel
theorem dX3_lowestFreeBay_2 : decode cX3_lowestFreeBay 2 = .ok (.iload_n 1, 1) := by decide +kernel
theorem dX3_lowestFreeBay_3 : decode cX3_lowestFreeBay 3 = .ok (.bipush 6, 2) := by decide +kernel
theorem dX3_lowestFreeBay_5 : decode cX3_lowestFreeBay 5 = .ok (.if_icmp .ge 21, 3) := by decide +kernel
theorem dX3_lowestFreeBay_8 : decode cX3_lowestFreeBay 8 = .ok (.aload_n 0, 1) := by decide +kernel
theorem dX3_lowestFreeBay_9 : decode cX3_lowestFreeBay 9 = .ok (.getfield 24, 3) := by decide +kernel
theorem dX3_lowestFreeBay_12 : decode cX3_lowestFreeBay 12 = .ok (.iload_n 1, 1) := by decide +kernel
theorem dX3_lowestFreeBay_13 : decode cX3_lowestFreeBay 13 = .ok (.iaload, 1) := by decide +kernel
theorem dX3_lowestFreeBay_14 : decode cX3_lowestFreeBay 14 = .ok (.iconst (-1), 1) := by decide +kernel
theorem dX3_lowestFreeBay_15 : decode cX3_lowestFreeBay 15 = .ok (.if_icmp .ne 5, 3) := by decide +kernel
theorem dX3_lowestFreeBay_18 : decode cX3_lowestFreeBay 18 = .ok (.iload_n 1, 1) := by decide +kernel
theorem dX3_lowestFreeBay_19 : decode cX3_lowestFreeBay 19 = .ok (.ireturn, 1) := by decide +kernel
theorem dX3_lowestFreeBay_20 : decode cX3_lowestFreeBay 20 = .ok (.iinc 1 1, 3) := by decide +kernel
theorem dX3_lowestFreeBay_23 : decode cX3_lowestFreeBay 23 = .ok (.goto (-21), 3) := by decide +kernel
theorem dX3_lowestFreeBay_26 : decode cX3_lowestFreeBay 26 = .ok (.iconst (-1), 1) := by decide +kernel
theorem dX3_lowestFreeBay_27 : decode cX3_lowestFreeBay 27 = .ok (.ireturn, 1) := by decide +kernel
theorem dX3_enter_0 : decode cX3_enter 0 = .ok (.aload_n 0, 1) := by decide +kernel
theorem dX3_enter_1 : decode cX3_enter 1 = .ok (.getfield 46, 3) := by decide +kernel
theorem dX3_enter_4 : decode cX3_enter 4 = .ok (.bipush 6, 2) := by decide +kernel
theorem dX3_enter_6 : decode cX3_enter 6 = .ok (.if_icmp .lt 4, 3) := by decide +kernel
theorem dX3_enter_9 : decode cX3_enter 9 = .ok (.return_, 1) := by decide +kernel
theorem dX3_enter_10 : decode cX3_enter 10 = .ok (.aload_n 0, 1) := by decide +kernel
theorem dX3_enter_11 : decode cX3_enter 11 = .ok (.getfield 9, 3) := by decide +kernel
theorem dX3_enter_14 : decode cX3_enter 14 = .ok (.aload_n 0, 1) := by decide +kernel
theorem dX3_enter_15 : decode cX3_enter 15 = .ok (.getfield 46, 3) := by decide +kernel
theorem dX3_enter_18 : decode cX3_enter 18 = .ok (.iload_n 1, 1) := by decide +kernel
theorem dX3_enter_19 : decode cX3_enter 19 = .ok (.iastore, 1) := by decide +kernel
theorem dX3_enter_20 : decode cX3_enter 20 = .ok (.aload_n 0, 1) := by decide +kernel
theorem dX3_enter_21 : decode cX3_enter 21 = .ok (.getfield 15, 3) := by decide +kernel
theorem dX3_enter_24 : decode cX3_enter 24 = .ok (.aload_n 0, 1) := by decide +kernel
theorem dX3_enter_25 : decode cX3_enter 25 = .ok (.getfield 46, 3) := by decide +kernel
theorem dX3_enter_28 : decode cX3_enter 28 = .ok (.iload_n 2, 1) := by decide +kernel
theorem dX3_enter_29 : decode cX3_enter 29 = .ok (.iastore, 1) := by decide +kernel
theorem dX3_enter_30 : decode cX3_enter 30 = .ok (.aload_n 0, 1) := by decide +kernel
theorem dX3_enter_31 : decode cX3_enter 31 = .ok (.getfield 21, 3) := by decide +kernel
theorem dX3_enter_34 : decode cX3_enter 34 = .ok (.aload_n 0, 1) := by decide +kernel
theorem dX3_enter_35 : decode cX3_enter 35 = .ok (.getfield 46, 3) := by decide +kernel
theorem dX3_enter_38 : decode cX3_enter 38 = .ok (.iload 4, 2) := by decide +kernel
theorem dX3_enter_40 : decode cX3_enter 40 = .ok (.iastore, 1) := by decide +kernel
theorem dX3_enter_41 : decode cX3_enter 41 = .ok (.aload_n 0, 1) := by decide +kernel
theorem dX3_enter_42 : decode cX3_enter 42 = .ok (.aload_n 0, 1) := by decide +kernel
theorem dX3_enter_43 : decode cX3_enter 43 = .ok (.getfield 46, 3) := by decide +kernel
theorem dX3_enter_46 : decode cX3_enter 46 = .ok (.iload_n 3, 1) := by decide +kernel
theorem dX3_enter_47 : decode cX3_enter 47 = .ok (.invokevirtual 55, 3) := by decide +kernel
theorem dX3_enter_50 : decode cX3_enter 50 = .ok (.aload_n 0, 1) := by decide +kernel
theorem dX3_enter_51 : decode cX3_enter 51 = .ok (.dup, 1) := by decide +kernel
theorem dX3_enter_52 : decode cX3_enter 52 = .ok (.getfield 46, 3) := by decide +kernel
theorem dX3_enter_55 : decode cX3_enter 55 = .ok (.iconst 1, 1) := by decide +kernel
theorem dX3_enter_56 : decode cX3_enter 56 = .ok (.iadd, 1) := by decide +kernel
theorem dX3_enter_57 : decode cX3_enter 57 = .ok (.putfield 46, 3) := by decide +kernel
theorem dX3_enter_60 : decode cX3_enter 60 = .ok (.return_, 1) := by decide +kernel
theorem dX3_seat_0 : decode cX3_seat 0 = .ok (.aload_n 0, 1) := by decide +kernel
theorem dX3_seat_1 : decode cX3_seat 1 = .ok (.getfield 18, 3) := by decide +kernel
theorem dX3_seat_4 : decode cX3_seat 4 = .ok (.iload_n 1, 1) := by decide +kernel
theorem dX3_seat_5 : decode cX3_seat 5 = .ok (.iload_n 2, 1) := by decide +kernel
theorem dX3_seat_6 : decode cX3_seat 6 = .ok (.iastore, 1) := by decide +kernel
theorem dX3_seat_7 : decode cX3_seat 7 = .ok (.aload_n 0, 1) := by decide +kernel
theorem dX3_seat_8 : decode cX3_seat 8 = .ok (.getfield 24, 3) := by decide +kernel
theorem dX3_seat_11 : decode cX3_seat 11 = .ok (.iload_n 2, 1) := by decide +kernel
theorem dX3_seat_12 : decode cX3_seat 12 = .ok (.iload_n 1, 1) := by decide +kernel
theorem dX3_seat_13 : decode cX3_seat 13 = .ok (.iastore, 1) := by decide +kernel
theorem dX3_seat_14 : decode cX3_seat 14 = .ok (.return_, 1) := by decide +kernel
theorem dX3_seatAll_0 : decode cX3_seatAll 0 = .ok (.iconst 0, 1) := by decide +kernel
theorem dX3_seatAll_1 : decode cX3_seatAll 1 = .ok (.istore_n 2, 1) := by decide +kernel
theorem dX3_seatAll_2 : decode cX3_seatAll 2 = .ok (.iload_n 2, 1) := by decide +kernel
theorem dX3_seatAll_3 : decode cX3_seatAll 3 = .ok (.bipush 6, 2) := by decide +kernel
theorem dX3_seatAll_5 : decode cX3_seatAll 5 = .ok (.if_icmp .ge 16, 3) := by decide +kernel
theorem dX3_seatAll_8 : decode cX3_seatAll 8 = .ok (.aload_n 0, 1) := by decide +kernel
theorem dX3_seatAll_9 : decode cX3_seatAll 9 = .ok (.getfield 24, 3) := by decide +kernel
theorem dX3_seatAll_12 : decode cX3_seatAll 12 = .ok (.iload_n 2, 1) := by decide +kernel
theorem dX3_seatAll_13 : decode cX3_seatAll 13 = .ok (.iconst (-1), 1) := by decide +kernel
theorem dX3_seatAll_14 : decode cX3_seatAll 14 = .ok (.iastore, 1) := by decide +kernel
theorem dX3_seatAll_15 : decode cX3_seatAll 15 = .ok (.iinc 2 1, 3) := by decide +kernel
theorem dX3_seatAll_18 : decode cX3_seatAll 18 = .ok (.goto (-16), 3) := by decide +kernel
theorem dX3_seatAll_21 : decode cX3_seatAll 21 = .ok (.iconst 0, 1) := by decide +kernel
theorem dX3_seatAll_22 : decode cX3_seatAll 22 = .ok (.istore_n 2, 1) := by decide +kernel
theorem dX3_seatAll_23 : decode cX3_seatAll 23 = .ok (.iload_n 2, 1) := by decide +kernel
theorem dX3_seatAll_24 : decode cX3_seatAll 24 = .ok (.aload_n 0, 1) := by decide +kernel
theorem dX3_seatAll_25 : decode cX3_seatAll 25 = .ok (.getfield 46, 3) := by decide +kernel
theorem dX3_seatAll_28 : decode cX3_seatAll 28 = .ok (.if_icmp .ge 17, 3) := by decide +kernel
theorem dX3_seatAll_31 : decode cX3_seatAll 31 = .ok (.aload_n 0, 1) := by decide +kernel
theorem dX3_seatAll_32 : decode cX3_seatAll 32 = .ok (.iload_n 2, 1) := by decide +kernel
theorem dX3_seatAll_33 : decode cX3_seatAll 33 = .ok (.aload_n 1, 1) := by decide +kernel
theorem dX3_seatAll_34 : decode cX3_seatAll 34 = .ok (.iload_n 2, 1) := by decide +kernel
theorem dX3_seatAll_35 : decode cX3_seatAll 35 = .ok (.iaload, 1) := by decide +kernel
theorem dX3_seatAll_36 : decode cX3_seatAll 36 = .ok (.invokevirtual 55, 3) := by decide +kernel
theorem dX3_seatAll_39 : decode cX3_seatAll 39 = .ok (.iinc 2 1, 3) := by decide +kernel
theorem dX3_seatAll_42 : decode cX3_seatAll 42 = .ok (.goto (-19), 3) := by decide +kernel
theorem dX3_seatAll_45 : decode cX3_seatAll 45 = .ok (.return_, 1) := by decide +kernel
theorem dX3_swapBays_0 : decode cX3_swapBays 0 = .ok (.aload_n 0, 1) := by decide +kernel
theorem dX3_swapBays_1 : decode cX3_swapBays 1 = .ok (.getfield 18, 3) := by decide +kernel
theorem dX3_swapBays_4 : decode cX3_swapBays 4 = .ok (.iload_n 1, 1) := by decide +kernel
theorem dX3_swapBays_5 : decode cX3_swapBays 5 = .ok (.iaload, 1) := by decide +kernel
theorem dX3_swapBays_6 : decode cX3_swapBays 6 = .ok (.istore_n 3, 1) := by decide +kernel
theorem dX3_swapBays_7 : decode cX3_swapBays 7 = .ok (.aload_n 0, 1) := by decide +kernel
theorem dX3_swapBays_8 : decode cX3_swapBays 8 = .ok (.iload_n 1, 1) := by decide +kernel
theorem dX3_swapBays_9 : decode cX3_swapBays 9 = .ok (.aload_n 0, 1) := by decide +kernel
theorem dX3_swapBays_10 : decode cX3_swapBays 10 = .ok (.getfield 18, 3) := by decide +kernel
theorem dX3_swapBays_13 : decode cX3_swapBays 13 = .ok (.iload_n 2, 1) := by decide +kernel
theorem dX3_swapBays_14 : decode cX3_swapBays 14 = .ok (.iaload, 1) := by decide +kernel
theorem dX3_swapBays_15 : decode cX3_swapBays 15 = .ok (.invokevirtual 55, 3) := by decide +kernel
theorem dX3_swapBays_18 : decode cX3_swapBays 18 = .ok (.aload_n 0, 1) := by decide +kernel
theorem dX3_swapBays_19 : decode cX3_swapBays 19 = .ok (.iload_n 2, 1) := by decide +kernel
theorem dX3_swapBays_20 : decode cX3_swapBays 20 = .ok (.iload_n 3, 1) := by decide +kernel
theorem dX3_swapBays_21 : decode cX3_swapBays 21 = .ok (.invokevirtual 55, 3) := by decide +kernel
theorem dX3_swapBays_24 : decode cX3_swapBays 24 = .ok (.return_, 1) := by decide +kernel
theorem dX3_heldBays_0 : decode cX3_heldBays 0 = .ok (.iconst 0, 1) := by decide +kernel
theorem dX3_heldBays_1 : decode cX3_heldBays 1 = .ok (.istore_n 1, 1) := by decide +kernel
theorem dX3_heldBays_2 : decode cX3_heldBays 2 = .ok (.iconst 0, 1) := by decide +kernel
theorem dX3_heldBays_3 : decode cX3_heldBays 3 = .ok (.istore_n 2, 1) := by decide +kernel
theorem dX3_heldBays_4 : decode cX3_heldBays 4 = .ok (.iload_n 2, 1) := by decide +kernel
theorem dX3_heldBays_5 : decode cX3_heldBays 5 = .ok (.aload_n 0, 1) := by decide +kernel
theorem dX3_heldBays_6 : decode cX3_heldBays 6 = .ok (.getfield 46, 3) := by decide +kernel
theorem dX3_heldBays_9 : decode cX3_heldBays 9 = .ok (.if_icmp .ge 20, 3) := by decide +kernel
theorem dX3_heldBays_12 : decode cX3_heldBays 12 = .ok (.iload_n 1, 1) := by decide +kernel
theorem dX3_heldBays_13 : decode cX3_heldBays 13 = .ok (.iconst 1, 1) := by decide +kernel
theorem dX3_heldBays_14 : decode cX3_heldBays 14 = .ok (.aload_n 0, 1) := by decide +kernel
theorem dX3_heldBays_15 : decode cX3_heldBays 15 = .ok (.getfield 18, 3) := by decide +kernel
theorem dX3_heldBays_18 : decode cX3_heldBays 18 = .ok (.iload_n 2, 1) := by decide +kernel
theorem dX3_heldBays_19 : decode cX3_heldBays 19 = .ok (.iaload, 1) := by decide +kernel
theorem dX3_heldBays_20 : decode cX3_heldBays 20 = .ok (.ishl, 1) := by decide +kernel
theorem dX3_heldBays_21 : decode cX3_heldBays 21 = .ok (.ior, 1) := by decide +kernel
theorem dX3_heldBays_22 : decode cX3_heldBays 22 = .ok (.istore_n 1, 1) := by decide +kernel
theorem dX3_heldBays_23 : decode cX3_heldBays 23 = .ok (.iinc 2 1, 3) := by decide +kernel
theorem dX3_heldBays_26 : decode cX3_heldBays 26 = .ok (.goto (-22), 3) := by decide +kernel
theorem dX3_heldBays_29 : decode cX3_heldBays 29 = .ok (.iload_n 1, 1) := by decide +kernel
theorem dX3_heldBays_30 : decode cX3_heldBays 30 = .ok (.ireturn, 1) := by decide +kernel
theorem dX3_takenSet_0 : decode cX3_takenSet 0 = .ok (.iconst 0, 1) := by decide +kernel
theorem dX3_takenSet_1 : decode cX3_takenSet 1 = .ok (.istore_n 1, 1) := by decide +kernel
theorem dX3_takenSet_2 : decode cX3_takenSet 2 = .ok (.iconst 0, 1) := by decide +kernel
theorem dX3_takenSet_3 : decode cX3_takenSet 3 = .ok (.istore_n 2, 1) := by decide +kernel
theorem dX3_takenSet_4 : decode cX3_takenSet 4 = .ok (.iload_n 2, 1) := by decide +kernel
theorem dX3_takenSet_5 : decode cX3_takenSet 5 = .ok (.aload_n 0, 1) := by decide +kernel
theorem dX3_takenSet_6 : decode cX3_takenSet 6 = .ok (.getfield 46, 3) := by decide +kernel
theorem dX3_takenSet_9 : decode cX3_takenSet 9 = .ok (.if_icmp .ge 23, 3) := by decide +kernel
theorem dX3_takenSet_12 : decode cX3_takenSet 12 = .ok (.aload_n 0, 1) := by decide +kernel
theorem dX3_takenSet_13 : decode cX3_takenSet 13 = .ok (.iload_n 2, 1) := by decide +kernel
theorem dX3_takenSet_14 : decode cX3_takenSet 14 = .ok (.invokevirtual 59, 3) := by decide +kernel
theorem dX3_takenSet_17 : decode cX3_takenSet 17 = .ok (.ifCond .eq 9, 3) := by decide +kernel
theorem dX3_takenSet_20 : decode cX3_takenSet 20 = .ok (.iload_n 1, 1) := by decide +kernel
theorem dX3_takenSet_21 : decode cX3_takenSet 21 = .ok (.iconst 1, 1) := by decide +kernel
theorem dX3_takenSet_22 : decode cX3_takenSet 22 = .ok (.iload_n 2, 1) := by decide +kernel
theorem dX3_takenSet_23 : decode cX3_takenSet 23 = .ok (.ishl, 1) := by decide +kernel
theorem dX3_takenSet_24 : decode cX3_takenSet 24 = .ok (.ior, 1) := by decide +kernel
theorem dX3_takenSet_25 : decode cX3_takenSet 25 = .ok (.istore_n 1, 1) := by decide +kernel
theorem dX3_takenSet_26 : decode cX3_takenSet 26 = .ok (.iinc 2 1, 3) := by decide +kernel
theorem dX3_takenSet_29 : decode cX3_takenSet 29 = .ok (.goto (-25), 3) := by decide +kernel
theorem dX3_takenSet_32 : decode cX3_takenSet 32 = .ok (.iload_n 1, 1) := by decide +kernel
theorem dX3_takenSet_33 : decode cX3_takenSet 33 = .ok (.ireturn, 1) := by decide +kernel
theorem dX3_whoIn_0 : decode cX3_whoIn 0 = .ok (.iload_n 1, 1) := by decide +kernel
theorem dX3_whoIn_1 : decode cX3_whoIn 1 = .ok (.ifCond .lt 18, 3) := by decide +kernel
theorem dX3_whoIn_4 : decode cX3_whoIn 4 = .ok (.iload_n 1, 1) := by decide +kernel
theorem dX3_whoIn_5 : decode cX3_whoIn 5 = .ok (.bipush 6, 2) := by decide +kernel
theorem dX3_whoIn_7 : decode cX3_whoIn 7 = .ok (.if_icmp .ge 12, 3) := by decide +kernel
theorem dX3_whoIn_10 : decode cX3_whoIn 10 = .ok (.aload_n 0, 1) := by decide +kernel
theorem dX3_whoIn_11 : decode cX3_whoIn 11 = .ok (.getfield 24, 3) := by decide +kernel
theorem dX3_whoIn_14 : decode cX3_whoIn 14 = .ok (.iload_n 1, 1) := by decide +kernel
theorem dX3_whoIn_15 : decode cX3_whoIn 15 = .ok (.iaload, 1) := by decide +kernel
theorem dX3_whoIn_16 : decode cX3_whoIn 16 = .ok (.goto 4, 3) := by decide +kernel
theorem dX3_whoIn_19 : decode cX3_whoIn 19 = .ok (.iconst (-1), 1) := by decide +kernel
theorem dX3_whoIn_20 : decode cX3_whoIn 20 = .ok (.ireturn, 1) := by decide +kernel
theorem dX3_besideSet_0 : decode cX3_besideSet 0 = .ok (.aload_n 0, 1) := by decide +kernel
theorem dX3_besideSet_1 : decode cX3_besideSet 1 = .ok (.aload_n 0, 1) := by decide +kernel
theorem dX3_besideSet_2 : decode cX3_besideSet 2 = .ok (.getfield 18, 3) := by decide +kernel
theorem dX3_besideSet_5 : decode cX3_besideSet 5 = .ok (.iload_n 1, 1) := by decide +kernel
theorem dX3_besideSet_6 : decode cX3_besideSet 6 = .ok (.iaload, 1) := by decide +kernel
theorem dX3_besideSet_7 : decode cX3_besideSet 7 = .ok (.iconst 1, 1) := by decide +kernel
theorem dX3_besideSet_8 : decode cX3_besideSet 8 = .ok (.isub, 1) := by decide +kernel
theorem dX3_besideSet_9 : decode cX3_besideSet 9 = .ok (.invokevirtual 63, 3) := by decide +kernel
theorem dX3_besideSet_12 : decode cX3_besideSet 12 = .ok (.istore_n 2, 1) := by decide +kernel
theorem dX3_besideSet_13 : decode cX3_besideSet 13 = .ok (.aload_n 0, 1) := by decide +kernel
theorem dX3_besideSet_14 : decode cX3_besideSet 14 = .ok (.aload_n 0, 1) := by decide +kernel
theorem dX3_besideSet_15 : decode cX3_besideSet 15 = .ok (.getfield 18, 3) := by decide +kernel
theorem dX3_besideSet_18 : decode cX3_besideSet 18 = .ok (.iload_n 1, 1) := by decide +kernel
theorem dX3_besideSet_19 : decode cX3_besideSet 19 = .ok (.iaload, 1) := by decide +kernel
theorem dX3_besideSet_20 : decode cX3_besideSet 20 = .ok (.iconst 1, 1) := by decide +kernel
theorem dX3_besideSet_21 : decode cX3_besideSet 21 = .ok (.iadd, 1) := by decide +kernel
theorem dX3_besideSet_22 : decode cX3_besideSet 22 = .ok (.invokevirtual 63, 3) := by decide +kernel
theorem dX3_besideSet_25 : decode cX3_besideSet 25 = .ok (.istore_n 3, 1) := by decide +kernel
theorem dX3_besideSet_26 : decode cX3_besideSet 26 = .ok (.iload_n 2, 1) := by decide +kernel
theorem dX3_besideSet_27 : decode cX3_besideSet 27 = .ok (.iconst (-1), 1) := by decide +kernel
theorem dX3_besideSet_28 : decode cX3_besideSet 28 = .ok (.if_icmp .ne 7, 3) := by decide +kernel
theorem dX3_besideSet_31 : decode cX3_besideSet 31 = .ok (.iconst 0, 1) := by decide +kernel
theorem dX3_besideSet_32 : decode cX3_besideSet 32 = .ok (.goto 6, 3) := by decide +kernel
theorem dX3_besideSet_35 : decode cX3_besideSet 35 = .ok (.iconst 1, 1) := by decide +kernel
theorem dX3_besideSet_36 : decode cX3_besideSet 36 = .ok (.iload_n 2, 1) := by decide +kernel
theorem dX3_besideSet_37 : decode cX3_besideSet 37 = .ok (.ishl, 1) := by decide +kernel
theorem dX3_besideSet_38 : decode cX3_besideSet 38 = .ok (.iload_n 3, 1) := by decide +kernel
theorem dX3_besideSet_39 : decode cX3_besideSet 39 = .ok (.iconst (-1), 1) := by decide +kernel
theorem dX3_besideSet_40 : decode cX3_besideSet 40 = .ok (.if_icmp .ne 7, 3) := by decide +kernel
theorem dX3_besideSet_43 : decode cX3_besideSet 43 = .ok (.iconst 0, 1) := by decide +kernel
theorem dX3_besideSet_44 : decode cX3_besideSet 44 = .ok (.goto 6, 3) := by decide +kernel
theorem dX3_besideSet_47 : decode cX3_besideSet 47 = .ok (.iconst 1, 1) := by decide +kernel
theorem dX3_besideSet_48 : decode cX3_besideSet 48 = .ok (.iload_n 3, 1) := by decide +kernel
theorem dX3_besideSet_49 : decode cX3_besideSet 49 = .ok (.ishl, 1) := by decide +kernel
theorem dX3_besideSet_50 : decode cX3_besideSet 50 = .ok (.ior, 1) := by decide +kernel
theorem dX3_besideSet_51 : decode cX3_besideSet 51 = .ok (.ireturn, 1) := by decide +kernel
theorem dX3_takenIn_0 : decode cX3_takenIn 0 = .ok (.aload_n 0, 1) := by decide +kernel
theorem dX3_takenIn_1 : decode cX3_takenIn 1 = .ok (.iload_n 1, 1) := by decide +kernel
theorem dX3_takenIn_2 : decode cX3_takenIn 2 = .ok (.invokevirtual 63, 3) := by decide +kernel
theorem dX3_takenIn_5 : decode cX3_takenIn 5 = .ok (.istore_n 2, 1) := by decide +kernel
theorem dX3_takenIn_6 : decode cX3_takenIn 6 = .ok (.iload_n 2, 1) := by decide +kernel
theorem dX3_takenIn_7 : decode cX3_takenIn 7 = .ok (.iconst (-1), 1) := by decide +kernel
theorem dX3_takenIn_8 : decode cX3_takenIn 8 = .ok (.if_icmp .eq 15, 3) := by decide +kernel
theorem dX3_takenIn_11 : decode cX3_takenIn 11 = .ok (.aload_n 0, 1) := by decide +kernel
theorem dX3_takenIn_12 : decode cX3_takenIn 12 = .ok (.iload_n 2, 1) := by decide +kernel
theorem dX3_takenIn_13 : decode cX3_takenIn 13 = .ok (.invokevirtual 59, 3) := by decide +kernel
theorem dX3_takenIn_16 : decode cX3_takenIn 16 = .ok (.ifCond .eq 7, 3) := by decide +kernel
theorem dX3_takenIn_19 : decode cX3_takenIn 19 = .ok (.iconst 1, 1) := by decide +kernel
theorem dX3_takenIn_20 : decode cX3_takenIn 20 = .ok (.goto 4, 3) := by decide +kernel
theorem dX3_takenIn_23 : decode cX3_takenIn 23 = .ok (.iconst 0, 1) := by decide +kernel
theorem dX3_takenIn_24 : decode cX3_takenIn 24 = .ok (.ireturn, 1) := by decide +kernel
theorem dX3_notTakenIn_0 : decode cX3_notTakenIn 0 = .ok (.aload_n 0, 1) := by decide +kernel
theorem dX3_notTakenIn_1 : decode cX3_notTakenIn 1 = .ok (.iload_n 1, 1) := by decide +kernel
theorem dX3_notTakenIn_2 : decode cX3_notTakenIn 2 = .ok (.invokevirtual 63, 3) := by decide +kernel
theorem dX3_notTakenIn_5 : decode cX3_notTakenIn 5 = .ok (.istore_n 2, 1) := by decide +kernel
theorem dX3_notTakenIn_6 : decode cX3_notTakenIn 6 = .ok (.iload_n 2, 1) := by decide +kernel
theorem dX3_notTakenIn_7 : decode cX3_notTakenIn 7 = .ok (.iconst (-1), 1) := by decide +kernel
theorem dX3_notTakenIn_8 : decode cX3_notTakenIn 8 = .ok (.if_icmp .eq 15, 3) := by decide +kernel
theorem dX3_notTakenIn_11 : decode cX3_notTakenIn 11 = .ok (.aload_n 0, 1) := by decide +kernel
theorem dX3_notTakenIn_12 : decode cX3_notTakenIn 12 = .ok (.iload_n 2, 1) := by decide +kernel
theorem dX3_notTakenIn_13 : decode cX3_notTakenIn 13 = .ok (.invokevirtual 59, 3) := by decide +kernel
theorem dX3_notTakenIn_16 : decode cX3_notTakenIn 16 = .ok (.ifCond .ne 7, 3) := by decide +kernel
theorem dX3_notTakenIn_19 : decode cX3_notTakenIn 19 = .ok (.iconst 1, 1) := by decide +kernel
theorem dX3_notTakenIn_20 : decode cX3_notTakenIn 20 = .ok (.goto 4, 3) := by decide +kernel
theorem dX3_notTakenIn_23 : decode cX3_notTakenIn 23 = .ok (.iconst 0, 1) := by decide +kernel
theorem dX3_notTakenIn_24 : decode cX3_notTakenIn 24 = .ok (.ireturn, 1) := by decide +kernel
theorem dX3_gainOf_0 : decode cX3_gainOf 0 = .ok (.aload_n 0, 1) := by decide +kernel
theorem dX3_gainOf_1 : decode cX3_gainOf 1 = .ok (.getfield 18, 3) := by decide +kernel
theorem dX3_gainOf_4 : decode cX3_gainOf 4 = .ok (.iload_n 1, 1) := by decide +kernel
theorem dX3_gainOf_5 : decode cX3_gainOf 5 = .ok (.iaload, 1) := by decide +kernel
theorem dX3_gainOf_6 : decode cX3_gainOf 6 = .ok (.istore_n 2, 1) := by decide +kernel
theorem dX3_gainOf_7 : decode cX3_gainOf 7 = .ok (.bipush 10, 2) := by decide +kernel
theorem dX3_gainOf_9 : decode cX3_gainOf 9 = .ok (.aload_n 0, 1) := by decide +kernel
theorem dX3_gainOf_10 : decode cX3_gainOf 10 = .ok (.getfield 27, 3) := by decide +kernel
theorem dX3_gainOf_13 : decode cX3_gainOf 13 = .ok (.iload_n 2, 1) := by decide +kernel
theorem dX3_gainOf_14 : decode cX3_gainOf 14 = .ok (.iaload, 1) := by decide +kernel
theorem dX3_gainOf_15 : decode cX3_gainOf 15 = .ok (.isub, 1) := by decide +kernel
theorem dX3_gainOf_16 : decode cX3_gainOf 16 = .ok (.istore_n 3, 1) := by decide +kernel
theorem dX3_gainOf_17 : decode cX3_gainOf 17 = .ok (.aload_n 0, 1) := by decide +kernel
theorem dX3_gainOf_18 : decode cX3_gainOf 18 = .ok (.getfield 9, 3) := by decide +kernel
theorem dX3_gainOf_21 : decode cX3_gainOf 21 = .ok (.iload_n 1, 1) := by decide +kernel
theorem dX3_gainOf_22 : decode cX3_gainOf 22 = .ok (.iaload, 1) := by decide +kernel
theorem dX3_gainOf_23 : decode cX3_gainOf 23 = .ok (.istore 4, 2) := by decide +kernel
theorem dX3_gainOf_25 : decode cX3_gainOf 25 = .ok (.iload 4, 2) := by decide +kernel
theorem dX3_gainOf_27 : decode cX3_gainOf 27 = .ok (.ifCond .ne 5, 3) := by decide +kernel
theorem dX3_gainOf_30 : decode cX3_gainOf 30 = .ok (.iload_n 3, 1) := by decide +kernel
theorem dX3_gainOf_31 : decode cX3_gainOf 31 = .ok (.ireturn, 1) := by decide +kernel
theorem dX3_gainOf_32 : decode cX3_gainOf 32 = .ok (.iload 4, 2) := by decide +kernel
theorem dX3_gainOf_34 : decode cX3_gainOf 34 = .ok (.iconst 1, 1) := by decide +kernel
theorem dX3_gainOf_35 : decode cX3_gainOf 35 = .ok (.if_icmp .eq 9, 3) := by decide +kernel
theorem dX3_gainOf_38 : decode cX3_gainOf 38 = .ok (.iload 4, 2) := by decide +kernel
theorem dX3_gainOf_40 : decode cX3_gainOf 40 = .ok (.iconst 3, 1) := by decide +kernel
theorem dX3_gainOf_41 : decode cX3_gainOf 41 = .ok (.if_icmp .ne 44, 3) := by decide +kernel
theorem dX3_gainOf_44 : decode cX3_gainOf 44 = .ok (.iconst 0, 1) := by decide +kernel
theorem dX3_gainOf_45 : decode cX3_gainOf 45 = .ok (.iload_n 3, 1) := by decide +kernel
theorem dX3_gainOf_46 : decode cX3_gainOf 46 = .ok (.aload_n 0, 1) := by decide +kernel
theorem dX3_gainOf_47 : decode cX3_gainOf 47 = .ok (.iload_n 2, 1) := by decide +kernel
theorem dX3_gainOf_48 : decode cX3_gainOf 48 = .ok (.iconst 1, 1) := by decide +kernel
theorem dX3_gainOf_49 : decode cX3_gainOf 49 = .ok (.isub, 1) := by decide +kernel
theorem dX3_gainOf_50 : decode cX3_gainOf 50 = .ok (.invokevirtual 67, 3) := by decide +kernel
theorem dX3_gainOf_53 : decode cX3_gainOf 53 = .ok (.isub, 1) := by decide +kernel
theorem dX3_gainOf_54 : decode cX3_gainOf 54 = .ok (.aload_n 0, 1) := by decide +kernel
theorem dX3_gainOf_55 : decode cX3_gainOf 55 = .ok (.iload_n 2, 1) := by decide +kernel
theorem dX3_gainOf_56 : decode cX3_gainOf 56 = .ok (.iconst 1, 1) := by decide +kernel
theorem dX3_gainOf_57 : decode cX3_gainOf 57 = .ok (.iadd, 1) := by decide +kernel
theorem dX3_gainOf_58 : decode cX3_gainOf 58 = .ok (.invokevirtual 67, 3) := by decide +kernel
theorem dX3_gainOf_61 : decode cX3_gainOf 61 = .ok (.isub, 1) := by decide +kernel
theorem dX3_gainOf_62 : decode cX3_gainOf 62 = .ok (.invokestatic 70, 3) := by decide +kernel
theorem dX3_gainOf_65 : decode cX3_gainOf 65 = .ok (.istore 5, 2) := by decide +kernel
theorem dX3_gainOf_67 : decode cX3_gainOf 67 = .ok (.iload 4, 2) := by decide +kernel
theorem dX3_gainOf_69 : decode cX3_gainOf 69 = .ok (.iconst 1, 1) := by decide +kernel
theorem dX3_gainOf_70 : decode cX3_gainOf 70 = .ok (.if_icmp .ne 8, 3) := by decide +kernel
theorem dX3_gainOf_73 : decode cX3_gainOf 73 = .ok (.iload 5, 2) := by decide +kernel
theorem dX3_gainOf_75 : decode cX3_gainOf 75 = .ok (.goto 9, 3) := by decide +kernel
theorem dX3_gainOf_78 : decode cX3_gainOf 78 = .ok (.iconst 4, 1) := by decide +kernel
theorem dX3_gainOf_79 : decode cX3_gainOf 79 = .ok (.iload 5, 2) := by decide +kernel
theorem dX3_gainOf_81 : decode cX3_gainOf 81 = .ok (.invokestatic 76, 3) := by decide +kernel
theorem dX3_gainOf_84 : decode cX3_gainOf 84 = .ok (.ireturn, 1) := by decide +kernel
theorem dX3_gainOf_85 : decode cX3_gainOf 85 = .ok (.iload_n 2, 1) := by decide +kernel
theorem dX3_gainOf_86 : decode cX3_gainOf 86 = .ok (.ifCond .eq 8, 3) := by decide +kernel
theorem dX3_gainOf_89 : decode cX3_gainOf 89 = .ok (.iload_n 2, 1) := by decide +kernel
theorem dX3_gainOf_90 : decode cX3_gainOf 90 = .ok (.iconst 5, 1) := by decide +kernel
theorem dX3_gainOf_91 : decode cX3_gainOf 91 = .ok (.if_icmp .ne 9, 3) := by decide +kernel
theorem dX3_gainOf_94 : decode cX3_gainOf 94 = .ok (.iload_n 3, 1) := by decide +kernel
theorem dX3_gainOf_95 : decode cX3_gainOf 95 = .ok (.iconst 3, 1) := by decide +kernel
theorem dX3_gainOf_96 : decode cX3_gainOf 96 = .ok (.iadd, 1) := by decide +kernel
theorem dX3_gainOf_97 : decode cX3_gainOf 97 = .ok (.goto 4, 3) := by decide +kernel
theorem dX3_gainOf_100 : decode cX3_gainOf 100 = .ok (.iload_n 3, 1) := by decide +kernel
theorem dX3_gainOf_101 : decode cX3_gainOf 101 = .ok (.istore 5, 2) := by decide +kernel
theorem dX3_gainOf_103 : decode cX3_gainOf 103 = .ok (.iload 4, 2) := by decide +kernel
theorem dX3_gainOf_105 : decode cX3_gainOf 105 = .ok (.iconst 4, 1) := by decide +kernel
theorem dX3_gainOf_106 : decode cX3_gainOf 106 = .ok (.if_icmp .ne 26, 3) := by decide +kernel
theorem dX3_gainOf_109 : decode cX3_gainOf 109 = .ok (.iload 5, 2) := by decide +kernel
theorem dX3_gainOf_111 : decode cX3_gainOf 111 = .ok (.iconst 2, 1) := by decide +kernel
theorem dX3_gainOf_112 : decode cX3_gainOf 112 = .ok (.aload_n 0, 1) := by decide +kernel
theorem dX3_gainOf_113 : decode cX3_gainOf 113 = .ok (.iload_n 2, 1) := by decide +kernel
theorem dX3_gainOf_114 : decode cX3_gainOf 114 = .ok (.iconst 1, 1) := by decide +kernel
theorem dX3_gainOf_115 : decode cX3_gainOf 115 = .ok (.isub, 1) := by decide +kernel
theorem dX3_gainOf_116 : decode cX3_gainOf 116 = .ok (.invokevirtual 79, 3) := by decide +kernel
theorem dX3_gainOf_119 : decode cX3_gainOf 119 = .ok (.aload_n 0, 1) := by decide +kernel
theorem dX3_gainOf_120 : decode cX3_gainOf 120 = .ok (.iload_n 2, 1) := by decide +kernel
theorem dX3_gainOf_121 : decode cX3_gainOf 121 = .ok (.iconst 1, 1) := by decide +kernel
theorem dX3_gainOf_122 : decode cX3_gainOf 122 = .ok (.iadd, 1) := by decide +kernel
theorem dX3_gainOf_123 : decode cX3_gainOf 123 = .ok (.invokevirtual 79, 3) := by decide +kernel
theorem dX3_gainOf_126 : decode cX3_gainOf 126 = .ok (.iadd, 1) := by decide +kernel
theorem dX3_gainOf_127 : decode cX3_gainOf 127 = .ok (.imul, 1) := by decide +kernel
theorem dX3_gainOf_128 : decode cX3_gainOf 128 = .ok (.iadd, 1) := by decide +kernel
theorem dX3_gainOf_129 : decode cX3_gainOf 129 = .ok (.goto 5, 3) := by decide +kernel
theorem dX3_gainOf_132 : decode cX3_gainOf 132 = .ok (.iload 5, 2) := by decide +kernel
theorem dX3_gainOf_134 : decode cX3_gainOf 134 = .ok (.ireturn, 1) := by decide +kernel
theorem dX3_passDay_0 : decode cX3_passDay 0 = .ok (.iconst 0, 1) := by decide +kernel
theorem dX3_passDay_1 : decode cX3_passDay 1 = .ok (.istore_n 1, 1) := by decide +kernel
theorem dX3_passDay_2 : decode cX3_passDay 2 = .ok (.iload_n 1, 1) := by decide +kernel
theorem dX3_passDay_3 : decode cX3_passDay 3 = .ok (.aload_n 0, 1) := by decide +kernel
theorem dX3_passDay_4 : decode cX3_passDay 4 = .ok (.getfield 46, 3) := by decide +kernel
theorem dX3_passDay_7 : decode cX3_passDay 7 = .ok (.if_icmp .ge 58, 3) := by decide +kernel
theorem dX3_passDay_10 : decode cX3_passDay 10 = .ok (.aload_n 0, 1) := by decide +kernel
theorem dX3_passDay_11 : decode cX3_passDay 11 = .ok (.iload_n 1, 1) := by decide +kernel
theorem dX3_passDay_12 : decode cX3_passDay 12 = .ok (.invokevirtual 59, 3) := by decide +kernel
theorem dX3_passDay_15 : decode cX3_passDay 15 = .ok (.ifCond .eq 13, 3) := by decide +kernel
theorem dX3_passDay_18 : decode cX3_passDay 18 = .ok (.aload_n 0, 1) := by decide +kernel
theorem dX3_passDay_19 : decode cX3_passDay 19 = .ok (.getfield 33, 3) := by decide +kernel
theorem dX3_passDay_22 : decode cX3_passDay 22 = .ok (.iload_n 1, 1) := by decide +kernel
theorem dX3_passDay_23 : decode cX3_passDay 23 = .ok (.iconst 0, 1) := by decide +kernel
theorem dX3_passDay_24 : decode cX3_passDay 24 = .ok (.iastore, 1) := by decide +kernel
theorem dX3_passDay_25 : decode cX3_passDay 25 = .ok (.goto 34, 3) := by decide +kernel
theorem dX3_passDay_28 : decode cX3_passDay 28 = .ok (.aload_n 0, 1) := by decide +kernel
theorem dX3_passDay_29 : decode cX3_passDay 29 = .ok (.getfield 33, 3) := by decide +kernel
theorem dX3_passDay_32 : decode cX3_passDay 32 = .ok (.iload_n 1, 1) := by decide +kernel
theorem dX3_passDay_33 : decode cX3_passDay 33 = .ok (.aload_n 0, 1) := by decide +kernel
theorem dX3_passDay_34 : decode cX3_passDay 34 = .ok (.iload_n 1, 1) := by decide +kernel
theorem dX3_passDay_35 : decode cX3_passDay 35 = .ok (.invokevirtual 82, 3) := by decide +kernel
theorem dX3_passDay_38 : decode cX3_passDay 38 = .ok (.iastore, 1) := by decide +kernel
theorem dX3_passDay_39 : decode cX3_passDay 39 = .ok (.aload_n 0, 1) := by decide +kernel
theorem dX3_passDay_40 : decode cX3_passDay 40 = .ok (.dup, 1) := by decide +kernel
theorem dX3_passDay_41 : decode cX3_passDay 41 = .ok (.getfield 52, 3) := by decide +kernel
theorem dX3_passDay_44 : decode cX3_passDay 44 = .ok (.aload_n 0, 1) := by decide +kernel
theorem dX3_passDay_45 : decode cX3_passDay 45 = .ok (.getfield 30, 3) := by decide +kernel
theorem dX3_passDay_48 : decode cX3_passDay 48 = .ok (.aload_n 0, 1) := by decide +kernel
theorem dX3_passDay_49 : decode cX3_passDay 49 = .ok (.getfield 18, 3) := by decide +kernel
theorem dX3_passDay_52 : decode cX3_passDay 52 = .ok (.iload_n 1, 1) := by decide +kernel
theorem dX3_passDay_53 : decode cX3_passDay 53 = .ok (.iaload, 1) := by decide +kernel
theorem dX3_passDay_54 : decode cX3_passDay 54 = .ok (.iaload, 1) := by decide +kernel
theorem dX3_passDay_55 : decode cX3_passDay 55 = .ok (.iadd, 1) := by decide +kernel
theorem dX3_passDay_56 : decode cX3_passDay 56 = .ok (.putfield 52, 3) := by decide +kernel
theorem dX3_passDay_59 : decode cX3_passDay 59 = .ok (.iinc 1 1, 3) := by decide +kernel
theorem dX3_passDay_62 : decode cX3_passDay 62 = .ok (.goto (-60), 3) := by decide +kernel
theorem dX3_passDay_65 : decode cX3_passDay 65 = .ok (.iconst 0, 1) := by decide +kernel
theorem dX3_passDay_66 : decode cX3_passDay 66 = .ok (.istore_n 1, 1) := by decide +kernel
theorem dX3_passDay_67 : decode cX3_passDay 67 = .ok (.iload_n 1, 1) := by decide +kernel
theorem dX3_passDay_68 : decode cX3_passDay 68 = .ok (.aload_n 0, 1) := by decide +kernel
theorem dX3_passDay_69 : decode cX3_passDay 69 = .ok (.getfield 46, 3) := by decide +kernel
theorem dX3_passDay_72 : decode cX3_passDay 72 = .ok (.if_icmp .ge 33, 3) := by decide +kernel
theorem dX3_passDay_75 : decode cX3_passDay 75 = .ok (.aload_n 0, 1) := by decide +kernel
theorem dX3_passDay_76 : decode cX3_passDay 76 = .ok (.getfield 15, 3) := by decide +kernel
theorem dX3_passDay_79 : decode cX3_passDay 79 = .ok (.iload_n 1, 1) := by decide +kernel
theorem dX3_passDay_80 : decode cX3_passDay 80 = .ok (.bipush 99, 2) := by decide +kernel
theorem dX3_passDay_82 : decode cX3_passDay 82 = .ok (.aload_n 0, 1) := by decide +kernel
theorem dX3_passDay_83 : decode cX3_passDay 83 = .ok (.getfield 15, 3) := by decide +kernel
theorem dX3_passDay_86 : decode cX3_passDay 86 = .ok (.iload_n 1, 1) := by decide +kernel
theorem dX3_passDay_87 : decode cX3_passDay 87 = .ok (.iaload, 1) := by decide +kernel
theorem dX3_passDay_88 : decode cX3_passDay 88 = .ok (.aload_n 0, 1) := by decide +kernel
theorem dX3_passDay_89 : decode cX3_passDay 89 = .ok (.getfield 33, 3) := by decide +kernel
theorem dX3_passDay_92 : decode cX3_passDay 92 = .ok (.iload_n 1, 1) := by decide +kernel
theorem dX3_passDay_93 : decode cX3_passDay 93 = .ok (.iaload, 1) := by decide +kernel
theorem dX3_passDay_94 : decode cX3_passDay 94 = .ok (.iadd, 1) := by decide +kernel
theorem dX3_passDay_95 : decode cX3_passDay 95 = .ok (.invokestatic 76, 3) := by decide +kernel
theorem dX3_passDay_98 : decode cX3_passDay 98 = .ok (.iastore, 1) := by decide +kernel
theorem dX3_passDay_99 : decode cX3_passDay 99 = .ok (.iinc 1 1, 3) := by decide +kernel
theorem dX3_passDay_102 : decode cX3_passDay 102 = .ok (.goto (-35), 3) := by decide +kernel
theorem dX3_passDay_105 : decode cX3_passDay 105 = .ok (.aload_n 0, 1) := by decide +kernel
theorem dX3_passDay_106 : decode cX3_passDay 106 = .ok (.dup, 1) := by decide +kernel
theorem dX3_passDay_107 : decode cX3_passDay 107 = .ok (.getfield 49, 3) := by decide +kernel
theorem dX3_passDay_110 : decode cX3_passDay 110 = .ok (.iconst 1, 1) := by decide +kernel
theorem dX3_passDay_111 : decode cX3_passDay 111 = .ok (.iadd, 1) := by decide +kernel
theorem dX3_passDay_112 : decode cX3_passDay 112 = .ok (.putfield 49, 3) := by decide +kernel
theorem dX3_passDay_115 : decode cX3_passDay 115 = .ok (.return_, 1) := by decide +kernel
theorem dX3_passDays_0 : decode cX3_passDays 0 = .ok (.iconst 0, 1) := by decide +kernel
theorem dX3_passDays_1 : decode cX3_passDays 1 = .ok (.istore_n 2, 1) := by decide +kernel
theorem dX3_passDays_2 : decode cX3_passDays 2 = .ok (.iload_n 2, 1) := by decide +kernel
theorem dX3_passDays_3 : decode cX3_passDays 3 = .ok (.iload_n 1, 1) := by decide +kernel
theorem dX3_passDays_4 : decode cX3_passDays 4 = .ok (.if_icmp .ge 13, 3) := by decide +kernel
theorem dX3_passDays_7 : decode cX3_passDays 7 = .ok (.aload_n 0, 1) := by decide +kernel
theorem dX3_passDays_8 : decode cX3_passDays 8 = .ok (.invokevirtual 85, 3) := by decide +kernel
theorem dX3_passDays_11 : decode cX3_passDays 11 = .ok (.iinc 2 1, 3) := by decide +kernel
theorem dX3_passDays_14 : decode cX3_passDays 14 = .ok (.goto (-12), 3) := by decide +kernel
theorem dX3_passDays_17 : decode cX3_passDays 17 = .ok (.return_, 1) := by decide +kernel
theorem dX3_usedAtLeast_0 : decode cX3_usedAtLeast 0 = .ok (.aload_n 0, 1) := by decide +kernel
theorem dX3_usedAtLeast_1 : decode cX3_usedAtLeast 1 = .ok (.iload_n 1, 1) := by decide +kernel
theorem dX3_usedAtLeast_2 : decode cX3_usedAtLeast 2 = .ok (.invokevirtual 59, 3) := by decide +kernel
theorem dX3_usedAtLeast_5 : decode cX3_usedAtLeast 5 = .ok (.ifCond .eq 8, 3) := by decide +kernel
theorem dX3_usedAtLeast_8 : decode cX3_usedAtLeast 8 = .ok (.bipush 99, 2) := by decide +kernel
theorem dX3_usedAtLeast_10 : decode cX3_usedAtLeast 10 = .ok (.goto 22, 3) := by decide +kernel
theorem dX3_usedAtLeast_13 : decode cX3_usedAtLeast 13 = .ok (.bipush 99, 2) := by decide +kernel
theorem dX3_usedAtLeast_15 : decode cX3_usedAtLeast 15 = .ok (.aload_n 0, 1) := by decide +kernel
theorem dX3_usedAtLeast_16 : decode cX3_usedAtLeast 16 = .ok (.getfield 15, 3) := by decide +kernel
theorem dX3_usedAtLeast_19 : decode cX3_usedAtLeast 19 = .ok (.iload_n 1, 1) := by decide +kernel
theorem dX3_usedAtLeast_20 : decode cX3_usedAtLeast 20 = .ok (.iaload, 1) := by decide +kernel
theorem dX3_usedAtLeast_21 : decode cX3_usedAtLeast 21 = .ok (.iload_n 2, 1) := by decide +kernel
theorem dX3_usedAtLeast_22 : decode cX3_usedAtLeast 22 = .ok (.aload_n 0, 1) := by decide +kernel
theorem dX3_usedAtLeast_23 : decode cX3_usedAtLeast 23 = .ok (.iload_n 1, 1) := by decide +kernel
theorem dX3_usedAtLeast_24 : decode cX3_usedAtLeast 24 = .ok (.invokevirtual 82, 3) := by decide +kernel
theorem dX3_usedAtLeast_27 : decode cX3_usedAtLeast 27 = .ok (.imul, 1) := by decide +kernel
theorem dX3_usedAtLeast_28 : decode cX3_usedAtLeast 28 = .ok (.iadd, 1) := by decide +kernel
theorem dX3_usedAtLeast_29 : decode cX3_usedAtLeast 29 = .ok (.invokestatic 76, 3) := by decide +kernel
theorem dX3_usedAtLeast_32 : decode cX3_usedAtLeast 32 = .ok (.ireturn, 1) := by decide +kernel
theorem dX3_duesAtMost_0 : decode cX3_duesAtMost 0 = .ok (.iconst 0, 1) := by decide +kernel
theorem dX3_duesAtMost_1 : decode cX3_duesAtMost 1 = .ok (.istore_n 2, 1) := by decide +kernel
theorem dX3_duesAtMost_2 : decode cX3_duesAtMost 2 = .ok (.iconst 0, 1) := by decide +kernel
theorem dX3_duesAtMost_3 : decode cX3_duesAtMost 3 = .ok (.istore_n 3, 1) := by decide +kernel
theorem dX3_duesAtMost_4 : decode cX3_duesAtMost 4 = .ok (.iload_n 3, 1) := by decide +kernel
theorem dX3_duesAtMost_5 : decode cX3_duesAtMost 5 = .ok (.aload_n 0, 1) := by decide +kernel
theorem dX3_duesAtMost_6 : decode cX3_duesAtMost 6 = .ok (.getfield 46, 3) := by decide +kernel
theorem dX3_duesAtMost_9 : decode cX3_duesAtMost 9 = .ok (.if_icmp .ge 73, 3) := by decide +kernel
theorem dX3_duesAtMost_12 : decode cX3_duesAtMost 12 = .ok (.aload_n 0, 1) := by decide +kernel
theorem dX3_duesAtMost_13 : decode cX3_duesAtMost 13 = .ok (.iload_n 3, 1) := by decide +kernel
theorem dX3_duesAtMost_14 : decode cX3_duesAtMost 14 = .ok (.invokevirtual 59, 3) := by decide +kernel
theorem dX3_duesAtMost_17 : decode cX3_duesAtMost 17 = .ok (.ifCond .ne 59, 3) := by decide +kernel
theorem dX3_duesAtMost_20 : decode cX3_duesAtMost 20 = .ok (.aload_n 0, 1) := by decide +kernel
theorem dX3_duesAtMost_21 : decode cX3_duesAtMost 21 = .ok (.iload_n 3, 1) := by decide +kernel
theorem dX3_duesAtMost_22 : decode cX3_duesAtMost 22 = .ok (.invokevirtual 82, 3) := by decide +kernel
theorem dX3_duesAtMost_25 : decode cX3_duesAtMost 25 = .ok (.istore 4, 2) := by decide +kernel
theorem dX3_duesAtMost_27 : decode cX3_duesAtMost 27 = .ok (.iload 4, 2) := by decide +kernel
theorem dX3_duesAtMost_29 : decode cX3_duesAtMost 29 = .ok (.ifCond .le 23, 3) := by decide +kernel
theorem dX3_duesAtMost_32 : decode cX3_duesAtMost 32 = .ok (.bipush 99, 2) := by decide +kernel
theorem dX3_duesAtMost_34 : decode cX3_duesAtMost 34 = .ok (.aload_n 0, 1) := by decide +kernel
theorem dX3_duesAtMost_35 : decode cX3_duesAtMost 35 = .ok (.getfield 15, 3) := by decide +kernel
theorem dX3_duesAtMost_38 : decode cX3_duesAtMost 38 = .ok (.iload_n 3, 1) := by decide +kernel
theorem dX3_duesAtMost_39 : decode cX3_duesAtMost 39 = .ok (.iaload, 1) := by decide +kernel
theorem dX3_duesAtMost_40 : decode cX3_duesAtMost 40 = .ok (.isub, 1) := by decide +kernel
theorem dX3_duesAtMost_41 : decode cX3_duesAtMost 41 = .ok (.iload 4, 2) := by decide +kernel
theorem dX3_duesAtMost_43 : decode cX3_duesAtMost 43 = .ok (.iadd, 1) := by decide +kernel
theorem dX3_duesAtMost_44 : decode cX3_duesAtMost 44 = .ok (.iconst 1, 1) := by decide +kernel
theorem dX3_duesAtMost_45 : decode cX3_duesAtMost 45 = .ok (.isub, 1) := by decide +kernel
theorem dX3_duesAtMost_46 : decode cX3_duesAtMost 46 = .ok (.iload 4, 2) := by decide +kernel
theorem dX3_duesAtMost_48 : decode cX3_duesAtMost 48 = .ok (.idiv, 1) := by decide +kernel
theorem dX3_duesAtMost_49 : decode cX3_duesAtMost 49 = .ok (.goto 4, 3) := by decide +kernel
theorem dX3_duesAtMost_52 : decode cX3_duesAtMost 52 = .ok (.iload_n 1, 1) := by decide +kernel
theorem dX3_duesAtMost_53 : decode cX3_duesAtMost 53 = .ok (.istore 5, 2) := by decide +kernel
theorem dX3_duesAtMost_55 : decode cX3_duesAtMost 55 = .ok (.iload_n 2, 1) := by decide +kernel
theorem dX3_duesAtMost_56 : decode cX3_duesAtMost 56 = .ok (.aload_n 0, 1) := by decide +kernel
theorem dX3_duesAtMost_57 : decode cX3_duesAtMost 57 = .ok (.getfield 30, 3) := by decide +kernel
theorem dX3_duesAtMost_60 : decode cX3_duesAtMost 60 = .ok (.aload_n 0, 1) := by decide +kernel
theorem dX3_duesAtMost_61 : decode cX3_duesAtMost 61 = .ok (.getfield 18, 3) := by decide +kernel
theorem dX3_duesAtMost_64 : decode cX3_duesAtMost 64 = .ok (.iload_n 3, 1) := by decide +kernel
theorem dX3_duesAtMost_65 : decode cX3_duesAtMost 65 = .ok (.iaload, 1) := by decide +kernel
theorem dX3_duesAtMost_66 : decode cX3_duesAtMost 66 = .ok (.iaload, 1) := by decide +kernel
theorem dX3_duesAtMost_67 : decode cX3_duesAtMost 67 = .ok (.iload_n 1, 1) := by decide +kernel
theorem dX3_duesAtMost_68 : decode cX3_duesAtMost 68 = .ok (.iload 5, 2) := by decide +kernel
theorem dX3_duesAtMost_70 : decode cX3_duesAtMost 70 = .ok (.invokestatic 76, 3) := by decide +kernel
theorem dX3_duesAtMost_73 : decode cX3_duesAtMost 73 = .ok (.imul, 1) := by decide +kernel
theorem dX3_duesAtMost_74 : decode cX3_duesAtMost 74 = .ok (.iadd, 1) := by decide +kernel
theorem dX3_duesAtMost_75 : decode cX3_duesAtMost 75 = .ok (.istore_n 2, 1) := by decide +kernel
theorem dX3_duesAtMost_76 : decode cX3_duesAtMost 76 = .ok (.iinc 3 1, 3) := by decide +kernel
theorem dX3_duesAtMost_79 : decode cX3_duesAtMost 79 = .ok (.goto (-75), 3) := by decide +kernel
theorem dX3_duesAtMost_82 : decode cX3_duesAtMost 82 = .ok (.iload_n 2, 1) := by decide +kernel
theorem dX3_duesAtMost_83 : decode cX3_duesAtMost 83 = .ok (.ireturn, 1) := by decide +kernel
theorem dX3_talkTo_0 : decode cX3_talkTo 0 = .ok (.aload_n 0, 1) := by decide +kernel
theorem dX3_talkTo_1 : decode cX3_talkTo 1 = .ok (.iload_n 1, 1) := by decide +kernel
theorem dX3_talkTo_2 : decode cX3_talkTo 2 = .ok (.invokevirtual 59, 3) := by decide +kernel
theorem dX3_talkTo_5 : decode cX3_talkTo 5 = .ok (.ifCond .ne 21, 3) := by decide +kernel
theorem dX3_talkTo_8 : decode cX3_talkTo 8 = .ok (.aload_n 0, 1) := by decide +kernel
theorem dX3_talkTo_9 : decode cX3_talkTo 9 = .ok (.getfield 15, 3) := by decide +kernel
theorem dX3_talkTo_12 : decode cX3_talkTo 12 = .ok (.iload_n 1, 1) := by decide +kernel
theorem dX3_talkTo_13 : decode cX3_talkTo 13 = .ok (.iconst 0, 1) := by decide +kernel
theorem dX3_talkTo_14 : decode cX3_talkTo 14 = .ok (.aload_n 0, 1) := by decide +kernel
theorem dX3_talkTo_15 : decode cX3_talkTo 15 = .ok (.getfield 15, 3) := by decide +kernel
theorem dX3_talkTo_18 : decode cX3_talkTo 18 = .ok (.iload_n 1, 1) := by decide +kernel
theorem dX3_talkTo_19 : decode cX3_talkTo 19 = .ok (.iaload, 1) := by decide +kernel
theorem dX3_talkTo_20 : decode cX3_talkTo 20 = .ok (.iconst 5, 1) := by decide +kernel
theorem dX3_talkTo_21 : decode cX3_talkTo 21 = .ok (.isub, 1) := by decide +kernel
theorem dX3_talkTo_22 : decode cX3_talkTo 22 = .ok (.invokestatic 70, 3) := by decide +kernel
theorem dX3_talkTo_25 : decode cX3_talkTo 25 = .ok (.iastore, 1) := by decide +kernel
theorem dX3_talkTo_26 : decode cX3_talkTo 26 = .ok (.return_, 1) := by decide +kernel
theorem dX3_drawTalk_0 : decode cX3_drawTalk 0 = .ok (.aload_n 0, 1) := by decide +kernel
theorem dX3_drawTalk_1 : decode cX3_drawTalk 1 = .ok (.aload_n 0, 1) := by decide +kernel
theorem dX3_drawTalk_2 : decode cX3_drawTalk 2 = .ok (.getfield 36, 3) := by decide +kernel
theorem dX3_drawTalk_5 : decode cX3_drawTalk 5 = .ok (.ldc 88, 2) := by decide +kernel
theorem dX3_drawTalk_7 : decode cX3_drawTalk 7 = .ok (.imul, 1) := by decide +kernel
theorem dX3_drawTalk_8 : decode cX3_drawTalk 8 = .ok (.sipush 12345, 3) := by decide +kernel
theorem dX3_drawTalk_11 : decode cX3_drawTalk 11 = .ok (.iadd, 1) := by decide +kernel
theorem dX3_drawTalk_12 : decode cX3_drawTalk 12 = .ok (.ldc 89, 2) := by decide +kernel
theorem dX3_drawTalk_14 : decode cX3_drawTalk 14 = .ok (.iand, 1) := by decide +kernel
theorem dX3_drawTalk_15 : decode cX3_drawTalk 15 = .ok (.putfield 36, 3) := by decide +kernel
theorem dX3_drawTalk_18 : decode cX3_drawTalk 18 = .ok (.aload_n 0, 1) := by decide +kernel
theorem dX3_drawTalk_19 : decode cX3_drawTalk 19 = .ok (.getfield 36, 3) := by decide +kernel
theorem dX3_drawTalk_22 : decode cX3_drawTalk 22 = .ok (.ldc 90, 2) := by decide +kernel
theorem dX3_drawTalk_24 : decode cX3_drawTalk 24 = .ok (.idiv, 1) := by decide +kernel
theorem dX3_drawTalk_25 : decode cX3_drawTalk 25 = .ok (.iconst 3, 1) := by decide +kernel
theorem dX3_drawTalk_26 : decode cX3_drawTalk 26 = .ok (.irem, 1) := by decide +kernel
theorem dX3_drawTalk_27 : decode cX3_drawTalk 27 = .ok (.ifCond .ne 27, 3) := by decide +kernel
theorem dX3_drawTalk_30 : decode cX3_drawTalk 30 = .ok (.aload_n 0, 1) := by decide +kernel
theorem dX3_drawTalk_31 : decode cX3_drawTalk 31 = .ok (.getfield 46, 3) := by decide +kernel
theorem dX3_drawTalk_34 : decode cX3_drawTalk 34 = .ok (.ifCond .le 20, 3) := by decide +kernel
theorem dX3_drawTalk_37 : decode cX3_drawTalk 37 = .ok (.aload_n 0, 1) := by decide +kernel
theorem dX3_drawTalk_38 : decode cX3_drawTalk 38 = .ok (.aload_n 0, 1) := by decide +kernel
theorem dX3_drawTalk_39 : decode cX3_drawTalk 39 = .ok (.getfield 36, 3) := by decide +kernel
theorem dX3_drawTalk_42 : decode cX3_drawTalk 42 = .ok (.sipush 128, 3) := by decide +kernel
theorem dX3_drawTalk_45 : decode cX3_drawTalk 45 = .ok (.idiv, 1) := by decide +kernel
theorem dX3_drawTalk_46 : decode cX3_drawTalk 46 = .ok (.aload_n 0, 1) := by decide +kernel
theorem dX3_drawTalk_47 : decode cX3_drawTalk 47 = .ok (.getfield 46, 3) := by decide +kernel
theorem dX3_drawTalk_50 : decode cX3_drawTalk 50 = .ok (.irem, 1) := by decide +kernel
theorem dX3_drawTalk_51 : decode cX3_drawTalk 51 = .ok (.invokevirtual 91, 3) := by decide +kernel
theorem dX3_drawTalk_54 : decode cX3_drawTalk 54 = .ok (.return_, 1) := by decide +kernel
theorem dX3_usedTogether_0 : decode cX3_usedTogether 0 = .ok (.iconst 0, 1) := by decide +kernel
theorem dX3_usedTogether_1 : decode cX3_usedTogether 1 = .ok (.istore_n 1, 1) := by decide +kernel
theorem dX3_usedTogether_2 : decode cX3_usedTogether 2 = .ok (.iconst 0, 1) := by decide +kernel
theorem dX3_usedTogether_3 : decode cX3_usedTogether 3 = .ok (.istore_n 2, 1) := by decide +kernel
theorem dX3_usedTogether_4 : decode cX3_usedTogether 4 = .ok (.iload_n 2, 1) := by decide +kernel
theorem dX3_usedTogether_5 : decode cX3_usedTogether 5 = .ok (.aload_n 0, 1) := by decide +kernel
theorem dX3_usedTogether_6 : decode cX3_usedTogether 6 = .ok (.getfield 46, 3) := by decide +kernel
theorem dX3_usedTogether_9 : decode cX3_usedTogether 9 = .ok (.if_icmp .ge 18, 3) := by decide +kernel
theorem dX3_usedTogether_12 : decode cX3_usedTogether 12 = .ok (.iload_n 1, 1) := by decide +kernel
theorem dX3_usedTogether_13 : decode cX3_usedTogether 13 = .ok (.aload_n 0, 1) := by decide +kernel
theorem dX3_usedTogether_14 : decode cX3_usedTogether 14 = .ok (.getfield 15, 3) := by decide +kernel
theorem dX3_usedTogether_17 : decode cX3_usedTogether 17 = .ok (.iload_n 2, 1) := by decide +kernel
theorem dX3_usedTogether_18 : decode cX3_usedTogether 18 = .ok (.iaload, 1) := by decide +kernel
theorem dX3_usedTogether_19 : decode cX3_usedTogether 19 = .ok (.iadd, 1) := by decide +kernel
theorem dX3_usedTogether_20 : decode cX3_usedTogether 20 = .ok (.istore_n 1, 1) := by decide +kernel
theorem dX3_usedTogether_21 : decode cX3_usedTogether 21 = .ok (.iinc 2 1, 3) := by decide +kernel
theorem dX3_usedTogether_24 : decode cX3_usedTogether 24 = .ok (.goto (-20), 3) := by decide +kernel
theorem dX3_usedTogether_27 : decode cX3_usedTogether 27 = .ok (.iload_n 1, 1) := by decide +kernel
theorem dX3_usedTogether_28 : decode cX3_usedTogether 28 = .ok (.ireturn, 1) := by decide +kernel
theorem dX3_farFrom_0 : decode cX3_farFrom 0 = .ok (.iload_n 2, 1) := by decide +kernel
theorem dX3_farFrom_1 : decode cX3_farFrom 1 = .ok (.aload_n 0, 1) := by decide +kernel
theorem dX3_farFrom_2 : decode cX3_farFrom 2 = .ok (.getfield 21, 3) := by decide +kernel
theorem dX3_farFrom_5 : decode cX3_farFrom 5 = .ok (.iload_n 1, 1) := by decide +kernel
theorem dX3_farFrom_6 : decode cX3_farFrom 6 = .ok (.iaload, 1) := by decide +kernel
theorem dX3_farFrom_7 : decode cX3_farFrom 7 = .ok (.isub, 1) := by decide +kernel
theorem dX3_farFrom_8 : decode cX3_farFrom 8 = .ok (.invokestatic 95, 3) := by decide +kernel
theorem dX3_farFrom_11 : decode cX3_farFrom 11 = .ok (.ireturn, 1) := by decide +kernel
theorem dX3_farTogether_0 : decode cX3_farTogether 0 = .ok (.iconst 0, 1) := by decide +kernel
theorem dX3_farTogether_1 : decode cX3_farTogether 1 = .ok (.istore_n 1, 1) := by decide +kernel
theorem dX3_farTogether_2 : decode cX3_farTogether 2 = .ok (.iconst 0, 1) := by decide +kernel
theorem dX3_farTogether_3 : decode cX3_farTogether 3 = .ok (.istore_n 2, 1) := by decide +kernel
theorem dX3_farTogether_4 : decode cX3_farTogether 4 = .ok (.iload_n 2, 1) := by decide +kernel
theorem dX3_farTogether_5 : decode cX3_farTogether 5 = .ok (.aload_n 0, 1) := by decide +kernel
theorem dX3_farTogether_6 : decode cX3_farTogether 6 = .ok (.getfield 46, 3) := by decide +kernel
theorem dX3_farTogether_9 : decode cX3_farTogether 9 = .ok (.if_icmp .ge 23, 3) := by decide +kernel
theorem dX3_farTogether_12 : decode cX3_farTogether 12 = .ok (.iload_n 1, 1) := by decide +kernel
theorem dX3_farTogether_13 : decode cX3_farTogether 13 = .ok (.aload_n 0, 1) := by decide +kernel
theorem dX3_farTogether_14 : decode cX3_farTogether 14 = .ok (.iload_n 2, 1) := by decide +kernel
theorem dX3_farTogether_15 : decode cX3_farTogether 15 = .ok (.aload_n 0, 1) := by decide +kernel
theorem dX3_farTogether_16 : decode cX3_farTogether 16 = .ok (.getfield 18, 3) := by decide +kernel
theorem dX3_farTogether_19 : decode cX3_farTogether 19 = .ok (.iload_n 2, 1) := by decide +kernel
theorem dX3_farTogether_20 : decode cX3_farTogether 20 = .ok (.iaload, 1) := by decide +kernel
theorem dX3_farTogether_21 : decode cX3_farTogether 21 = .ok (.invokevirtual 98, 3) := by decide +kernel
theorem dX3_farTogether_24 : decode cX3_farTogether 24 = .ok (.iadd, 1) := by decide +kernel
theorem dX3_farTogether_25 : decode cX3_farTogether 25 = .ok (.istore_n 1, 1) := by decide +kernel
theorem dX3_farTogether_26 : decode cX3_farTogether 26 = .ok (.iinc 2 1, 3) := by decide +kernel
theorem dX3_farTogether_29 : decode cX3_farTogether 29 = .ok (.goto (-25), 3) := by decide +kernel
theorem dX3_farTogether_32 : decode cX3_farTogether 32 = .ok (.iload_n 1, 1) := by decide +kernel
theorem dX3_farTogether_33 : decode cX3_farTogether 33 = .ok (.ireturn, 1) := by decide +kernel
theorem dX3_wouldSwap_0 : decode cX3_wouldSwap 0 = .ok (.aload_n 0, 1) := by decide +kernel
theorem dX3_wouldSwap_1 : decode cX3_wouldSwap 1 = .ok (.iload_n 1, 1) := by decide +kernel
theorem dX3_wouldSwap_2 : decode cX3_wouldSwap 2 = .ok (.aload_n 0, 1) := by decide +kernel
theorem dX3_wouldSwap_3 : decode cX3_wouldSwap 3 = .ok (.getfield 18, 3) := by decide +kernel
theorem dX3_wouldSwap_6 : decode cX3_wouldSwap 6 = .ok (.iload_n 2, 1) := by decide +kernel
theorem dX3_wouldSwap_7 : decode cX3_wouldSwap 7 = .ok (.iaload, 1) := by decide +kernel
theorem dX3_wouldSwap_8 : decode cX3_wouldSwap 8 = .ok (.invokevirtual 98, 3) := by decide +kernel
theorem dX3_wouldSwap_11 : decode cX3_wouldSwap 11 = .ok (.aload_n 0, 1) := by decide +kernel
theorem dX3_wouldSwap_12 : decode cX3_wouldSwap 12 = .ok (.iload_n 1, 1) := by decide +kernel
theorem dX3_wouldSwap_13 : decode cX3_wouldSwap 13 = .ok (.aload_n 0, 1) := by decide +kernel
theorem dX3_wouldSwap_14 : decode cX3_wouldSwap 14 = .ok (.getfield 18, 3) := by decide +kernel
theorem dX3_wouldSwap_17 : decode cX3_wouldSwap 17 = .ok (.iload_n 1, 1) := by decide +kernel
theorem dX3_wouldSwap_18 : decode cX3_wouldSwap 18 = .ok (.iaload, 1) := by decide +kernel
theorem dX3_wouldSwap_19 : decode cX3_wouldSwap 19 = .ok (.invokevirtual 98, 3) := by decide +kernel
theorem dX3_wouldSwap_22 : decode cX3_wouldSwap 22 = .ok (.if_icmp .ge 32, 3) := by decide +kernel
theorem dX3_wouldSwap_25 : decode cX3_wouldSwap 25 = .ok (.aload_n 0, 1) := by decide +kernel
theorem dX3_wouldSwap_26 : decode cX3_wouldSwap 26 = .ok (.iload_n 2, 1) := by decide +kernel
theorem dX3_wouldSwap_27 : decode cX3_wouldSwap 27 = .ok (.aload_n 0, 1) := by decide +kernel
theorem dX3_wouldSwap_28 : decode cX3_wouldSwap 28 = .ok (.getfield 18, 3) := by decide +kernel
theorem dX3_wouldSwap_31 : decode cX3_wouldSwap 31 = .ok (.iload_n 1, 1) := by decide +kernel
theorem dX3_wouldSwap_32 : decode cX3_wouldSwap 32 = .ok (.iaload, 1) := by decide +kernel
theorem dX3_wouldSwap_33 : decode cX3_wouldSwap 33 = .ok (.invokevirtual 98, 3) := by decide +kernel
theorem dX3_wouldSwap_36 : decode cX3_wouldSwap 36 = .ok (.aload_n 0, 1) := by decide +kernel
theorem dX3_wouldSwap_37 : decode cX3_wouldSwap 37 = .ok (.iload_n 2, 1) := by decide +kernel
theorem dX3_wouldSwap_38 : decode cX3_wouldSwap 38 = .ok (.aload_n 0, 1) := by decide +kernel
theorem dX3_wouldSwap_39 : decode cX3_wouldSwap 39 = .ok (.getfield 18, 3) := by decide +kernel
theorem dX3_wouldSwap_42 : decode cX3_wouldSwap 42 = .ok (.iload_n 2, 1) := by decide +kernel
theorem dX3_wouldSwap_43 : decode cX3_wouldSwap 43 = .ok (.iaload, 1) := by decide +kernel
theorem dX3_wouldSwap_44 : decode cX3_wouldSwap 44 = .ok (.invokevirtual 98, 3) := by decide +kernel
theorem dX3_wouldSwap_47 : decode cX3_wouldSwap 47 = .ok (.if_icmp .ge 7, 3) := by decide +kernel
theorem dX3_wouldSwap_50 : decode cX3_wouldSwap 50 = .ok (.iconst 1, 1) := by decide +kernel
theorem dX3_wouldSwap_51 : decode cX3_wouldSwap 51 = .ok (.goto 4, 3) := by decide +kernel
theorem dX3_wouldSwap_54 : decode cX3_wouldSwap 54 = .ok (.iconst 0, 1) := by decide +kernel
theorem dX3_wouldSwap_55 : decode cX3_wouldSwap 55 = .ok (.ireturn, 1) := by decide +kernel
theorem dX3_countSwaps_0 : decode cX3_countSwaps 0 = .ok (.iconst 0, 1) := by decide +kernel
theorem dX3_countSwaps_1 : decode cX3_countSwaps 1 = .ok (.istore_n 1, 1) := by decide +kernel
theorem dX3_countSwaps_2 : decode cX3_countSwaps 2 = .ok (.iconst 0, 1) := by decide +kernel
theorem dX3_countSwaps_3 : decode cX3_countSwaps 3 = .ok (.istore_n 2, 1) := by decide +kernel
theorem dX3_countSwaps_4 : decode cX3_countSwaps 4 = .ok (.iload_n 2, 1) := by decide +kernel
theorem dX3_countSwaps_5 : decode cX3_countSwaps 5 = .ok (.aload_n 0, 1) := by decide +kernel
theorem dX3_countSwaps_6 : decode cX3_countSwaps 6 = .ok (.getfield 46, 3) := by decide +kernel
theorem dX3_countSwaps_9 : decode cX3_countSwaps 9 = .ok (.if_icmp .ge 39, 3) := by decide +kernel
theorem dX3_countSwaps_12 : decode cX3_countSwaps 12 = .ok (.iload_n 2, 1) := by decide +kernel
theorem dX3_countSwaps_13 : decode cX3_countSwaps 13 = .ok (.iconst 1, 1) := by decide +kernel
theorem dX3_countSwaps_14 : decode cX3_countSwaps 14 = .ok (.iadd, 1) := by decide +kernel
theorem dX3_countSwaps_15 : decode cX3_countSwaps 15 = .ok (.istore_n 3, 1) := by decide +kernel
theorem dX3_countSwaps_16 : decode cX3_countSwaps 16 = .ok (.iload_n 3, 1) := by decide +kernel
theorem dX3_countSwaps_17 : decode cX3_countSwaps 17 = .ok (.aload_n 0, 1) := by decide +kernel
theorem dX3_countSwaps_18 : decode cX3_countSwaps 18 = .ok (.getfield 46, 3) := by decide +kernel
theorem dX3_countSwaps_21 : decode cX3_countSwaps 21 = .ok (.if_icmp .ge 21, 3) := by decide +kernel
theorem dX3_countSwaps_24 : decode cX3_countSwaps 24 = .ok (.aload_n 0, 1) := by decide +kernel
theorem dX3_countSwaps_25 : decode cX3_countSwaps 25 = .ok (.iload_n 2, 1) := by decide +kernel
theorem dX3_countSwaps_26 : decode cX3_countSwaps 26 = .ok (.iload_n 3, 1) := by decide +kernel
theorem dX3_countSwaps_27 : decode cX3_countSwaps 27 = .ok (.invokevirtual 101, 3) := by decide +kernel
theorem dX3_countSwaps_30 : decode cX3_countSwaps 30 = .ok (.ifCond .eq 6, 3) := by decide +kernel
theorem dX3_countSwaps_33 : decode cX3_countSwaps 33 = .ok (.iinc 1 1, 3) := by decide +kernel
theorem dX3_countSwaps_36 : decode cX3_countSwaps 36 = .ok (.iinc 3 1, 3) := by decide +kernel
theorem dX3_countSwaps_39 : decode cX3_countSwaps 39 = .ok (.goto (-23), 3) := by decide +kernel
theorem dX3_countSwaps_42 : decode cX3_countSwaps 42 = .ok (.iinc 2 1, 3) := by decide +kernel
theorem dX3_countSwaps_45 : decode cX3_countSwaps 45 = .ok (.goto (-41), 3) := by decide +kernel
theorem dX3_countSwaps_48 : decode cX3_countSwaps 48 = .ok (.iload_n 1, 1) := by decide +kernel
theorem dX3_countSwaps_49 : decode cX3_countSwaps 49 = .ok (.ireturn, 1) := by decide +kernel
theorem dX3_firstSwap_0 : decode cX3_firstSwap 0 = .ok (.iconst 0, 1) := by decide +kernel
theorem dX3_firstSwap_1 : decode cX3_firstSwap 1 = .ok (.istore_n 1, 1) := by decide +kernel
theorem dX3_firstSwap_2 : decode cX3_firstSwap 2 = .ok (.iload_n 1, 1) := by decide +kernel
theorem dX3_firstSwap_3 : decode cX3_firstSwap 3 = .ok (.aload_n 0, 1) := by decide +kernel
theorem dX3_firstSwap_4 : decode cX3_firstSwap 4 = .ok (.getfield 46, 3) := by decide +kernel
theorem dX3_firstSwap_7 : decode cX3_firstSwap 7 = .ok (.if_icmp .ge 43, 3) := by decide +kernel
theorem dX3_firstSwap_10 : decode cX3_firstSwap 10 = .ok (.iload_n 1, 1) := by decide +kernel
theorem dX3_firstSwap_11 : decode cX3_firstSwap 11 = .ok (.iconst 1, 1) := by decide +kernel
theorem dX3_firstSwap_12 : decode cX3_firstSwap 12 = .ok (.iadd, 1) := by decide +kernel
theorem dX3_firstSwap_13 : decode cX3_firstSwap 13 = .ok (.istore_n 2, 1) := by decide +kernel
theorem dX3_firstSwap_14 : decode cX3_firstSwap 14 = .ok (.iload_n 2, 1) := by decide +kernel
theorem dX3_firstSwap_15 : decode cX3_firstSwap 15 = .ok (.aload_n 0, 1) := by decide +kernel
theorem dX3_firstSwap_16 : decode cX3_firstSwap 16 = .ok (.getfield 46, 3) := by decide +kernel
theorem dX3_firstSwap_19 : decode cX3_firstSwap 19 = .ok (.if_icmp .ge 25, 3) := by decide +kernel
theorem dX3_firstSwap_22 : decode cX3_firstSwap 22 = .ok (.aload_n 0, 1) := by decide +kernel
theorem dX3_firstSwap_23 : decode cX3_firstSwap 23 = .ok (.iload_n 1, 1) := by decide +kernel
theorem dX3_firstSwap_24 : decode cX3_firstSwap 24 = .ok (.iload_n 2, 1) := by decide +kernel
theorem dX3_firstSwap_25 : decode cX3_firstSwap 25 = .ok (.invokevirtual 101, 3) := by decide +kernel
theorem dX3_firstSwap_28 : decode cX3_firstSwap 28 = .ok (.ifCond .eq 10, 3) := by decide +kernel
theorem dX3_firstSwap_31 : decode cX3_firstSwap 31 = .ok (.bipush 10, 2) := by decide +kernel
theorem dX3_firstSwap_33 : decode cX3_firstSwap 33 = .ok (.iload_n 1, 1) := by decide +kernel
theorem dX3_firstSwap_34 : decode cX3_firstSwap 34 = .ok (.imul, 1) := by decide +kernel
theorem dX3_firstSwap_35 : decode cX3_firstSwap 35 = .ok (.iload_n 2, 1) := by decide +kernel
theorem dX3_firstSwap_36 : decode cX3_firstSwap 36 = .ok (.iadd, 1) := by decide +kernel
theorem dX3_firstSwap_37 : decode cX3_firstSwap 37 = .ok (.ireturn, 1) := by decide +kernel
theorem dX3_firstSwap_38 : decode cX3_firstSwap 38 = .ok (.iinc 2 1, 3) := by decide +kernel
theorem dX3_firstSwap_41 : decode cX3_firstSwap 41 = .ok (.goto (-27), 3) := by decide +kernel
theorem dX3_firstSwap_44 : decode cX3_firstSwap 44 = .ok (.iinc 1 1, 3) := by decide +kernel
theorem dX3_firstSwap_47 : decode cX3_firstSwap 47 = .ok (.goto (-45), 3) := by decide +kernel
theorem dX3_firstSwap_50 : decode cX3_firstSwap 50 = .ok (.bipush (-4), 2) := by decide +kernel
theorem dX3_firstSwap_52 : decode cX3_firstSwap 52 = .ok (.ireturn, 1) := by decide +kernel
theorem dX3_firstAlike_0 : decode cX3_firstAlike 0 = .ok (.iconst 0, 1) := by decide +kernel
theorem dX3_firstAlike_1 : decode cX3_firstAlike 1 = .ok (.istore_n 1, 1) := by decide +kernel
theorem dX3_firstAlike_2 : decode cX3_firstAlike 2 = .ok (.iload_n 1, 1) := by decide +kernel
theorem dX3_firstAlike_3 : decode cX3_firstAlike 3 = .ok (.aload_n 0, 1) := by decide +kernel
theorem dX3_firstAlike_4 : decode cX3_firstAlike 4 = .ok (.getfield 46, 3) := by decide +kernel
theorem dX3_firstAlike_7 : decode cX3_firstAlike 7 = .ok (.if_icmp .ge 77, 3) := by decide +kernel
theorem dX3_firstAlike_10 : decode cX3_firstAlike 10 = .ok (.iload_n 1, 1) := by decide +kernel
theorem dX3_firstAlike_11 : decode cX3_firstAlike 11 = .ok (.iconst 1, 1) := by decide +kernel
theorem dX3_firstAlike_12 : decode cX3_firstAlike 12 = .ok (.iadd, 1) := by decide +kernel
theorem dX3_firstAlike_13 : decode cX3_firstAlike 13 = .ok (.istore_n 2, 1) := by decide +kernel
theorem dX3_firstAlike_14 : decode cX3_firstAlike 14 = .ok (.iload_n 2, 1) := by decide +kernel
theorem dX3_firstAlike_15 : decode cX3_firstAlike 15 = .ok (.aload_n 0, 1) := by decide +kernel
theorem dX3_firstAlike_16 : decode cX3_firstAlike 16 = .ok (.getfield 46, 3) := by decide +kernel
theorem dX3_firstAlike_19 : decode cX3_firstAlike 19 = .ok (.if_icmp .ge 59, 3) := by decide +kernel
theorem dX3_firstAlike_22 : decode cX3_firstAlike 22 = .ok (.aload_n 0, 1) := by decide +kernel
theorem dX3_firstAlike_23 : decode cX3_firstAlike 23 = .ok (.getfield 15, 3) := by decide +kernel
theorem dX3_firstAlike_26 : decode cX3_firstAlike 26 = .ok (.iload_n 1, 1) := by decide +kernel
theorem dX3_firstAlike_27 : decode cX3_firstAlike 27 = .ok (.iaload, 1) := by decide +kernel
theorem dX3_firstAlike_28 : decode cX3_firstAlike 28 = .ok (.aload_n 0, 1) := by decide +kernel
theorem dX3_firstAlike_29 : decode cX3_firstAlike 29 = .ok (.getfield 15, 3) := by decide +kernel
theorem dX3_firstAlike_32 : decode cX3_firstAlike 32 = .ok (.iload_n 2, 1) := by decide +kernel
theorem dX3_firstAlike_33 : decode cX3_firstAlike 33 = .ok (.iaload, 1) := by decide +kernel
theorem dX3_firstAlike_34 : decode cX3_firstAlike 34 = .ok (.if_icmp .ne 38, 3) := by decide +kernel
theorem dX3_firstAlike_37 : decode cX3_firstAlike 37 = .ok (.aload_n 0, 1) := by decide +kernel
theorem dX3_firstAlike_38 : decode cX3_firstAlike 38 = .ok (.iload_n 1, 1) := by decide +kernel
theorem dX3_firstAlike_39 : decode cX3_firstAlike 39 = .ok (.invokevirtual 59, 3) := by decide +kernel
theorem dX3_firstAlike_42 : decode cX3_firstAlike 42 = .ok (.ifCond .ne 30, 3) := by decide +kernel
theorem dX3_firstAlike_45 : decode cX3_firstAlike 45 = .ok (.aload_n 0, 1) := by decide +kernel
theorem dX3_firstAlike_46 : decode cX3_firstAlike 46 = .ok (.getfield 18, 3) := by decide +kernel
theorem dX3_firstAlike_49 : decode cX3_firstAlike 49 = .ok (.iload_n 1, 1) := by decide +kernel
theorem dX3_firstAlike_50 : decode cX3_firstAlike 50 = .ok (.iaload, 1) := by decide +kernel
theorem dX3_firstAlike_51 : decode cX3_firstAlike 51 = .ok (.aload_n 0, 1) := by decide +kernel
theorem dX3_firstAlike_52 : decode cX3_firstAlike 52 = .ok (.getfield 18, 3) := by decide +kernel
theorem dX3_firstAlike_55 : decode cX3_firstAlike 55 = .ok (.iload_n 2, 1) := by decide +kernel
theorem dX3_firstAlike_56 : decode cX3_firstAlike 56 = .ok (.iaload, 1) := by decide +kernel
theorem dX3_firstAlike_57 : decode cX3_firstAlike 57 = .ok (.isub, 1) := by decide +kernel
theorem dX3_firstAlike_58 : decode cX3_firstAlike 58 = .ok (.invokestatic 95, 3) := by decide +kernel
theorem dX3_firstAlike_61 : decode cX3_firstAlike 61 = .ok (.iconst 1, 1) := by decide +kernel
theorem dX3_firstAlike_62 : decode cX3_firstAlike 62 = .ok (.if_icmp .ne 10, 3) := by decide +kernel
theorem dX3_firstAlike_65 : decode cX3_firstAlike 65 = .ok (.bipush 10, 2) := by decide +kernel
theorem dX3_firstAlike_67 : decode cX3_firstAlike 67 = .ok (.iload_n 1, 1) := by decide +kernel
theorem dX3_firstAlike_68 : decode cX3_firstAlike 68 = .ok (.imul, 1) := by decide +kernel
theorem dX3_firstAlike_69 : decode cX3_firstAlike 69 = .ok (.iload_n 2, 1) := by decide +kernel
theorem dX3_firstAlike_70 : decode cX3_firstAlike 70 = .ok (.iadd, 1) := by decide +kernel
theorem dX3_firstAlike_71 : decode cX3_firstAlike 71 = .ok (.ireturn, 1) := by decide +kernel
theorem dX3_firstAlike_72 : decode cX3_firstAlike 72 = .ok (.iinc 2 1, 3) := by decide +kernel
theorem dX3_firstAlike_75 : decode cX3_firstAlike 75 = .ok (.goto (-61), 3) := by decide +kernel
theorem dX3_firstAlike_78 : decode cX3_firstAlike 78 = .ok (.iinc 1 1, 3) := by decide +kernel
theorem dX3_firstAlike_81 : decode cX3_firstAlike 81 = .ok (.goto (-79), 3) := by decide +kernel
theorem dX3_firstAlike_84 : decode cX3_firstAlike 84 = .ok (.bipush (-4), 2) := by decide +kernel
theorem dX3_firstAlike_86 : decode cX3_firstAlike 86 = .ok (.ireturn, 1) := by decide +kernel
theorem dX4_init_0 : decode cX4_init 0 = .ok (.aload_n 0, 1) := by decide +kernel
theorem dX4_init_1 : decode cX4_init 1 = .ok (.invokespecial 3, 3) := by decide +kernel
theorem dX4_init_4 : decode cX4_init 4 = .ok (.aload_n 0, 1) := by decide +kernel
theorem dX4_init_5 : decode cX4_init 5 = .ok (.bipush 24, 2) := by decide +kernel
theorem dX4_init_7 : decode cX4_init 7 = .ok (.newarray .long, 2) := by decide +kernel
theorem dX4_init_9 : decode cX4_init 9 = .ok (.putfield 9, 3) := by decide +kernel
theorem dX4_init_12 : decode cX4_init 12 = .ok (.aload_n 0, 1) := by decide +kernel
theorem dX4_init_13 : decode cX4_init 13 = .ok (.iconst (-1), 1) := by decide +kernel
theorem dX4_init_14 : decode cX4_init 14 = .ok (.putfield 15, 3) := by decide +kernel
theorem dX4_init_17 : decode cX4_init 17 = .ok (.return_, 1) := by decide +kernel
theorem dX4_isMissing_0 : decode cX4_isMissing 0 = .ok (.aload_n 0, 1) := by decide +kernel
theorem dX4_isMissing_1 : decode cX4_isMissing 1 = .ok (.getfield 15, 3) := by decide +kernel
theorem dX4_isMissing_4 : decode cX4_isMissing 4 = .ok (.ifCond .ge 7, 3) := by decide +kernel
theorem dX4_isMissing_7 : decode cX4_isMissing 7 = .ok (.iconst 1, 1) := by decide +kernel
theorem dX4_isMissing_8 : decode cX4_isMissing 8 = .ok (.goto 4, 3) := by decide +kernel
theorem dX4_isMissing_11 : decode cX4_isMissing 11 = .ok (.iconst 0, 1) := by decide +kernel
theorem dX4_isMissing_12 : decode cX4_isMissing 12 = .ok (.ireturn, 1) := by decide +kernel
theorem dX4_lay_0 : decode cX4_lay 0 = .ok (.aload_n 0, 1) := by decide +kernel
theorem dX4_lay_1 : decode cX4_lay 1 = .ok (.iload_n 1, 1) := by decide +kernel
theorem dX4_lay_2 : decode cX4_lay 2 = .ok (.putfield 19, 3) := by decide +kernel
theorem dX4_lay_5 : decode cX4_lay 5 = .ok (.aload_n 0, 1) := by decide +kernel
theorem dX4_lay_6 : decode cX4_lay 6 = .ok (.iload_n 2, 1) := by decide +kernel
theorem dX4_lay_7 : decode cX4_lay 7 = .ok (.putfield 15, 3) := by decide +kernel
theorem dX4_lay_10 : decode cX4_lay 10 = .ok (.iconst 0, 1) := by decide +kernel
theorem dX4_lay_11 : decode cX4_lay 11 = .ok (.istore_n 3, 1) := by decide +kernel
theorem dX4_lay_12 : decode cX4_lay 12 = .ok (.iload_n 3, 1) := by decide +kernel
theorem dX4_lay_13 : decode cX4_lay 13 = .ok (.bipush 24, 2) := by decide +kernel
theorem dX4_lay_15 : decode cX4_lay 15 = .ok (.if_icmp .ge 16, 3) := by decide +kernel
theorem dX4_lay_18 : decode cX4_lay 18 = .ok (.aload_n 0, 1) := by decide +kernel
theorem dX4_lay_19 : decode cX4_lay 19 = .ok (.getfield 9, 3) := by decide +kernel
theorem dX4_lay_22 : decode cX4_lay 22 = .ok (.iload_n 3, 1) := by decide +kernel
theorem dX4_lay_23 : decode cX4_lay 23 = .ok (.lconst 0, 1) := by decide +kernel
theorem dX4_lay_24 : decode cX4_lay 24 = .ok (.lastore, 1) := by decide +kernel
theorem dX4_lay_25 : decode cX4_lay 25 = .ok (.iinc 3 1, 3) := by decide +kernel
theorem dX4_lay_28 : decode cX4_lay 28 = .ok (.goto (-16), 3) := by decide +kernel
theorem dX4_lay_31 : decode cX4_lay 31 = .ok (.return_, 1) := by decide +kernel
theorem dX4_takeAway_0 : decode cX4_takeAway 0 = .ok (.aload_n 0, 1) := by decide +kernel
theorem dX4_takeAway_1 : decode cX4_takeAway 1 = .ok (.getfield 15, 3) := by decide +kernel
theorem dX4_takeAway_4 : decode cX4_takeAway 4 = .ok (.istore_n 1, 1) := by decide +kernel
theorem dX4_takeAway_5 : decode cX4_takeAway 5 = .ok (.aload_n 0, 1) := by decide +kernel
theorem dX4_takeAway_6 : decode cX4_takeAway 6 = .ok (.iconst (-1), 1) := by decide +kernel
theorem dX4_takeAway_7 : decode cX4_takeAway 7 = .ok (.putfield 15, 3) := by decide +kernel
theorem dX4_takeAway_10 : decode cX4_takeAway 10 = .ok (.iload_n 1, 1) := by decide +kernel
theorem dX4_takeAway_11 : decode cX4_takeAway 11 = .ok (.ireturn, 1) := by decide +kernel
theorem dX4_refusal_0 : decode cX4_refusal 0 = .ok (.aload_n 0, 1) := by decide +kernel
theorem dX4_refusal_1 : decode cX4_refusal 1 = .ok (.invokevirtual 22, 3) := by decide +kernel
theorem dX4_refusal_4 : decode cX4_refusal 4 = .ok (.ifCond .eq 6, 3) := by decide +kernel
theorem dX4_refusal_7 : decode cX4_refusal 7 = .ok (.bipush (-11), 2) := by decide +kernel
theorem dX4_refusal_9 : decode cX4_refusal 9 = .ok (.ireturn, 1) := by decide +kernel
theorem dX4_refusal_10 : decode cX4_refusal 10 = .ok (.aload_n 0, 1) := by decide +kernel
theorem dX4_refusal_11 : decode cX4_refusal 11 = .ok (.getfield 19, 3) := by decide +kernel
theorem dX4_refusal_14 : decode cX4_refusal 14 = .ok (.iload_n 1, 1) := by decide +kernel
theorem dX4_refusal_15 : decode cX4_refusal 15 = .ok (.if_icmp .eq 6, 3) := by decide +kernel
theorem dX4_refusal_18 : decode cX4_refusal 18 = .ok (.bipush (-12), 2) := by decide +kernel
theorem dX4_refusal_20 : decode cX4_refusal 20 = .ok (.ireturn, 1) := by decide +kernel
theorem dX4_refusal_21 : decode cX4_refusal 21 = .ok (.iload_n 2, 1) := by decide +kernel
theorem dX4_refusal_22 : decode cX4_refusal 22 = .ok (.ifCond .lt 17, 3) := by decide +kernel
theorem dX4_refusal_25 : decode cX4_refusal 25 = .ok (.iload_n 3, 1) := by decide +kernel
theorem dX4_refusal_26 : decode cX4_refusal 26 = .ok (.ifCond .lt 13, 3) := by decide +kernel
theorem dX4_refusal_29 : decode cX4_refusal 29 = .ok (.iload_n 2, 1) := by decide +kernel
theorem dX4_refusal_30 : decode cX4_refusal 30 = .ok (.aload_n 0, 1) := by decide +kernel
theorem dX4_refusal_31 : decode cX4_refusal 31 = .ok (.getfield 15, 3) := by decide +kernel
theorem dX4_refusal_34 : decode cX4_refusal 34 = .ok (.iload_n 3, 1) := by decide +kernel
theorem dX4_refusal_35 : decode cX4_refusal 35 = .ok (.isub, 1) := by decide +kernel
theorem dX4_refusal_36 : decode cX4_refusal 36 = .ok (.if_icmp .le 8, 3) := by decide +kernel
theorem dX4_refusal_39 : decode cX4_refusal 39 = .ok (.bipush (-13), 2) := by decide +kernel
theorem dX4_refusal_41 : decode cX4_refusal 41 = .ok (.goto 4, 3) := by decide +kernel
theorem dX4_refusal_44 : decode cX4_refusal 44 = .ok (.iconst 0, 1) := by decide +kernel
theorem dX4_refusal_45 : decode cX4_refusal 45 = .ok (.ireturn, 1) := by decide +kernel
theorem dX4_put_0 : decode cX4_put 0 = .ok (.aload_n 0, 1) := by decide +kernel
theorem dX4_put_1 : decode cX4_put 1 = .ok (.getfield 9, 3) := by decide +kernel
theorem dX4_put_4 : decode cX4_put 4 = .ok (.iload_n 1, 1) := by decide +kernel
theorem dX4_put_5 : decode cX4_put 5 = .ok (.aload_n 0, 1) := by decide +kernel
theorem dX4_put_6 : decode cX4_put 6 = .ok (.lload_n 2, 1) := by decide +kernel
theorem dX4_put_7 : decode cX4_put 7 = .ok (.invokevirtual 26, 3) := by decide +kernel
theorem dX4_put_10 : decode cX4_put 10 = .ok (.lastore, 1) := by decide +kernel
theorem dX4_put_11 : decode cX4_put 11 = .ok (.return_, 1) := by decide +kernel
theorem dX4_cut_0 : decode cX4_cut 0 = .ok (.aload_n 0, 1) := by decide +kernel
theorem dX4_cut_1 : decode cX4_cut 1 = .ok (.getfield 19, 3) := by decide +kernel
theorem dX4_cut_4 : decode cX4_cut 4 = .ok (.tableswitch 42 0 2 #[28, 33, 38], 28) := by decide +kernel
theorem dX4_cut_32 : decode cX4_cut 32 = .ok (.lload_n 1, 1) := by decide +kernel
theorem dX4_cut_33 : decode cX4_cut 33 = .ok (.l2i, 1) := by decide +kernel
theorem dX4_cut_34 : decode cX4_cut 34 = .ok (.i2b, 1) := by decide +kernel
theorem dX4_cut_35 : decode cX4_cut 35 = .ok (.i2l, 1) := by decide +kernel
theorem dX4_cut_36 : decode cX4_cut 36 = .ok (.lreturn, 1) := by decide +kernel
theorem dX4_cut_37 : decode cX4_cut 37 = .ok (.lload_n 1, 1) := by decide +kernel
theorem dX4_cut_38 : decode cX4_cut 38 = .ok (.l2i, 1) := by decide +kernel
theorem dX4_cut_39 : decode cX4_cut 39 = .ok (.i2s, 1) := by decide +kernel
theorem dX4_cut_40 : decode cX4_cut 40 = .ok (.i2l, 1) := by decide +kernel
theorem dX4_cut_41 : decode cX4_cut 41 = .ok (.lreturn, 1) := by decide +kernel
theorem dX4_cut_42 : decode cX4_cut 42 = .ok (.lload_n 1, 1) := by decide +kernel
theorem dX4_cut_43 : decode cX4_cut 43 = .ok (.l2i, 1) := by decide +kernel
theorem dX4_cut_44 : decode cX4_cut 44 = .ok (.i2l, 1) := by decide +kernel
theorem dX4_cut_45 : decode cX4_cut 45 = .ok (.lreturn, 1) := by decide +kernel
theorem dX4_cut_46 : decode cX4_cut 46 = .ok (.lload_n 1, 1) := by decide +kernel
theorem dX4_cut_47 : decode cX4_cut 47 = .ok (.lreturn, 1) := by decide +kernel
theorem dX5_init_0 : decode cX5_init 0 = .ok (.aload_n 0, 1) := by decide +kernel
theorem dX5_init_1 : decode cX5_init 1 = .ok (.invokespecial 3, 3) := by decide +kernel
theorem dX5_init_4 : decode cX5_init 4 = .ok (.aload_n 0, 1) := by decide +kernel
theorem dX5_init_5 : decode cX5_init 5 = .ok (.bipush 80, 2) := by decide +kernel
theorem dX5_init_7 : decode cX5_init 7 = .ok (.newarray .char, 2) := by decide +kernel
theorem dX5_init_9 : decode cX5_init 9 = .ok (.putfield 9, 3) := by decide +kernel
theorem dX5_init_12 : decode cX5_init 12 = .ok (.return_, 1) := by decide +kernel
theorem dX5_write_0 : decode cX5_write 0 = .ok (.aload_n 0, 1) := by decide +kernel
theorem dX5_write_1 : decode cX5_write 1 = .ok (.getfield 15, 3) := by decide +kernel
theorem dX5_write_4 : decode cX5_write 4 = .ok (.bipush 80, 2) := by decide +kernel
theorem dX5_write_6 : decode cX5_write 6 = .ok (.if_icmp .lt 5, 3) := by decide +kernel
theorem dX5_write_9 : decode cX5_write 9 = .ok (.iconst 0, 1) := by decide +kernel
theorem dX5_write_10 : decode cX5_write 10 = .ok (.ireturn, 1) := by decide +kernel
theorem dX5_write_11 : decode cX5_write 11 = .ok (.aload_n 0, 1) := by decide +kernel
theorem dX5_write_12 : decode cX5_write 12 = .ok (.getfield 9, 3) := by decide +kernel
theorem dX5_write_15 : decode cX5_write 15 = .ok (.aload_n 0, 1) := by decide +kernel
theorem dX5_write_16 : decode cX5_write 16 = .ok (.getfield 15, 3) := by decide +kernel
theorem dX5_write_19 : decode cX5_write 19 = .ok (.iload_n 1, 1) := by decide +kernel
theorem dX5_write_20 : decode cX5_write 20 = .ok (.castore, 1) := by decide +kernel
theorem dX5_write_21 : decode cX5_write 21 = .ok (.aload_n 0, 1) := by decide +kernel
theorem dX5_write_22 : decode cX5_write 22 = .ok (.dup, 1) := by decide +kernel
theorem dX5_write_23 : decode cX5_write 23 = .ok (.getfield 15, 3) := by decide +kernel
theorem dX5_write_26 : decode cX5_write 26 = .ok (.iconst 1, 1) := by decide +kernel
theorem dX5_write_27 : decode cX5_write 27 = .ok (.iadd, 1) := by decide +kernel
theorem dX5_write_28 : decode cX5_write 28 = .ok (.putfield 15, 3) := by decide +kernel
theorem dX5_write_31 : decode cX5_write 31 = .ok (.iconst 1, 1) := by decide +kernel
theorem dX5_write_32 : decode cX5_write 32 = .ok (.ireturn, 1) := by decide +kernel
theorem dX5_clear_0 : decode cX5_clear 0 = .ok (.aload_n 0, 1) := by decide +kernel
theorem dX5_clear_1 : decode cX5_clear 1 = .ok (.iconst 0, 1) := by decide +kernel
theorem dX5_clear_2 : decode cX5_clear 2 = .ok (.putfield 15, 3) := by decide +kernel
theorem dX5_clear_5 : decode cX5_clear 5 = .ok (.return_, 1) := by decide +kernel
theorem dX5_readInto_0 : decode cX5_readInto 0 = .ok (.aload_n 0, 1) := by decide +kernel
theorem dX5_readInto_1 : decode cX5_readInto 1 = .ok (.iconst 0, 1) := by decide +kernel
theorem dX5_readInto_2 : decode cX5_readInto 2 = .ok (.putfield 19, 3) := by decide +kernel
theorem dX5_readInto_5 : decode cX5_readInto 5 = .ok (.aload_n 0, 1) := by decide +kernel
theorem dX5_readInto_6 : decode cX5_readInto 6 = .ok (.aload_n 1, 1) := by decide +kernel
theorem dX5_readInto_7 : decode cX5_readInto 7 = .ok (.invokevirtual 22, 3) := by decide +kernel
theorem dX5_readInto_10 : decode cX5_readInto 10 = .ok (.ifCond .ne 5, 3) := by decide +kernel
theorem dX5_readInto_13 : decode cX5_readInto 13 = .ok (.iconst 0, 1) := by decide +kernel
theorem dX5_readInto_14 : decode cX5_readInto 14 = .ok (.ireturn, 1) := by decide +kernel
theorem dX5_readInto_15 : decode cX5_readInto 15 = .ok (.aload_n 0, 1) := by decide +kernel
theorem dX5_readInto_16 : decode cX5_readInto 16 = .ok (.bipush 59, 2) := by decide +kernel
theorem dX5_readInto_18 : decode cX5_readInto 18 = .ok (.invokevirtual 26, 3) := by decide +kernel
theorem dX5_readInto_21 : decode cX5_readInto 21 = .ok (.ifCond .eq 13, 3) := by decide +kernel
theorem dX5_readInto_24 : decode cX5_readInto 24 = .ok (.aload_n 0, 1) := by decide +kernel
theorem dX5_readInto_25 : decode cX5_readInto 25 = .ok (.aload_n 1, 1) := by decide +kernel
theorem dX5_readInto_26 : decode cX5_readInto 26 = .ok (.invokevirtual 30, 3) := by decide +kernel
theorem dX5_readInto_29 : decode cX5_readInto 29 = .ok (.ifCond .ne 5, 3) := by decide +kernel
theorem dX5_readInto_32 : decode cX5_readInto 32 = .ok (.iconst 0, 1) := by decide +kernel
theorem dX5_readInto_33 : decode cX5_readInto 33 = .ok (.ireturn, 1) := by decide +kernel
theorem dX5_readInto_34 : decode cX5_readInto 34 = .ok (.aload_n 0, 1) := by decide +kernel
theorem dX5_readInto_35 : decode cX5_readInto 35 = .ok (.invokevirtual 33, 3) := by decide +kernel
theorem dX5_readInto_38 : decode cX5_readInto 38 = .ok (.aload_n 0, 1) := by decide +kernel
theorem dX5_readInto_39 : decode cX5_readInto 39 = .ok (.getfield 19, 3) := by decide +kernel
theorem dX5_readInto_42 : decode cX5_readInto 42 = .ok (.aload_n 0, 1) := by decide +kernel
theorem dX5_readInto_43 : decode cX5_readInto 43 = .ok (.getfield 15, 3) := by decide +kernel
theorem dX5_readInto_46 : decode cX5_readInto 46 = .ok (.if_icmp .ne 7, 3) := by decide +kernel
theorem dX5_readInto_49 : decode cX5_readInto 49 = .ok (.iconst 1, 1) := by decide +kernel
theorem dX5_readInto_50 : decode cX5_readInto 50 = .ok (.goto 4, 3) := by decide +kernel
theorem dX5_readInto_53 : decode cX5_readInto 53 = .ok (.iconst 0, 1) := by decide +kernel
theorem dX5_readInto_54 : decode cX5_readInto 54 = .ok (.ireturn, 1) := by decide +kernel
theorem dX5_readLamps_0 : decode cX5_readLamps 0 = .ok (.iconst 0, 1) := by decide +kernel
theorem dX5_readLamps_1 : decode cX5_readLamps 1 = .ok (.istore_n 2, 1) := by decide +kernel
theorem dX5_readLamps_2 : decode cX5_readLamps 2 = .ok (.iload_n 2, 1) := by decide +kernel
theorem dX5_readLamps_3 : decode cX5_readLamps 3 = .ok (.bipush 6, 2) := by decide +kernel
theorem dX5_readLamps_5 : decode cX5_readLamps 5 = .ok (.if_icmp .ge 29, 3) := by decide +kernel
theorem dX5_readLamps_8 : decode cX5_readLamps 8 = .ok (.aload_n 0, 1) := by decide +kernel
theorem dX5_readLamps_9 : decode cX5_readLamps 9 = .ok (.bipush 9, 2) := by decide +kernel
theorem dX5_readLamps_11 : decode cX5_readLamps 11 = .ok (.invokevirtual 36, 3) := by decide +kernel
theorem dX5_readLamps_14 : decode cX5_readLamps 14 = .ok (.istore_n 3, 1) := by decide +kernel
theorem dX5_readLamps_15 : decode cX5_readLamps 15 = .ok (.iload_n 3, 1) := by decide +kernel
theorem dX5_readLamps_16 : decode cX5_readLamps 16 = .ok (.ifCond .ge 5, 3) := by decide +kernel
theorem dX5_readLamps_19 : decode cX5_readLamps 19 = .ok (.iconst 0, 1) := by decide +kernel
theorem dX5_readLamps_20 : decode cX5_readLamps 20 = .ok (.ireturn, 1) := by decide +kernel
theorem dX5_readLamps_21 : decode cX5_readLamps 21 = .ok (.aload_n 1, 1) := by decide +kernel
theorem dX5_readLamps_22 : decode cX5_readLamps 22 = .ok (.getfield 40, 3) := by decide +kernel
theorem dX5_readLamps_25 : decode cX5_readLamps 25 = .ok (.iload_n 2, 1) := by decide +kernel
theorem dX5_readLamps_26 : decode cX5_readLamps 26 = .ok (.iload_n 3, 1) := by decide +kernel
theorem dX5_readLamps_27 : decode cX5_readLamps 27 = .ok (.iastore, 1) := by decide +kernel
theorem dX5_readLamps_28 : decode cX5_readLamps 28 = .ok (.iinc 2 1, 3) := by decide +kernel
theorem dX5_readLamps_31 : decode cX5_readLamps 31 = .ok (.goto (-29), 3) := by decide +kernel
theorem dX5_readLamps_34 : decode cX5_readLamps 34 = .ok (.iconst 1, 1) := by decide +kernel
theorem dX5_readLamps_35 : decode cX5_readLamps 35 = .ok (.ireturn, 1) := by decide +kernel
theorem dX5_readHolders_0 : decode cX5_readHolders 0 = .ok (.iconst 0, 1) := by decide +kernel
theorem dX5_readHolders_1 : decode cX5_readHolders 1 = .ok (.istore_n 2, 1) := by decide +kernel
theorem dX5_readHolders_2 : decode cX5_readHolders 2 = .ok (.iload_n 2, 1) := by decide +kernel
theorem dX5_readHolders_3 : decode cX5_readHolders 3 = .ok (.bipush 6, 2) := by decide +kernel
theorem dX5_readHolders_5 : decode cX5_readHolders 5 = .ok (.if_icmp .ge 35, 3) := by decide +kernel
theorem dX5_readHolders_8 : decode cX5_readHolders 8 = .ok (.aload_n 0, 1) := by decide +kernel
theorem dX5_readHolders_9 : decode cX5_readHolders 9 = .ok (.aload_n 1, 1) := by decide +kernel
theorem dX5_readHolders_10 : decode cX5_readHolders 10 = .ok (.invokevirtual 46, 3) := by decide +kernel
theorem dX5_readHolders_13 : decode cX5_readHolders 13 = .ok (.ifCond .ne 5, 3) := by decide +kernel
theorem dX5_readHolders_16 : decode cX5_readHolders 16 = .ok (.iconst 0, 1) := by decide +kernel
theorem dX5_readHolders_17 : decode cX5_readHolders 17 = .ok (.ireturn, 1) := by decide +kernel
theorem dX5_readHolders_18 : decode cX5_readHolders 18 = .ok (.iload_n 2, 1) := by decide +kernel
theorem dX5_readHolders_19 : decode cX5_readHolders 19 = .ok (.iconst 5, 1) := by decide +kernel
theorem dX5_readHolders_20 : decode cX5_readHolders 20 = .ok (.if_icmp .eq 12, 3) := by decide +kernel
theorem dX5_readHolders_23 : decode cX5_readHolders 23 = .ok (.aload_n 0, 1) := by decide +kernel
theorem dX5_readHolders_24 : decode cX5_readHolders 24 = .ok (.bipush 44, 2) := by decide +kernel
theorem dX5_readHolders_26 : decode cX5_readHolders 26 = .ok (.invokevirtual 26, 3) := by decide +kernel
theorem dX5_readHolders_29 : decode cX5_readHolders 29 = .ok (.ifCond .ne 5, 3) := by decide +kernel
theorem dX5_readHolders_32 : decode cX5_readHolders 32 = .ok (.iconst 1, 1) := by decide +kernel
theorem dX5_readHolders_33 : decode cX5_readHolders 33 = .ok (.ireturn, 1) := by decide +kernel
theorem dX5_readHolders_34 : decode cX5_readHolders 34 = .ok (.iinc 2 1, 3) := by decide +kernel
theorem dX5_readHolders_37 : decode cX5_readHolders 37 = .ok (.goto (-35), 3) := by decide +kernel
theorem dX5_readHolders_40 : decode cX5_readHolders 40 = .ok (.iconst 1, 1) := by decide +kernel
theorem dX5_readHolders_41 : decode cX5_readHolders 41 = .ok (.ireturn, 1) := by decide +kernel
theorem dX5_readOneHolder_0 : decode cX5_readOneHolder 0 = .ok (.aload_n 0, 1) := by decide +kernel
theorem dX5_readOneHolder_1 : decode cX5_readOneHolder 1 = .ok (.invokevirtual 49, 3) := by decide +kernel
theorem dX5_readOneHolder_4 : decode cX5_readOneHolder 4 = .ok (.istore_n 2, 1) := by decide +kernel
theorem dX5_readOneHolder_5 : decode cX5_readOneHolder 5 = .ok (.iload_n 2, 1) := by decide +kernel
theorem dX5_readOneHolder_6 : decode cX5_readOneHolder 6 = .ok (.ifCond .ge 5, 3) := by decide +kernel
theorem dX5_readOneHolder_9 : decode cX5_readOneHolder 9 = .ok (.iconst 0, 1) := by decide +kernel
theorem dX5_readOneHolder_10 : decode cX5_readOneHolder 10 = .ok (.ireturn, 1) := by decide +kernel
theorem dX5_readOneHolder_11 : decode cX5_readOneHolder 11 = .ok (.aload_n 0, 1) := by decide +kernel
theorem dX5_readOneHolder_12 : decode cX5_readOneHolder 12 = .ok (.invokevirtual 53, 3) := by decide +kernel
theorem dX5_readOneHolder_15 : decode cX5_readOneHolder 15 = .ok (.istore_n 3, 1) := by decide +kernel
theorem dX5_readOneHolder_16 : decode cX5_readOneHolder 16 = .ok (.iload_n 3, 1) := by decide +kernel
theorem dX5_readOneHolder_17 : decode cX5_readOneHolder 17 = .ok (.ifCond .lt 12, 3) := by decide +kernel
theorem dX5_readOneHolder_20 : decode cX5_readOneHolder 20 = .ok (.aload_n 0, 1) := by decide +kernel
theorem dX5_readOneHolder_21 : decode cX5_readOneHolder 21 = .ok (.bipush 64, 2) := by decide +kernel
theorem dX5_readOneHolder_23 : decode cX5_readOneHolder 23 = .ok (.invokevirtual 26, 3) := by decide +kernel
theorem dX5_readOneHolder_26 : decode cX5_readOneHolder 26 = .ok (.ifCond .ne 5, 3) := by decide +kernel
theorem dX5_readOneHolder_29 : decode cX5_readOneHolder 29 = .ok (.iconst 0, 1) := by decide +kernel
theorem dX5_readOneHolder_30 : decode cX5_readOneHolder 30 = .ok (.ireturn, 1) := by decide +kernel
theorem dX5_readOneHolder_31 : decode cX5_readOneHolder 31 = .ok (.aload_n 0, 1) := by decide +kernel
theorem dX5_readOneHolder_32 : decode cX5_readOneHolder 32 = .ok (.aload_n 1, 1) := by decide +kernel
theorem dX5_readOneHolder_33 : decode cX5_readOneHolder 33 = .ok (.invokevirtual 56, 3) := by decide +kernel
theorem dX5_readOneHolder_36 : decode cX5_readOneHolder 36 = .ok (.istore 4, 2) := by decide +kernel
theorem dX5_readOneHolder_38 : decode cX5_readOneHolder 38 = .ok (.iload 4, 2) := by decide +kernel
theorem dX5_readOneHolder_40 : decode cX5_readOneHolder 40 = .ok (.ifCond .ge 5, 3) := by decide +kernel
theorem dX5_readOneHolder_43 : decode cX5_readOneHolder 43 = .ok (.iconst 0, 1) := by decide +kernel
theorem dX5_readOneHolder_44 : decode cX5_readOneHolder 44 = .ok (.ireturn, 1) := by decide +kernel
theorem dX5_readOneHolder_45 : decode cX5_readOneHolder 45 = .ok (.aload_n 0, 1) := by decide +kernel
theorem dX5_readOneHolder_46 : decode cX5_readOneHolder 46 = .ok (.bipush 62, 2) := by decide +kernel
theorem dX5_readOneHolder_48 : decode cX5_readOneHolder 48 = .ok (.invokevirtual 26, 3) := by decide +kernel
theorem dX5_readOneHolder_51 : decode cX5_readOneHolder 51 = .ok (.ifCond .eq 11, 3) := by decide +kernel
theorem dX5_readOneHolder_54 : decode cX5_readOneHolder 54 = .ok (.aload_n 0, 1) := by decide +kernel
theorem dX5_readOneHolder_55 : decode cX5_readOneHolder 55 = .ok (.iconst 5, 1) := by decide +kernel
theorem dX5_readOneHolder_56 : decode cX5_readOneHolder 56 = .ok (.invokevirtual 36, 3) := by decide +kernel
theorem dX5_readOneHolder_59 : decode cX5_readOneHolder 59 = .ok (.goto 5, 3) := by decide +kernel
theorem dX5_readOneHolder_62 : decode cX5_readOneHolder 62 = .ok (.iload 4, 2) := by decide +kernel
theorem dX5_readOneHolder_64 : decode cX5_readOneHolder 64 = .ok (.istore 5, 2) := by decide +kernel
theorem dX5_readOneHolder_66 : decode cX5_readOneHolder 66 = .ok (.iload 5, 2) := by decide +kernel
theorem dX5_readOneHolder_68 : decode cX5_readOneHolder 68 = .ok (.ifCond .ge 5, 3) := by decide +kernel
theorem dX5_readOneHolder_71 : decode cX5_readOneHolder 71 = .ok (.iconst 0, 1) := by decide +kernel
theorem dX5_readOneHolder_72 : decode cX5_readOneHolder 72 = .ok (.ireturn, 1) := by decide +kernel
theorem dX5_readOneHolder_73 : decode cX5_readOneHolder 73 = .ok (.aload_n 1, 1) := by decide +kernel
theorem dX5_readOneHolder_74 : decode cX5_readOneHolder 74 = .ok (.iload_n 2, 1) := by decide +kernel
theorem dX5_readOneHolder_75 : decode cX5_readOneHolder 75 = .ok (.iload_n 3, 1) := by decide +kernel
theorem dX5_readOneHolder_76 : decode cX5_readOneHolder 76 = .ok (.iload 4, 2) := by decide +kernel
theorem dX5_readOneHolder_78 : decode cX5_readOneHolder 78 = .ok (.iload 5, 2) := by decide +kernel
theorem dX5_readOneHolder_80 : decode cX5_readOneHolder 80 = .ok (.invokevirtual 60, 3) := by decide +kernel
theorem dX5_readOneHolder_83 : decode cX5_readOneHolder 83 = .ok (.iconst 1, 1) := by decide +kernel
theorem dX5_readOneHolder_84 : decode cX5_readOneHolder 84 = .ok (.ireturn, 1) := by decide +kernel
theorem dX5_readKind_0 : decode cX5_readKind 0 = .ok (.aload_n 0, 1) := by decide +kernel
theorem dX5_readKind_1 : decode cX5_readKind 1 = .ok (.invokevirtual 33, 3) := by decide +kernel
theorem dX5_readKind_4 : decode cX5_readKind 4 = .ok (.aload_n 0, 1) := by decide +kernel
theorem dX5_readKind_5 : decode cX5_readKind 5 = .ok (.getfield 19, 3) := by decide +kernel
theorem dX5_readKind_8 : decode cX5_readKind 8 = .ok (.aload_n 0, 1) := by decide +kernel
theorem dX5_readKind_9 : decode cX5_readKind 9 = .ok (.getfield 15, 3) := by decide +kernel
theorem dX5_readKind_12 : decode cX5_readKind 12 = .ok (.if_icmp .ge 20, 3) := by decide +kernel
theorem dX5_readKind_15 : decode cX5_readKind 15 = .ok (.ldc 64, 2) := by decide +kernel
theorem dX5_readKind_17 : decode cX5_readKind 17 = .ok (.aload_n 0, 1) := by decide +kernel
theorem dX5_readKind_18 : decode cX5_readKind 18 = .ok (.getfield 9, 3) := by decide +kernel
theorem dX5_readKind_21 : decode cX5_readKind 21 = .ok (.aload_n 0, 1) := by decide +kernel
theorem dX5_readKind_22 : decode cX5_readKind 22 = .ok (.getfield 19, 3) := by decide +kernel
theorem dX5_readKind_25 : decode cX5_readKind 25 = .ok (.caload, 1) := by decide +kernel
theorem dX5_readKind_26 : decode cX5_readKind 26 = .ok (.invokevirtual 66, 3) := by decide +kernel
theorem dX5_readKind_29 : decode cX5_readKind 29 = .ok (.goto 4, 3) := by decide +kernel
theorem dX5_readKind_32 : decode cX5_readKind 32 = .ok (.iconst (-1), 1) := by decide +kernel
theorem dX5_readKind_33 : decode cX5_readKind 33 = .ok (.istore_n 1, 1) := by decide +kernel
theorem dX5_readKind_34 : decode cX5_readKind 34 = .ok (.iload_n 1, 1) := by decide +kernel
theorem dX5_readKind_35 : decode cX5_readKind 35 = .ok (.ifCond .lt 13, 3) := by decide +kernel
theorem dX5_readKind_38 : decode cX5_readKind 38 = .ok (.aload_n 0, 1) := by decide +kernel
theorem dX5_readKind_39 : decode cX5_readKind 39 = .ok (.dup, 1) := by decide +kernel
theorem dX5_readKind_40 : decode cX5_readKind 40 = .ok (.getfield 19, 3) := by decide +kernel
theorem dX5_readKind_43 : decode cX5_readKind 43 = .ok (.iconst 1, 1) := by decide +kernel
theorem dX5_readKind_44 : decode cX5_readKind 44 = .ok (.iadd, 1) := by decide +kernel
theorem dX5_readKind_45 : decode cX5_readKind 45 = .ok (.putfield 19, 3) := by decide +kernel
theorem dX5_readKind_48 : decode cX5_readKind 48 = .ok (.iload_n 1, 1) := by decide +kernel
theorem dX5_readKind_49 : decode cX5_readKind 49 = .ok (.ireturn, 1) := by decide +kernel
theorem dX5_readNumber_0 : decode cX5_readNumber 0 = .ok (.aload_n 0, 1) := by decide +kernel
theorem dX5_readNumber_1 : decode cX5_readNumber 1 = .ok (.bipush 9, 2) := by decide +kernel
theorem dX5_readNumber_3 : decode cX5_readNumber 3 = .ok (.invokevirtual 36, 3) := by decide +kernel
theorem dX5_readNumber_6 : decode cX5_readNumber 6 = .ok (.istore_n 1, 1) := by decide +kernel
theorem dX5_readNumber_7 : decode cX5_readNumber 7 = .ok (.iload_n 1, 1) := by decide +kernel
theorem dX5_readNumber_8 : decode cX5_readNumber 8 = .ok (.ifCond .lt 34, 3) := by decide +kernel
theorem dX5_readNumber_11 : decode cX5_readNumber 11 = .ok (.aload_n 0, 1) := by decide +kernel
theorem dX5_readNumber_12 : decode cX5_readNumber 12 = .ok (.bipush 9, 2) := by decide +kernel
theorem dX5_readNumber_14 : decode cX5_readNumber 14 = .ok (.invokevirtual 71, 3) := by decide +kernel
theorem dX5_readNumber_17 : decode cX5_readNumber 17 = .ok (.ifCond .lt 25, 3) := by decide +kernel
theorem dX5_readNumber_20 : decode cX5_readNumber 20 = .ok (.bipush 10, 2) := by decide +kernel
theorem dX5_readNumber_22 : decode cX5_readNumber 22 = .ok (.iload_n 1, 1) := by decide +kernel
theorem dX5_readNumber_23 : decode cX5_readNumber 23 = .ok (.imul, 1) := by decide +kernel
theorem dX5_readNumber_24 : decode cX5_readNumber 24 = .ok (.aload_n 0, 1) := by decide +kernel
theorem dX5_readNumber_25 : decode cX5_readNumber 25 = .ok (.bipush 9, 2) := by decide +kernel
theorem dX5_readNumber_27 : decode cX5_readNumber 27 = .ok (.invokevirtual 71, 3) := by decide +kernel
theorem dX5_readNumber_30 : decode cX5_readNumber 30 = .ok (.iadd, 1) := by decide +kernel
theorem dX5_readNumber_31 : decode cX5_readNumber 31 = .ok (.istore_n 1, 1) := by decide +kernel
theorem dX5_readNumber_32 : decode cX5_readNumber 32 = .ok (.aload_n 0, 1) := by decide +kernel
theorem dX5_readNumber_33 : decode cX5_readNumber 33 = .ok (.dup, 1) := by decide +kernel
theorem dX5_readNumber_34 : decode cX5_readNumber 34 = .ok (.getfield 19, 3) := by decide +kernel
theorem dX5_readNumber_37 : decode cX5_readNumber 37 = .ok (.iconst 1, 1) := by decide +kernel
theorem dX5_readNumber_38 : decode cX5_readNumber 38 = .ok (.iadd, 1) := by decide +kernel
theorem dX5_readNumber_39 : decode cX5_readNumber 39 = .ok (.putfield 19, 3) := by decide +kernel
theorem dX5_readNumber_42 : decode cX5_readNumber 42 = .ok (.iload_n 1, 1) := by decide +kernel
theorem dX5_readNumber_43 : decode cX5_readNumber 43 = .ok (.ireturn, 1) := by decide +kernel
theorem dX5_readFreeBay_0 : decode cX5_readFreeBay 0 = .ok (.aload_n 0, 1) := by decide +kernel
theorem dX5_readFreeBay_1 : decode cX5_readFreeBay 1 = .ok (.invokevirtual 33, 3) := by decide +kernel
theorem dX5_readFreeBay_4 : decode cX5_readFreeBay 4 = .ok (.aload_n 0, 1) := by decide +kernel
theorem dX5_readFreeBay_5 : decode cX5_readFreeBay 5 = .ok (.iconst 5, 1) := by decide +kernel
theorem dX5_readFreeBay_6 : decode cX5_readFreeBay 6 = .ok (.invokevirtual 71, 3) := by decide +kernel
theorem dX5_readFreeBay_9 : decode cX5_readFreeBay 9 = .ok (.istore_n 2, 1) := by decide +kernel
theorem dX5_readFreeBay_10 : decode cX5_readFreeBay 10 = .ok (.iload_n 2, 1) := by decide +kernel
theorem dX5_readFreeBay_11 : decode cX5_readFreeBay 11 = .ok (.ifCond .lt 12, 3) := by decide +kernel
theorem dX5_readFreeBay_14 : decode cX5_readFreeBay 14 = .ok (.aload_n 1, 1) := by decide +kernel
theorem dX5_readFreeBay_15 : decode cX5_readFreeBay 15 = .ok (.iload_n 2, 1) := by decide +kernel
theorem dX5_readFreeBay_16 : decode cX5_readFreeBay 16 = .ok (.invokevirtual 74, 3) := by decide +kernel
theorem dX5_readFreeBay_19 : decode cX5_readFreeBay 19 = .ok (.iconst (-1), 1) := by decide +kernel
theorem dX5_readFreeBay_20 : decode cX5_readFreeBay 20 = .ok (.if_icmp .eq 5, 3) := by decide +kernel
theorem dX5_readFreeBay_23 : decode cX5_readFreeBay 23 = .ok (.iconst (-1), 1) := by decide +kernel
theorem dX5_readFreeBay_24 : decode cX5_readFreeBay 24 = .ok (.ireturn, 1) := by decide +kernel
theorem dX5_readFreeBay_25 : decode cX5_readFreeBay 25 = .ok (.aload_n 0, 1) := by decide +kernel
theorem dX5_readFreeBay_26 : decode cX5_readFreeBay 26 = .ok (.dup, 1) := by decide +kernel
theorem dX5_readFreeBay_27 : decode cX5_readFreeBay 27 = .ok (.getfield 19, 3) := by decide +kernel
theorem dX5_readFreeBay_30 : decode cX5_readFreeBay 30 = .ok (.iconst 1, 1) := by decide +kernel
theorem dX5_readFreeBay_31 : decode cX5_readFreeBay 31 = .ok (.iadd, 1) := by decide +kernel
theorem dX5_readFreeBay_32 : decode cX5_readFreeBay 32 = .ok (.putfield 19, 3) := by decide +kernel
theorem dX5_readFreeBay_35 : decode cX5_readFreeBay 35 = .ok (.iload_n 2, 1) := by decide +kernel
theorem dX5_readFreeBay_36 : decode cX5_readFreeBay 36 = .ok (.ireturn, 1) := by decide +kernel
theorem dX5_readDigit_0 : decode cX5_readDigit 0 = .ok (.aload_n 0, 1) := by decide +kernel
theorem dX5_readDigit_1 : decode cX5_readDigit 1 = .ok (.invokevirtual 33, 3) := by decide +kernel
theorem dX5_readDigit_4 : decode cX5_readDigit 4 = .ok (.aload_n 0, 1) := by decide +kernel
theorem dX5_readDigit_5 : decode cX5_readDigit 5 = .ok (.iload_n 1, 1) := by decide +kernel
theorem dX5_readDigit_6 : decode cX5_readDigit 6 = .ok (.invokevirtual 71, 3) := by decide +kernel
theorem dX5_readDigit_9 : decode cX5_readDigit 9 = .ok (.istore_n 2, 1) := by decide +kernel
theorem dX5_readDigit_10 : decode cX5_readDigit 10 = .ok (.iload_n 2, 1) := by decide +kernel
theorem dX5_readDigit_11 : decode cX5_readDigit 11 = .ok (.ifCond .lt 13, 3) := by decide +kernel
theorem dX5_readDigit_14 : decode cX5_readDigit 14 = .ok (.aload_n 0, 1) := by decide +kernel
theorem dX5_readDigit_15 : decode cX5_readDigit 15 = .ok (.dup, 1) := by decide +kernel
theorem dX5_readDigit_16 : decode cX5_readDigit 16 = .ok (.getfield 19, 3) := by decide +kernel
theorem dX5_readDigit_19 : decode cX5_readDigit 19 = .ok (.iconst 1, 1) := by decide +kernel
theorem dX5_readDigit_20 : decode cX5_readDigit 20 = .ok (.iadd, 1) := by decide +kernel
theorem dX5_readDigit_21 : decode cX5_readDigit 21 = .ok (.putfield 19, 3) := by decide +kernel
theorem dX5_readDigit_24 : decode cX5_readDigit 24 = .ok (.iload_n 2, 1) := by decide +kernel
theorem dX5_readDigit_25 : decode cX5_readDigit 25 = .ok (.ireturn, 1) := by decide +kernel
theorem dX5_digitHere_0 : decode cX5_digitHere 0 = .ok (.aload_n 0, 1) := by decide +kernel
theorem dX5_digitHere_1 : decode cX5_digitHere 1 = .ok (.getfield 19, 3) := by decide +kernel
theorem dX5_digitHere_4 : decode cX5_digitHere 4 = .ok (.aload_n 0, 1) := by decide +kernel
theorem dX5_digitHere_5 : decode cX5_digitHere 5 = .ok (.getfield 15, 3) := by decide +kernel
theorem dX5_digitHere_8 : decode cX5_digitHere 8 = .ok (.if_icmp .ge 18, 3) := by decide +kernel
theorem dX5_digitHere_11 : decode cX5_digitHere 11 = .ok (.aload_n 0, 1) := by decide +kernel
theorem dX5_digitHere_12 : decode cX5_digitHere 12 = .ok (.getfield 9, 3) := by decide +kernel
theorem dX5_digitHere_15 : decode cX5_digitHere 15 = .ok (.aload_n 0, 1) := by decide +kernel
theorem dX5_digitHere_16 : decode cX5_digitHere 16 = .ok (.getfield 19, 3) := by decide +kernel
theorem dX5_digitHere_19 : decode cX5_digitHere 19 = .ok (.caload, 1) := by decide +kernel
theorem dX5_digitHere_20 : decode cX5_digitHere 20 = .ok (.bipush 48, 2) := by decide +kernel
theorem dX5_digitHere_22 : decode cX5_digitHere 22 = .ok (.isub, 1) := by decide +kernel
theorem dX5_digitHere_23 : decode cX5_digitHere 23 = .ok (.goto 4, 3) := by decide +kernel
theorem dX5_digitHere_26 : decode cX5_digitHere 26 = .ok (.iconst (-1), 1) := by decide +kernel
theorem dX5_digitHere_27 : decode cX5_digitHere 27 = .ok (.istore_n 2, 1) := by decide +kernel
theorem dX5_digitHere_28 : decode cX5_digitHere 28 = .ok (.iload_n 2, 1) := by decide +kernel
theorem dX5_digitHere_29 : decode cX5_digitHere 29 = .ok (.ifCond .lt 12, 3) := by decide +kernel
theorem dX5_digitHere_32 : decode cX5_digitHere 32 = .ok (.iload_n 2, 1) := by decide +kernel
theorem dX5_digitHere_33 : decode cX5_digitHere 33 = .ok (.iload_n 1, 1) := by decide +kernel
theorem dX5_digitHere_34 : decode cX5_digitHere 34 = .ok (.if_icmp .gt 7, 3) := by decide +kernel
theorem dX5_digitHere_37 : decode cX5_digitHere 37 = .ok (.iload_n 2, 1) := by decide +kernel
theorem dX5_digitHere_38 : decode cX5_digitHere 38 = .ok (.goto 4, 3) := by decide +kernel
theorem dX5_digitHere_41 : decode cX5_digitHere 41 = .ok (.iconst (-1), 1) := by decide +kernel
theorem dX5_digitHere_42 : decode cX5_digitHere 42 = .ok (.ireturn, 1) := by decide +kernel
theorem dX5_takesSign_0 : decode cX5_takesSign 0 = .ok (.aload_n 0, 1) := by decide +kernel
theorem dX5_takesSign_1 : decode cX5_takesSign 1 = .ok (.invokevirtual 33, 3) := by decide +kernel
theorem dX5_takesSign_4 : decode cX5_takesSign 4 = .ok (.aload_n 0, 1) := by decide +kernel
theorem dX5_takesSign_5 : decode cX5_takesSign 5 = .ok (.getfield 19, 3) := by decide +kernel
theorem dX5_takesSign_8 : decode cX5_takesSign 8 = .ok (.aload_n 0, 1) := by decide +kernel
theorem dX5_takesSign_9 : decode cX5_takesSign 9 = .ok (.getfield 15, 3) := by decide +kernel
theorem dX5_takesSign_12 : decode cX5_takesSign 12 = .ok (.if_icmp .ge 28, 3) := by decide +kernel
theorem dX5_takesSign_15 : decode cX5_takesSign 15 = .ok (.aload_n 0, 1) := by decide +kernel
theorem dX5_takesSign_16 : decode cX5_takesSign 16 = .ok (.getfield 9, 3) := by decide +kernel
theorem dX5_takesSign_19 : decode cX5_takesSign 19 = .ok (.aload_n 0, 1) := by decide +kernel
theorem dX5_takesSign_20 : decode cX5_takesSign 20 = .ok (.getfield 19, 3) := by decide +kernel
theorem dX5_takesSign_23 : decode cX5_takesSign 23 = .ok (.caload, 1) := by decide +kernel
theorem dX5_takesSign_24 : decode cX5_takesSign 24 = .ok (.iload_n 1, 1) := by decide +kernel
theorem dX5_takesSign_25 : decode cX5_takesSign 25 = .ok (.if_icmp .ne 15, 3) := by decide +kernel
theorem dX5_takesSign_28 : decode cX5_takesSign 28 = .ok (.aload_n 0, 1) := by decide +kernel
theorem dX5_takesSign_29 : decode cX5_takesSign 29 = .ok (.dup, 1) := by decide +kernel
theorem dX5_takesSign_30 : decode cX5_takesSign 30 = .ok (.getfield 19, 3) := by decide +kernel
theorem dX5_takesSign_33 : decode cX5_takesSign 33 = .ok (.iconst 1, 1) := by decide +kernel
theorem dX5_takesSign_34 : decode cX5_takesSign 34 = .ok (.iadd, 1) := by decide +kernel
theorem dX5_takesSign_35 : decode cX5_takesSign 35 = .ok (.putfield 19, 3) := by decide +kernel
theorem dX5_takesSign_38 : decode cX5_takesSign 38 = .ok (.iconst 1, 1) := by decide +kernel
theorem dX5_takesSign_39 : decode cX5_takesSign 39 = .ok (.ireturn, 1) := by decide +kernel
theorem dX5_takesSign_40 : decode cX5_takesSign 40 = .ok (.iconst 0, 1) := by decide +kernel
theorem dX5_takesSign_41 : decode cX5_takesSign 41 = .ok (.ireturn, 1) := by decide +kernel
theorem dX5_skipBlanks_0 : decode cX5_skipBlanks 0 = .ok (.aload_n 0, 1) := by decide +kernel
theorem dX5_skipBlanks_1 : decode cX5_skipBlanks 1 = .ok (.getfield 19, 3) := by decide +kernel
theorem dX5_skipBlanks_4 : decode cX5_skipBlanks 4 = .ok (.aload_n 0, 1) := by decide +kernel
theorem dX5_skipBlanks_5 : decode cX5_skipBlanks 5 = .ok (.getfield 15, 3) := by decide +kernel
theorem dX5_skipBlanks_8 : decode cX5_skipBlanks 8 = .ok (.if_icmp .ge 30, 3) := by decide +kernel
theorem dX5_skipBlanks_11 : decode cX5_skipBlanks 11 = .ok (.aload_n 0, 1) := by decide +kernel
theorem dX5_skipBlanks_12 : decode cX5_skipBlanks 12 = .ok (.getfield 9, 3) := by decide +kernel
theorem dX5_skipBlanks_15 : decode cX5_skipBlanks 15 = .ok (.aload_n 0, 1) := by decide +kernel
theorem dX5_skipBlanks_16 : decode cX5_skipBlanks 16 = .ok (.getfield 19, 3) := by decide +kernel
theorem dX5_skipBlanks_19 : decode cX5_skipBlanks 19 = .ok (.caload, 1) := by decide +kernel
theorem dX5_skipBlanks_20 : decode cX5_skipBlanks 20 = .ok (.bipush 32, 2) := by decide +kernel
theorem dX5_skipBlanks_22 : decode cX5_skipBlanks 22 = .ok (.if_icmp .ne 16, 3) := by decide +kernel
theorem dX5_skipBlanks_25 : decode cX5_skipBlanks 25 = .ok (.aload_n 0, 1) := by decide +kernel
theorem dX5_skipBlanks_26 : decode cX5_skipBlanks 26 = .ok (.dup, 1) := by decide +kernel
theorem dX5_skipBlanks_27 : decode cX5_skipBlanks 27 = .ok (.getfield 19, 3) := by decide +kernel
theorem dX5_skipBlanks_30 : decode cX5_skipBlanks 30 = .ok (.iconst 1, 1) := by decide +kernel
theorem dX5_skipBlanks_31 : decode cX5_skipBlanks 31 = .ok (.iadd, 1) := by decide +kernel
theorem dX5_skipBlanks_32 : decode cX5_skipBlanks 32 = .ok (.putfield 19, 3) := by decide +kernel
theorem dX5_skipBlanks_35 : decode cX5_skipBlanks 35 = .ok (.goto (-35), 3) := by decide +kernel
theorem dX5_skipBlanks_38 : decode cX5_skipBlanks 38 = .ok (.return_, 1) := by decide +kernel
