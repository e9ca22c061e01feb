theorem dg0_dL_lexicon : Jvm.Free.DS.Facts cL_lexicon 0 [(.aload_n 2, 1), (.iconst 0, 1), (.aload_n 0, 1), (.iload_n 1, 1), (.invokevirtual 7, 3), (.i2l, 1), (.lastore, 1), (.goto 6, 3), (.astore_n 3, 1), (.iconst 1, 1), (.ireturn, 1), (.iconst 0, 1), (.ireturn, 1)] := Jvm.Free.DS.facts 0 _ (by decide +kernel) (by decide +kernel)
theorem dL_lexicon_0 : decode cL_lexicon 0 = .ok (.aload_n 2, 1) := dg0_dL_lexicon.1
theorem dL_lexicon_1 : decode cL_lexicon 1 = .ok (.iconst 0, 1) := dg0_dL_lexicon.2.1
theorem dL_lexicon_2 : decode cL_lexicon 2 = .ok (.aload_n 0, 1) := dg0_dL_lexicon.2.2.1
theorem dL_lexicon_3 : decode cL_lexicon 3 = .ok (.iload_n 1, 1) := dg0_dL_lexicon.2.2.2.1
theorem dL_lexicon_4 : decode cL_lexicon 4 = .ok (.invokevirtual 7, 3) := dg0_dL_lexicon.2.2.2.2.1
theorem dL_lexicon_7 : decode cL_lexicon 7 = .ok (.i2l, 1) := dg0_dL_lexicon.2.2.2.2.2.1
theorem dL_lexicon_8 : decode cL_lexicon 8 = .ok (.lastore, 1) := dg0_dL_lexicon.2.2.2.2.2.2.1
theorem dL_lexicon_9 : decode cL_lexicon 9 = .ok (.goto 6, 3) := dg0_dL_lexicon.2.2.2.2.2.2.2.1
theorem dL_lexicon_12 : decode cL_lexicon 12 = .ok (.astore_n 3, 1) := dg0_dL_lexicon.2.2.2.2.2.2.2.2.1
theorem dL_lexicon_13 : decode cL_lexicon 13 = .ok (.iconst 1, 1) := dg0_dL_lexicon.2.2.2.2.2.2.2.2.2.1
theorem dL_lexicon_14 : decode cL_lexicon 14 = .ok (.ireturn, 1) := dg0_dL_lexicon.2.2.2.2.2.2.2.2.2.2.1
theorem dL_lexicon_15 : decode cL_lexicon 15 = .ok (.iconst 0, 1) := dg0_dL_lexicon.2.2.2.2.2.2.2.2.2.2.2.1
theorem dL_lexicon_16 : decode cL_lexicon 16 = .ok (.ireturn, 1) := dg0_dL_lexicon.2.2.2.2.2.2.2.2.2.2.2.2.1
theorem dg1_dL_shapes : Jvm.Free.DS.Facts cL_shapes 0 [(.aload_n 2, 1), (.iconst 0, 1), (.aload_n 0, 1), (.iload_n 1, 1), (.invokevirtual 15, 3), (.i2l, 1), (.lastore, 1), (.goto 6, 3), (.astore_n 3, 1), (.iconst 1, 1), (.ireturn, 1), (.iconst 0, 1), (.ireturn, 1)] := Jvm.Free.DS.facts 0 _ (by decide +kernel) (by decide +kernel)
theorem dL_shapes_0 : decode cL_shapes 0 = .ok (.aload_n 2, 1) := dg1_dL_shapes.1
theorem dL_shapes_1 : decode cL_shapes 1 = .ok (.iconst 0, 1) := dg1_dL_shapes.2.1
theorem dL_shapes_2 : decode cL_shapes 2 = .ok (.aload_n 0, 1) := dg1_dL_shapes.2.2.1
theorem dL_shapes_3 : decode cL_shapes 3 = .ok (.iload_n 1, 1) := dg1_dL_shapes.2.2.2.1
theorem dL_shapes_4 : decode cL_shapes 4 = .ok (.invokevirtual 15, 3) := dg1_dL_shapes.2.2.2.2.1
theorem dL_shapes_7 : decode cL_shapes 7 = .ok (.i2l, 1) := dg1_dL_shapes.2.2.2.2.2.1
theorem dL_shapes_8 : decode cL_shapes 8 = .ok (.lastore, 1) := dg1_dL_shapes.2.2.2.2.2.2.1
theorem dL_shapes_9 : decode cL_shapes 9 = .ok (.goto 6, 3) := dg1_dL_shapes.2.2.2.2.2.2.2.1
theorem dL_shapes_12 : decode cL_shapes 12 = .ok (.astore_n 3, 1) := dg1_dL_shapes.2.2.2.2.2.2.2.2.1
theorem dL_shapes_13 : decode cL_shapes 13 = .ok (.iconst 1, 1) := dg1_dL_shapes.2.2.2.2.2.2.2.2.2.1
theorem dL_shapes_14 : decode cL_shapes 14 = .ok (.ireturn, 1) := dg1_dL_shapes.2.2.2.2.2.2.2.2.2.2.1
theorem dL_shapes_15 : decode cL_shapes 15 = .ok (.iconst 0, 1) := dg1_dL_shapes.2.2.2.2.2.2.2.2.2.2.2.1
theorem dL_shapes_16 : decode cL_shapes 16 = .ok (.ireturn, 1) := dg1_dL_shapes.2.2.2.2.2.2.2.2.2.2.2.2.1
theorem dg2_dL_reading : Jvm.Free.DS.Facts cL_reading 0 [(.aload_n 2, 1), (.iconst 0, 1), (.aload_n 0, 1), (.iload_n 1, 1), (.invokevirtual 18, 3), (.i2l, 1), (.lastore, 1), (.goto 6, 3), (.astore_n 3, 1), (.iconst 1, 1), (.ireturn, 1), (.iconst 0, 1), (.ireturn, 1)] := Jvm.Free.DS.facts 0 _ (by decide +kernel) (by decide +kernel)
theorem dL_reading_0 : decode cL_reading 0 = .ok (.aload_n 2, 1) := dg2_dL_reading.1
theorem dL_reading_1 : decode cL_reading 1 = .ok (.iconst 0, 1) := dg2_dL_reading.2.1
theorem dL_reading_2 : decode cL_reading 2 = .ok (.aload_n 0, 1) := dg2_dL_reading.2.2.1
theorem dL_reading_3 : decode cL_reading 3 = .ok (.iload_n 1, 1) := dg2_dL_reading.2.2.2.1
theorem dL_reading_4 : decode cL_reading 4 = .ok (.invokevirtual 18, 3) := dg2_dL_reading.2.2.2.2.1
theorem dL_reading_7 : decode cL_reading 7 = .ok (.i2l, 1) := dg2_dL_reading.2.2.2.2.2.1
theorem dL_reading_8 : decode cL_reading 8 = .ok (.lastore, 1) := dg2_dL_reading.2.2.2.2.2.2.1
theorem dL_reading_9 : decode cL_reading 9 = .ok (.goto 6, 3) := dg2_dL_reading.2.2.2.2.2.2.2.1
theorem dL_reading_12 : decode cL_reading 12 = .ok (.astore_n 3, 1) := dg2_dL_reading.2.2.2.2.2.2.2.2.1
theorem dL_reading_13 : decode cL_reading 13 = .ok (.iconst 1, 1) := dg2_dL_reading.2.2.2.2.2.2.2.2.2.1
theorem dL_reading_14 : decode cL_reading 14 = .ok (.ireturn, 1) := dg2_dL_reading.2.2.2.2.2.2.2.2.2.2.1
theorem dL_reading_15 : decode cL_reading 15 = .ok (.iconst 0, 1) := dg2_dL_reading.2.2.2.2.2.2.2.2.2.2.2.1
theorem dL_reading_16 : decode cL_reading 16 = .ok (.ireturn, 1) := dg2_dL_reading.2.2.2.2.2.2.2.2.2.2.2.2.1
theorem dg3_dL_follows : Jvm.Free.DS.Facts cL_follows 0 [(.aload_n 2, 1), (.iconst 0, 1), (.aload_n 0, 1), (.iload_n 1, 1), (.invokevirtual 21, 3), (.i2l, 1), (.lastore, 1), (.goto 6, 3), (.astore_n 3, 1), (.iconst 1, 1), (.ireturn, 1), (.iconst 0, 1), (.ireturn, 1)] := Jvm.Free.DS.facts 0 _ (by decide +kernel) (by decide +kernel)
theorem dL_follows_0 : decode cL_follows 0 = .ok (.aload_n 2, 1) := dg3_dL_follows.1
theorem dL_follows_1 : decode cL_follows 1 = .ok (.iconst 0, 1) := dg3_dL_follows.2.1
theorem dL_follows_2 : decode cL_follows 2 = .ok (.aload_n 0, 1) := dg3_dL_follows.2.2.1
theorem dL_follows_3 : decode cL_follows 3 = .ok (.iload_n 1, 1) := dg3_dL_follows.2.2.2.1
theorem dL_follows_4 : decode cL_follows 4 = .ok (.invokevirtual 21, 3) := dg3_dL_follows.2.2.2.2.1
theorem dL_follows_7 : decode cL_follows 7 = .ok (.i2l, 1) := dg3_dL_follows.2.2.2.2.2.1
theorem dL_follows_8 : decode cL_follows 8 = .ok (.lastore, 1) := dg3_dL_follows.2.2.2.2.2.2.1
theorem dL_follows_9 : decode cL_follows 9 = .ok (.goto 6, 3) := dg3_dL_follows.2.2.2.2.2.2.2.1
theorem dL_follows_12 : decode cL_follows 12 = .ok (.astore_n 3, 1) := dg3_dL_follows.2.2.2.2.2.2.2.2.1
theorem dL_follows_13 : decode cL_follows 13 = .ok (.iconst 1, 1) := dg3_dL_follows.2.2.2.2.2.2.2.2.2.1
theorem dL_follows_14 : decode cL_follows 14 = .ok (.ireturn, 1) := dg3_dL_follows.2.2.2.2.2.2.2.2.2.2.1
theorem dL_follows_15 : decode cL_follows 15 = .ok (.iconst 0, 1) := dg3_dL_follows.2.2.2.2.2.2.2.2.2.2.2.1
theorem dL_follows_16 : decode cL_follows 16 = .ok (.ireturn, 1) := dg3_dL_follows.2.2.2.2.2.2.2.2.2.2.2.2.1
theorem dg4_dL_set : Jvm.Free.DS.Facts cL_set 0 [(.aload_n 3, 1), (.iconst 0, 1), (.aload_n 0, 1), (.iload_n 1, 1), (.iload_n 2, 1), (.invokevirtual 24, 3), (.i2l, 1), (.lastore, 1), (.goto 7, 3), (.astore 4, 2), (.iconst 1, 1), (.ireturn, 1), (.iconst 0, 1), (.ireturn, 1)] := Jvm.Free.DS.facts 0 _ (by decide +kernel) (by decide +kernel)
theorem dL_set_0 : decode cL_set 0 = .ok (.aload_n 3, 1) := dg4_dL_set.1
theorem dL_set_1 : decode cL_set 1 = .ok (.iconst 0, 1) := dg4_dL_set.2.1
theorem dL_set_2 : decode cL_set 2 = .ok (.aload_n 0, 1) := dg4_dL_set.2.2.1
theorem dL_set_3 : decode cL_set 3 = .ok (.iload_n 1, 1) := dg4_dL_set.2.2.2.1
theorem dL_set_4 : decode cL_set 4 = .ok (.iload_n 2, 1) := dg4_dL_set.2.2.2.2.1
theorem dL_set_5 : decode cL_set 5 = .ok (.invokevirtual 24, 3) := dg4_dL_set.2.2.2.2.2.1
theorem dL_set_8 : decode cL_set 8 = .ok (.i2l, 1) := dg4_dL_set.2.2.2.2.2.2.1
theorem dL_set_9 : decode cL_set 9 = .ok (.lastore, 1) := dg4_dL_set.2.2.2.2.2.2.2.1
theorem dL_set_10 : decode cL_set 10 = .ok (.goto 7, 3) := dg4_dL_set.2.2.2.2.2.2.2.2.1
theorem dL_set_13 : decode cL_set 13 = .ok (.astore 4, 2) := dg4_dL_set.2.2.2.2.2.2.2.2.2.1
theorem dL_set_15 : decode cL_set 15 = .ok (.iconst 1, 1) := dg4_dL_set.2.2.2.2.2.2.2.2.2.2.1
theorem dL_set_16 : decode cL_set 16 = .ok (.ireturn, 1) := dg4_dL_set.2.2.2.2.2.2.2.2.2.2.2.1
theorem dL_set_17 : decode cL_set 17 = .ok (.iconst 0, 1) := dg4_dL_set.2.2.2.2.2.2.2.2.2.2.2.2.1
theorem dL_set_18 : decode cL_set 18 = .ok (.ireturn, 1) := dg4_dL_set.2.2.2.2.2.2.2.2.2.2.2.2.2.1
theorem dg5_dL_weigh : Jvm.Free.DS.Facts cL_weigh 0 [(.aload_n 3, 1), (.iconst 0, 1), (.aload_n 0, 1), (.iload_n 1, 1), (.iload_n 2, 1), (.invokevirtual 28, 3), (.i2l, 1), (.lastore, 1), (.goto 11, 3), (.astore 4, 2), (.iconst 1, 1), (.ireturn, 1), (.astore 4, 2), (.iconst 2, 1), (.ireturn, 1), (.iconst 0, 1), (.ireturn, 1)] := Jvm.Free.DS.facts 0 _ (by decide +kernel) (by decide +kernel)
theorem dL_weigh_0 : decode cL_weigh 0 = .ok (.aload_n 3, 1) := dg5_dL_weigh.1
theorem dL_weigh_1 : decode cL_weigh 1 = .ok (.iconst 0, 1) := dg5_dL_weigh.2.1
theorem dL_weigh_2 : decode cL_weigh 2 = .ok (.aload_n 0, 1) := dg5_dL_weigh.2.2.1
theorem dL_weigh_3 : decode cL_weigh 3 = .ok (.iload_n 1, 1) := dg5_dL_weigh.2.2.2.1
theorem dL_weigh_4 : decode cL_weigh 4 = .ok (.iload_n 2, 1) := dg5_dL_weigh.2.2.2.2.1
theorem dL_weigh_5 : decode cL_weigh 5 = .ok (.invokevirtual 28, 3) := dg5_dL_weigh.2.2.2.2.2.1
theorem dL_weigh_8 : decode cL_weigh 8 = .ok (.i2l, 1) := dg5_dL_weigh.2.2.2.2.2.2.1
theorem dL_weigh_9 : decode cL_weigh 9 = .ok (.lastore, 1) := dg5_dL_weigh.2.2.2.2.2.2.2.1
theorem dL_weigh_10 : decode cL_weigh 10 = .ok (.goto 11, 3) := dg5_dL_weigh.2.2.2.2.2.2.2.2.1
theorem dL_weigh_13 : decode cL_weigh 13 = .ok (.astore 4, 2) := dg5_dL_weigh.2.2.2.2.2.2.2.2.2.1
theorem dL_weigh_15 : decode cL_weigh 15 = .ok (.iconst 1, 1) := dg5_dL_weigh.2.2.2.2.2.2.2.2.2.2.1
theorem dL_weigh_16 : decode cL_weigh 16 = .ok (.ireturn, 1) := dg5_dL_weigh.2.2.2.2.2.2.2.2.2.2.2.1
theorem dL_weigh_17 : decode cL_weigh 17 = .ok (.astore 4, 2) := dg5_dL_weigh.2.2.2.2.2.2.2.2.2.2.2.2.1
theorem dL_weigh_19 : decode cL_weigh 19 = .ok (.iconst 2, 1) := dg5_dL_weigh.2.2.2.2.2.2.2.2.2.2.2.2.2.1
theorem dL_weigh_20 : decode cL_weigh 20 = .ok (.ireturn, 1) := dg5_dL_weigh.2.2.2.2.2.2.2.2.2.2.2.2.2.2.1
theorem dL_weigh_21 : decode cL_weigh 21 = .ok (.iconst 0, 1) := dg5_dL_weigh.2.2.2.2.2.2.2.2.2.2.2.2.2.2.2.1
theorem dL_weigh_22 : decode cL_weigh 22 = .ok (.ireturn, 1) := dg5_dL_weigh.2.2.2.2.2.2.2.2.2.2.2.2.2.2.2.2.1
theorem dg6_dL_learn : Jvm.Free.DS.Facts cL_learn 0 [(.aload_n 2, 1), (.iconst 0, 1), (.aload_n 0, 1), (.iload_n 1, 1), (.invokevirtual 33, 3), (.i2l, 1), (.lastore, 1), (.goto 6, 3), (.astore_n 3, 1), (.iconst 1, 1), (.ireturn, 1), (.iconst 0, 1), (.ireturn, 1)] := Jvm.Free.DS.facts 0 _ (by decide +kernel) (by decide +kernel)
theorem dL_learn_0 : decode cL_learn 0 = .ok (.aload_n 2, 1) := dg6_dL_learn.1
theorem dL_learn_1 : decode cL_learn 1 = .ok (.iconst 0, 1) := dg6_dL_learn.2.1
theorem dL_learn_2 : decode cL_learn 2 = .ok (.aload_n 0, 1) := dg6_dL_learn.2.2.1
theorem dL_learn_3 : decode cL_learn 3 = .ok (.iload_n 1, 1) := dg6_dL_learn.2.2.2.1
theorem dL_learn_4 : decode cL_learn 4 = .ok (.invokevirtual 33, 3) := dg6_dL_learn.2.2.2.2.1
theorem dL_learn_7 : decode cL_learn 7 = .ok (.i2l, 1) := dg6_dL_learn.2.2.2.2.2.1
theorem dL_learn_8 : decode cL_learn 8 = .ok (.lastore, 1) := dg6_dL_learn.2.2.2.2.2.2.1
theorem dL_learn_9 : decode cL_learn 9 = .ok (.goto 6, 3) := dg6_dL_learn.2.2.2.2.2.2.2.1
theorem dL_learn_12 : decode cL_learn 12 = .ok (.astore_n 3, 1) := dg6_dL_learn.2.2.2.2.2.2.2.2.1
theorem dL_learn_13 : decode cL_learn 13 = .ok (.iconst 1, 1) := dg6_dL_learn.2.2.2.2.2.2.2.2.2.1
theorem dL_learn_14 : decode cL_learn 14 = .ok (.ireturn, 1) := dg6_dL_learn.2.2.2.2.2.2.2.2.2.2.1
theorem dL_learn_15 : decode cL_learn 15 = .ok (.iconst 0, 1) := dg6_dL_learn.2.2.2.2.2.2.2.2.2.2.2.1
theorem dL_learn_16 : decode cL_learn 16 = .ok (.ireturn, 1) := dg6_dL_learn.2.2.2.2.2.2.2.2.2.2.2.2.1
theorem dg7_dL_told : Jvm.Free.DS.Facts cL_told 0 [(.aload_n 2, 1), (.iconst 0, 1), (.aload_n 0, 1), (.iload_n 1, 1), (.invokevirtual 36, 3), (.i2l, 1), (.lastore, 1), (.goto 6, 3), (.astore_n 3, 1), (.iconst 1, 1), (.ireturn, 1), (.iconst 0, 1), (.ireturn, 1)] := Jvm.Free.DS.facts 0 _ (by decide +kernel) (by decide +kernel)
theorem dL_told_0 : decode cL_told 0 = .ok (.aload_n 2, 1) := dg7_dL_told.1
theorem dL_told_1 : decode cL_told 1 = .ok (.iconst 0, 1) := dg7_dL_told.2.1
theorem dL_told_2 : decode cL_told 2 = .ok (.aload_n 0, 1) := dg7_dL_told.2.2.1
theorem dL_told_3 : decode cL_told 3 = .ok (.iload_n 1, 1) := dg7_dL_told.2.2.2.1
theorem dL_told_4 : decode cL_told 4 = .ok (.invokevirtual 36, 3) := dg7_dL_told.2.2.2.2.1
theorem dL_told_7 : decode cL_told 7 = .ok (.i2l, 1) := dg7_dL_told.2.2.2.2.2.1
theorem dL_told_8 : decode cL_told 8 = .ok (.lastore, 1) := dg7_dL_told.2.2.2.2.2.2.1
theorem dL_told_9 : decode cL_told 9 = .ok (.goto 6, 3) := dg7_dL_told.2.2.2.2.2.2.2.1
theorem dL_told_12 : decode cL_told 12 = .ok (.astore_n 3, 1) := dg7_dL_told.2.2.2.2.2.2.2.2.1
theorem dL_told_13 : decode cL_told 13 = .ok (.iconst 1, 1) := dg7_dL_told.2.2.2.2.2.2.2.2.2.1
theorem dL_told_14 : decode cL_told 14 = .ok (.ireturn, 1) := dg7_dL_told.2.2.2.2.2.2.2.2.2.2.1
theorem dL_told_15 : decode cL_told 15 = .ok (.iconst 0, 1) := dg7_dL_told.2.2.2.2.2.2.2.2.2.2.2.1
theorem dL_told_16 : decode cL_told 16 = .ok (.ireturn, 1) := dg7_dL_told.2.2.2.2.2.2.2.2.2.2.2.2.1
theorem dg8_dL_word : Jvm.Free.DS.Facts cL_word 0 [(.aload_n 3, 1), (.iconst 0, 1), (.aload_n 0, 1), (.iload_n 1, 1), (.iload_n 2, 1), (.invokevirtual 39, 3), (.i2l, 1), (.lastore, 1), (.goto 11, 3), (.astore 4, 2), (.iconst 1, 1), (.ireturn, 1), (.astore 4, 2), (.iconst 2, 1), (.ireturn, 1), (.iconst 0, 1), (.ireturn, 1)] := Jvm.Free.DS.facts 0 _ (by decide +kernel) (by decide +kernel)
theorem dL_word_0 : decode cL_word 0 = .ok (.aload_n 3, 1) := dg8_dL_word.1
theorem dL_word_1 : decode cL_word 1 = .ok (.iconst 0, 1) := dg8_dL_word.2.1
theorem dL_word_2 : decode cL_word 2 = .ok (.aload_n 0, 1) := dg8_dL_word.2.2.1
theorem dL_word_3 : decode cL_word 3 = .ok (.iload_n 1, 1) := dg8_dL_word.2.2.2.1
theorem dL_word_4 : decode cL_word 4 = .ok (.iload_n 2, 1) := dg8_dL_word.2.2.2.2.1
theorem dL_word_5 : decode cL_word 5 = .ok (.invokevirtual 39, 3) := dg8_dL_word.2.2.2.2.2.1
theorem dL_word_8 : decode cL_word 8 = .ok (.i2l, 1) := dg8_dL_word.2.2.2.2.2.2.1
theorem dL_word_9 : decode cL_word 9 = .ok (.lastore, 1) := dg8_dL_word.2.2.2.2.2.2.2.1
theorem dL_word_10 : decode cL_word 10 = .ok (.goto 11, 3) := dg8_dL_word.2.2.2.2.2.2.2.2.1
theorem dL_word_13 : decode cL_word 13 = .ok (.astore 4, 2) := dg8_dL_word.2.2.2.2.2.2.2.2.2.1
theorem dL_word_15 : decode cL_word 15 = .ok (.iconst 1, 1) := dg8_dL_word.2.2.2.2.2.2.2.2.2.2.1
theorem dL_word_16 : decode cL_word 16 = .ok (.ireturn, 1) := dg8_dL_word.2.2.2.2.2.2.2.2.2.2.2.1
theorem dL_word_17 : decode cL_word 17 = .ok (.astore 4, 2) := dg8_dL_word.2.2.2.2.2.2.2.2.2.2.2.2.1
theorem dL_word_19 : decode cL_word 19 = .ok (.iconst 2, 1) := dg8_dL_word.2.2.2.2.2.2.2.2.2.2.2.2.2.1
theorem dL_word_20 : decode cL_word 20 = .ok (.ireturn, 1) := dg8_dL_word.2.2.2.2.2.2.2.2.2.2.2.2.2.2.1
theorem dL_word_21 : decode cL_word 21 = .ok (.iconst 0, 1) := dg8_dL_word.2.2.2.2.2.2.2.2.2.2.2.2.2.2.2.1
theorem dL_word_22 : decode cL_word 22 = .ok (.ireturn, 1) := dg8_dL_word.2.2.2.2.2.2.2.2.2.2.2.2.2.2.2.2.1
theorem dg9_dL_sign : Jvm.Free.DS.Facts cL_sign 0 [(.aload_n 3, 1), (.iconst 0, 1), (.aload_n 0, 1), (.iload_n 1, 1), (.iload_n 2, 1), (.invokevirtual 42, 3), (.i2l, 1), (.lastore, 1), (.goto 7, 3), (.astore 4, 2), (.iconst 1, 1), (.ireturn, 1), (.iconst 0, 1), (.ireturn, 1)] := Jvm.Free.DS.facts 0 _ (by decide +kernel) (by decide +kernel)
theorem dL_sign_0 : decode cL_sign 0 = .ok (.aload_n 3, 1) := dg9_dL_sign.1
theorem dL_sign_1 : decode cL_sign 1 = .ok (.iconst 0, 1) := dg9_dL_sign.2.1
theorem dL_sign_2 : decode cL_sign 2 = .ok (.aload_n 0, 1) := dg9_dL_sign.2.2.1
theorem dL_sign_3 : decode cL_sign 3 = .ok (.iload_n 1, 1) := dg9_dL_sign.2.2.2.1
theorem dL_sign_4 : decode cL_sign 4 = .ok (.iload_n 2, 1) := dg9_dL_sign.2.2.2.2.1
theorem dL_sign_5 : decode cL_sign 5 = .ok (.invokevirtual 42, 3) := dg9_dL_sign.2.2.2.2.2.1
theorem dL_sign_8 : decode cL_sign 8 = .ok (.i2l, 1) := dg9_dL_sign.2.2.2.2.2.2.1
theorem dL_sign_9 : decode cL_sign 9 = .ok (.lastore, 1) := dg9_dL_sign.2.2.2.2.2.2.2.1
theorem dL_sign_10 : decode cL_sign 10 = .ok (.goto 7, 3) := dg9_dL_sign.2.2.2.2.2.2.2.2.1
theorem dL_sign_13 : decode cL_sign 13 = .ok (.astore 4, 2) := dg9_dL_sign.2.2.2.2.2.2.2.2.2.1
theorem dL_sign_15 : decode cL_sign 15 = .ok (.iconst 1, 1) := dg9_dL_sign.2.2.2.2.2.2.2.2.2.2.1
theorem dL_sign_16 : decode cL_sign 16 = .ok (.ireturn, 1) := dg9_dL_sign.2.2.2.2.2.2.2.2.2.2.2.1
theorem dL_sign_17 : decode cL_sign 17 = .ok (.iconst 0, 1) := dg9_dL_sign.2.2.2.2.2.2.2.2.2.2.2.2.1
theorem dL_sign_18 : decode cL_sign 18 = .ok (.ireturn, 1) := dg9_dL_sign.2.2.2.2.2.2.2.2.2.2.2.2.2.1
theorem dg10_dL_find : Jvm.Free.DS.Facts cL_find 0 [(.aload_n 2, 1), (.iconst 0, 1), (.aload_n 0, 1), (.iload_n 1, 1), (.invokevirtual 45, 3), (.i2l, 1), (.lastore, 1), (.goto 6, 3), (.astore_n 3, 1), (.iconst 1, 1), (.ireturn, 1), (.iconst 0, 1), (.ireturn, 1)] := Jvm.Free.DS.facts 0 _ (by decide +kernel) (by decide +kernel)
theorem dL_find_0 : decode cL_find 0 = .ok (.aload_n 2, 1) := dg10_dL_find.1
theorem dL_find_1 : decode cL_find 1 = .ok (.iconst 0, 1) := dg10_dL_find.2.1
theorem dL_find_2 : decode cL_find 2 = .ok (.aload_n 0, 1) := dg10_dL_find.2.2.1
theorem dL_find_3 : decode cL_find 3 = .ok (.iload_n 1, 1) := dg10_dL_find.2.2.2.1
theorem dL_find_4 : decode cL_find 4 = .ok (.invokevirtual 45, 3) := dg10_dL_find.2.2.2.2.1
theorem dL_find_7 : decode cL_find 7 = .ok (.i2l, 1) := dg10_dL_find.2.2.2.2.2.1
theorem dL_find_8 : decode cL_find 8 = .ok (.lastore, 1) := dg10_dL_find.2.2.2.2.2.2.1
theorem dL_find_9 : decode cL_find 9 = .ok (.goto 6, 3) := dg10_dL_find.2.2.2.2.2.2.2.1
theorem dL_find_12 : decode cL_find 12 = .ok (.astore_n 3, 1) := dg10_dL_find.2.2.2.2.2.2.2.2.1
theorem dL_find_13 : decode cL_find 13 = .ok (.iconst 1, 1) := dg10_dL_find.2.2.2.2.2.2.2.2.2.1
theorem dL_find_14 : decode cL_find 14 = .ok (.ireturn, 1) := dg10_dL_find.2.2.2.2.2.2.2.2.2.2.1
theorem dL_find_15 : decode cL_find 15 = .ok (.iconst 0, 1) := dg10_dL_find.2.2.2.2.2.2.2.2.2.2.2.1
theorem dL_find_16 : decode cL_find 16 = .ok (.ireturn, 1) := dg10_dL_find.2.2.2.2.2.2.2.2.2.2.2.2.1
theorem dg11_dL_node : Jvm.Free.DS.Facts cL_node 0 [(.aload_n 3, 1), (.iconst 0, 1), (.aload_n 0, 1), (.iload_n 1, 1), (.iload_n 2, 1), (.invokevirtual 48, 3), (.i2l, 1), (.lastore, 1), (.goto 11, 3), (.astore 4, 2), (.iconst 1, 1), (.ireturn, 1), (.astore 4, 2), (.iconst 2, 1), (.ireturn, 1), (.iconst 0, 1), (.ireturn, 1)] := Jvm.Free.DS.facts 0 _ (by decide +kernel) (by decide +kernel)
theorem dL_node_0 : decode cL_node 0 = .ok (.aload_n 3, 1) := dg11_dL_node.1
theorem dL_node_1 : decode cL_node 1 = .ok (.iconst 0, 1) := dg11_dL_node.2.1
theorem dL_node_2 : decode cL_node 2 = .ok (.aload_n 0, 1) := dg11_dL_node.2.2.1
theorem dL_node_3 : decode cL_node 3 = .ok (.iload_n 1, 1) := dg11_dL_node.2.2.2.1
theorem dL_node_4 : decode cL_node 4 = .ok (.iload_n 2, 1) := dg11_dL_node.2.2.2.2.1
theorem dL_node_5 : decode cL_node 5 = .ok (.invokevirtual 48, 3) := dg11_dL_node.2.2.2.2.2.1
theorem dL_node_8 : decode cL_node 8 = .ok (.i2l, 1) := dg11_dL_node.2.2.2.2.2.2.1
theorem dL_node_9 : decode cL_node 9 = .ok (.lastore, 1) := dg11_dL_node.2.2.2.2.2.2.2.1
theorem dL_node_10 : decode cL_node 10 = .ok (.goto 11, 3) := dg11_dL_node.2.2.2.2.2.2.2.2.1
theorem dL_node_13 : decode cL_node 13 = .ok (.astore 4, 2) := dg11_dL_node.2.2.2.2.2.2.2.2.2.1
theorem dL_node_15 : decode cL_node 15 = .ok (.iconst 1, 1) := dg11_dL_node.2.2.2.2.2.2.2.2.2.2.1
theorem dL_node_16 : decode cL_node 16 = .ok (.ireturn, 1) := dg11_dL_node.2.2.2.2.2.2.2.2.2.2.2.1
theorem dL_node_17 : decode cL_node 17 = .ok (.astore 4, 2) := dg11_dL_node.2.2.2.2.2.2.2.2.2.2.2.2.1
theorem dL_node_19 : decode cL_node 19 = .ok (.iconst 2, 1) := dg11_dL_node.2.2.2.2.2.2.2.2.2.2.2.2.2.1
theorem dL_node_20 : decode cL_node 20 = .ok (.ireturn, 1) := dg11_dL_node.2.2.2.2.2.2.2.2.2.2.2.2.2.2.1
theorem dL_node_21 : decode cL_node 21 = .ok (.iconst 0, 1) := dg11_dL_node.2.2.2.2.2.2.2.2.2.2.2.2.2.2.2.1
theorem dL_node_22 : decode cL_node 22 = .ok (.ireturn, 1) := dg11_dL_node.2.2.2.2.2.2.2.2.2.2.2.2.2.2.2.2.1
theorem dg12_dL_child : Jvm.Free.DS.Facts cL_child 0 [(.aload_n 3, 1), (.iconst 0, 1), (.aload_n 0, 1), (.iload_n 1, 1), (.iload_n 2, 1), (.invokevirtual 51, 3), (.i2l, 1), (.lastore, 1), (.goto 7, 3), (.astore 4, 2), (.iconst 1, 1), (.ireturn, 1), (.iconst 0, 1), (.ireturn, 1)] := Jvm.Free.DS.facts 0 _ (by decide +kernel) (by decide +kernel)
theorem dL_child_0 : decode cL_child 0 = .ok (.aload_n 3, 1) := dg12_dL_child.1
theorem dL_child_1 : decode cL_child 1 = .ok (.iconst 0, 1) := dg12_dL_child.2.1
theorem dL_child_2 : decode cL_child 2 = .ok (.aload_n 0, 1) := dg12_dL_child.2.2.1
theorem dL_child_3 : decode cL_child 3 = .ok (.iload_n 1, 1) := dg12_dL_child.2.2.2.1
theorem dL_child_4 : decode cL_child 4 = .ok (.iload_n 2, 1) := dg12_dL_child.2.2.2.2.1
theorem dL_child_5 : decode cL_child 5 = .ok (.invokevirtual 51, 3) := dg12_dL_child.2.2.2.2.2.1
theorem dL_child_8 : decode cL_child 8 = .ok (.i2l, 1) := dg12_dL_child.2.2.2.2.2.2.1
theorem dL_child_9 : decode cL_child 9 = .ok (.lastore, 1) := dg12_dL_child.2.2.2.2.2.2.2.1
theorem dL_child_10 : decode cL_child 10 = .ok (.goto 7, 3) := dg12_dL_child.2.2.2.2.2.2.2.2.1
theorem dL_child_13 : decode cL_child 13 = .ok (.astore 4, 2) := dg12_dL_child.2.2.2.2.2.2.2.2.2.1
theorem dL_child_15 : decode cL_child 15 = .ok (.iconst 1, 1) := dg12_dL_child.2.2.2.2.2.2.2.2.2.2.1
theorem dL_child_16 : decode cL_child 16 = .ok (.ireturn, 1) := dg12_dL_child.2.2.2.2.2.2.2.2.2.2.2.1
theorem dL_child_17 : decode cL_child 17 = .ok (.iconst 0, 1) := dg12_dL_child.2.2.2.2.2.2.2.2.2.2.2.2.1
theorem dL_child_18 : decode cL_child 18 = .ok (.ireturn, 1) := dg12_dL_child.2.2.2.2.2.2.2.2.2.2.2.2.2.1
theorem dg13_dL_shape : Jvm.Free.DS.Facts cL_shape 0 [(.aload_n 3, 1), (.iconst 0, 1), (.aload_n 0, 1), (.iload_n 1, 1), (.iload_n 2, 1), (.invokevirtual 54, 3), (.i2l, 1), (.lastore, 1), (.goto 11, 3), (.astore 4, 2), (.iconst 1, 1), (.ireturn, 1), (.astore 4, 2), (.iconst 2, 1), (.ireturn, 1), (.iconst 0, 1), (.ireturn, 1)] := Jvm.Free.DS.facts 0 _ (by decide +kernel) (by decide +kernel)
theorem dL_shape_0 : decode cL_shape 0 = .ok (.aload_n 3, 1) := dg13_dL_shape.1
theorem dL_shape_1 : decode cL_shape 1 = .ok (.iconst 0, 1) := dg13_dL_shape.2.1
theorem dL_shape_2 : decode cL_shape 2 = .ok (.aload_n 0, 1) := dg13_dL_shape.2.2.1
theorem dL_shape_3 : decode cL_shape 3 = .ok (.iload_n 1, 1) := dg13_dL_shape.2.2.2.1
theorem dL_shape_4 : decode cL_shape 4 = .ok (.iload_n 2, 1) := dg13_dL_shape.2.2.2.2.1
theorem dL_shape_5 : decode cL_shape 5 = .ok (.invokevirtual 54, 3) := dg13_dL_shape.2.2.2.2.2.1
theorem dL_shape_8 : decode cL_shape 8 = .ok (.i2l, 1) := dg13_dL_shape.2.2.2.2.2.2.1
theorem dL_shape_9 : decode cL_shape 9 = .ok (.lastore, 1) := dg13_dL_shape.2.2.2.2.2.2.2.1
theorem dL_shape_10 : decode cL_shape 10 = .ok (.goto 11, 3) := dg13_dL_shape.2.2.2.2.2.2.2.2.1
theorem dL_shape_13 : decode cL_shape 13 = .ok (.astore 4, 2) := dg13_dL_shape.2.2.2.2.2.2.2.2.2.1
theorem dL_shape_15 : decode cL_shape 15 = .ok (.iconst 1, 1) := dg13_dL_shape.2.2.2.2.2.2.2.2.2.2.1
theorem dL_shape_16 : decode cL_shape 16 = .ok (.ireturn, 1) := dg13_dL_shape.2.2.2.2.2.2.2.2.2.2.2.1
theorem dL_shape_17 : decode cL_shape 17 = .ok (.astore 4, 2) := dg13_dL_shape.2.2.2.2.2.2.2.2.2.2.2.2.1
theorem dL_shape_19 : decode cL_shape 19 = .ok (.iconst 2, 1) := dg13_dL_shape.2.2.2.2.2.2.2.2.2.2.2.2.2.1
theorem dL_shape_20 : decode cL_shape 20 = .ok (.ireturn, 1) := dg13_dL_shape.2.2.2.2.2.2.2.2.2.2.2.2.2.2.1
theorem dL_shape_21 : decode cL_shape 21 = .ok (.iconst 0, 1) := dg13_dL_shape.2.2.2.2.2.2.2.2.2.2.2.2.2.2.2.1
theorem dL_shape_22 : decode cL_shape 22 = .ok (.ireturn, 1) := dg13_dL_shape.2.2.2.2.2.2.2.2.2.2.2.2.2.2.2.2.1
theorem dg14_dL_token : Jvm.Free.DS.Facts cL_token 0 [(.aload_n 3, 1), (.iconst 0, 1), (.aload_n 0, 1), (.iload_n 1, 1), (.iload_n 2, 1), (.invokevirtual 57, 3), (.i2l, 1), (.lastore, 1), (.goto 11, 3), (.astore 4, 2), (.iconst 1, 1), (.ireturn, 1), (.astore 4, 2), (.iconst 2, 1), (.ireturn, 1), (.iconst 0, 1), (.ireturn, 1)] := Jvm.Free.DS.facts 0 _ (by decide +kernel) (by decide +kernel)
theorem dL_token_0 : decode cL_token 0 = .ok (.aload_n 3, 1) := dg14_dL_token.1
theorem dL_token_1 : decode cL_token 1 = .ok (.iconst 0, 1) := dg14_dL_token.2.1
theorem dL_token_2 : decode cL_token 2 = .ok (.aload_n 0, 1) := dg14_dL_token.2.2.1
theorem dL_token_3 : decode cL_token 3 = .ok (.iload_n 1, 1) := dg14_dL_token.2.2.2.1
theorem dL_token_4 : decode cL_token 4 = .ok (.iload_n 2, 1) := dg14_dL_token.2.2.2.2.1
theorem dL_token_5 : decode cL_token 5 = .ok (.invokevirtual 57, 3) := dg14_dL_token.2.2.2.2.2.1
theorem dL_token_8 : decode cL_token 8 = .ok (.i2l, 1) := dg14_dL_token.2.2.2.2.2.2.1
theorem dL_token_9 : decode cL_token 9 = .ok (.lastore, 1) := dg14_dL_token.2.2.2.2.2.2.2.1
theorem dL_token_10 : decode cL_token 10 = .ok (.goto 11, 3) := dg14_dL_token.2.2.2.2.2.2.2.2.1
theorem dL_token_13 : decode cL_token 13 = .ok (.astore 4, 2) := dg14_dL_token.2.2.2.2.2.2.2.2.2.1
theorem dL_token_15 : decode cL_token 15 = .ok (.iconst 1, 1) := dg14_dL_token.2.2.2.2.2.2.2.2.2.2.1
theorem dL_token_16 : decode cL_token 16 = .ok (.ireturn, 1) := dg14_dL_token.2.2.2.2.2.2.2.2.2.2.2.1
theorem dL_token_17 : decode cL_token 17 = .ok (.astore 4, 2) := dg14_dL_token.2.2.2.2.2.2.2.2.2.2.2.2.1
theorem dL_token_19 : decode cL_token 19 = .ok (.iconst 2, 1) := dg14_dL_token.2.2.2.2.2.2.2.2.2.2.2.2.2.1
theorem dL_token_20 : decode cL_token 20 = .ok (.ireturn, 1) := dg14_dL_token.2.2.2.2.2.2.2.2.2.2.2.2.2.2.1
theorem dL_token_21 : decode cL_token 21 = .ok (.iconst 0, 1) := dg14_dL_token.2.2.2.2.2.2.2.2.2.2.2.2.2.2.2.1
theorem dL_token_22 : decode cL_token 22 = .ok (.ireturn, 1) := dg14_dL_token.2.2.2.2.2.2.2.2.2.2.2.2.2.2.2.2.1
theorem dg15_dL_cell : Jvm.Free.DS.Facts cL_cell 0 [(.aload 4, 2), (.iconst 0, 1), (.aload_n 0, 1), (.iload_n 1, 1), (.iload_n 2, 1), (.iload_n 3, 1), (.invokevirtual 60, 3), (.i2l, 1), (.lastore, 1), (.goto 11, 3), (.astore 5, 2), (.iconst 1, 1), (.ireturn, 1), (.astore 5, 2), (.iconst 2, 1), (.ireturn, 1), (.iconst 0, 1), (.ireturn, 1)] := Jvm.Free.DS.facts 0 _ (by decide +kernel) (by decide +kernel)
theorem dL_cell_0 : decode cL_cell 0 = .ok (.aload 4, 2) := dg15_dL_cell.1
theorem dL_cell_2 : decode cL_cell 2 = .ok (.iconst 0, 1) := dg15_dL_cell.2.1
theorem dL_cell_3 : decode cL_cell 3 = .ok (.aload_n 0, 1) := dg15_dL_cell.2.2.1
theorem dL_cell_4 : decode cL_cell 4 = .ok (.iload_n 1, 1) := dg15_dL_cell.2.2.2.1
theorem dL_cell_5 : decode cL_cell 5 = .ok (.iload_n 2, 1) := dg15_dL_cell.2.2.2.2.1
theorem dL_cell_6 : decode cL_cell 6 = .ok (.iload_n 3, 1) := dg15_dL_cell.2.2.2.2.2.1
theorem dL_cell_7 : decode cL_cell 7 = .ok (.invokevirtual 60, 3) := dg15_dL_cell.2.2.2.2.2.2.1
theorem dL_cell_10 : decode cL_cell 10 = .ok (.i2l, 1) := dg15_dL_cell.2.2.2.2.2.2.2.1
theorem dL_cell_11 : decode cL_cell 11 = .ok (.lastore, 1) := dg15_dL_cell.2.2.2.2.2.2.2.2.1
theorem dL_cell_12 : decode cL_cell 12 = .ok (.goto 11, 3) := dg15_dL_cell.2.2.2.2.2.2.2.2.2.1
theorem dL_cell_15 : decode cL_cell 15 = .ok (.astore 5, 2) := dg15_dL_cell.2.2.2.2.2.2.2.2.2.2.1
theorem dL_cell_17 : decode cL_cell 17 = .ok (.iconst 1, 1) := dg15_dL_cell.2.2.2.2.2.2.2.2.2.2.2.1
theorem dL_cell_18 : decode cL_cell 18 = .ok (.ireturn, 1) := dg15_dL_cell.2.2.2.2.2.2.2.2.2.2.2.2.1
theorem dL_cell_19 : decode cL_cell 19 = .ok (.astore 5, 2) := dg15_dL_cell.2.2.2.2.2.2.2.2.2.2.2.2.2.1
theorem dL_cell_21 : decode cL_cell 21 = .ok (.iconst 2, 1) := dg15_dL_cell.2.2.2.2.2.2.2.2.2.2.2.2.2.2.1
theorem dL_cell_22 : decode cL_cell 22 = .ok (.ireturn, 1) := dg15_dL_cell.2.2.2.2.2.2.2.2.2.2.2.2.2.2.2.1
theorem dL_cell_23 : decode cL_cell 23 = .ok (.iconst 0, 1) := dg15_dL_cell.2.2.2.2.2.2.2.2.2.2.2.2.2.2.2.2.1
theorem dL_cell_24 : decode cL_cell 24 = .ok (.ireturn, 1) := dg15_dL_cell.2.2.2.2.2.2.2.2.2.2.2.2.2.2.2.2.2.1
theorem dg16_dL_rest : Jvm.Free.DS.Facts cL_rest 0 [(.aload_n 3, 1), (.iconst 0, 1), (.aload_n 0, 1), (.iload_n 1, 1), (.iload_n 2, 1), (.invokevirtual 64, 3), (.i2l, 1), (.lastore, 1), (.goto 7, 3), (.astore 4, 2), (.iconst 1, 1), (.ireturn, 1), (.iconst 0, 1), (.ireturn, 1)] := Jvm.Free.DS.facts 0 _ (by decide +kernel) (by decide +kernel)
theorem dL_rest_0 : decode cL_rest 0 = .ok (.aload_n 3, 1) := dg16_dL_rest.1
theorem dL_rest_1 : decode cL_rest 1 = .ok (.iconst 0, 1) := dg16_dL_rest.2.1
theorem dL_rest_2 : decode cL_rest 2 = .ok (.aload_n 0, 1) := dg16_dL_rest.2.2.1
theorem dL_rest_3 : decode cL_rest 3 = .ok (.iload_n 1, 1) := dg16_dL_rest.2.2.2.1
theorem dL_rest_4 : decode cL_rest 4 = .ok (.iload_n 2, 1) := dg16_dL_rest.2.2.2.2.1
theorem dL_rest_5 : decode cL_rest 5 = .ok (.invokevirtual 64, 3) := dg16_dL_rest.2.2.2.2.2.1
theorem dL_rest_8 : decode cL_rest 8 = .ok (.i2l, 1) := dg16_dL_rest.2.2.2.2.2.2.1
theorem dL_rest_9 : decode cL_rest 9 = .ok (.lastore, 1) := dg16_dL_rest.2.2.2.2.2.2.2.1
theorem dL_rest_10 : decode cL_rest 10 = .ok (.goto 7, 3) := dg16_dL_rest.2.2.2.2.2.2.2.2.1
theorem dL_rest_13 : decode cL_rest 13 = .ok (.astore 4, 2) := dg16_dL_rest.2.2.2.2.2.2.2.2.2.1
theorem dL_rest_15 : decode cL_rest 15 = .ok (.iconst 1, 1) := dg16_dL_rest.2.2.2.2.2.2.2.2.2.2.1
theorem dL_rest_16 : decode cL_rest 16 = .ok (.ireturn, 1) := dg16_dL_rest.2.2.2.2.2.2.2.2.2.2.2.1
theorem dL_rest_17 : decode cL_rest 17 = .ok (.iconst 0, 1) := dg16_dL_rest.2.2.2.2.2.2.2.2.2.2.2.2.1
theorem dL_rest_18 : decode cL_rest 18 = .ok (.ireturn, 1) := dg16_dL_rest.2.2.2.2.2.2.2.2.2.2.2.2.2.1
theorem dg17_dL_best : Jvm.Free.DS.Facts cL_best 0 [(.aload 4, 2), (.iconst 0, 1), (.aload_n 0, 1), (.iload_n 1, 1), (.iload_n 2, 1), (.iload_n 3, 1), (.invokevirtual 67, 3), (.i2l, 1), (.lastore, 1), (.goto 11, 3), (.astore 5, 2), (.iconst 1, 1), (.ireturn, 1), (.astore 5, 2), (.iconst 2, 1), (.ireturn, 1), (.iconst 0, 1), (.ireturn, 1)] := Jvm.Free.DS.facts 0 _ (by decide +kernel) (by decide +kernel)
theorem dL_best_0 : decode cL_best 0 = .ok (.aload 4, 2) := dg17_dL_best.1
theorem dL_best_2 : decode cL_best 2 = .ok (.iconst 0, 1) := dg17_dL_best.2.1
theorem dL_best_3 : decode cL_best 3 = .ok (.aload_n 0, 1) := dg17_dL_best.2.2.1
theorem dL_best_4 : decode cL_best 4 = .ok (.iload_n 1, 1) := dg17_dL_best.2.2.2.1
theorem dL_best_5 : decode cL_best 5 = .ok (.iload_n 2, 1) := dg17_dL_best.2.2.2.2.1
theorem dL_best_6 : decode cL_best 6 = .ok (.iload_n 3, 1) := dg17_dL_best.2.2.2.2.2.1
theorem dL_best_7 : decode cL_best 7 = .ok (.invokevirtual 67, 3) := dg17_dL_best.2.2.2.2.2.2.1
theorem dL_best_10 : decode cL_best 10 = .ok (.i2l, 1) := dg17_dL_best.2.2.2.2.2.2.2.1
theorem dL_best_11 : decode cL_best 11 = .ok (.lastore, 1) := dg17_dL_best.2.2.2.2.2.2.2.2.1
theorem dL_best_12 : decode cL_best 12 = .ok (.goto 11, 3) := dg17_dL_best.2.2.2.2.2.2.2.2.2.1
theorem dL_best_15 : decode cL_best 15 = .ok (.astore 5, 2) := dg17_dL_best.2.2.2.2.2.2.2.2.2.2.1
theorem dL_best_17 : decode cL_best 17 = .ok (.iconst 1, 1) := dg17_dL_best.2.2.2.2.2.2.2.2.2.2.2.1
theorem dL_best_18 : decode cL_best 18 = .ok (.ireturn, 1) := dg17_dL_best.2.2.2.2.2.2.2.2.2.2.2.2.1
theorem dL_best_19 : decode cL_best 19 = .ok (.astore 5, 2) := dg17_dL_best.2.2.2.2.2.2.2.2.2.2.2.2.2.1
theorem dL_best_21 : decode cL_best 21 = .ok (.iconst 2, 1) := dg17_dL_best.2.2.2.2.2.2.2.2.2.2.2.2.2.2.1
theorem dL_best_22 : decode cL_best 22 = .ok (.ireturn, 1) := dg17_dL_best.2.2.2.2.2.2.2.2.2.2.2.2.2.2.2.1
theorem dL_best_23 : decode cL_best 23 = .ok (.iconst 0, 1) := dg17_dL_best.2.2.2.2.2.2.2.2.2.2.2.2.2.2.2.2.1
theorem dL_best_24 : decode cL_best 24 = .ok (.ireturn, 1) := dg17_dL_best.2.2.2.2.2.2.2.2.2.2.2.2.2.2.2.2.2.1
theorem dg18_dL_price : Jvm.Free.DS.Facts cL_price 0 [(.aload_n 3, 1), (.iconst 0, 1), (.aload_n 0, 1), (.iload_n 1, 1), (.iload_n 2, 1), (.invokevirtual 70, 3), (.i2l, 1), (.lastore, 1), (.goto 7, 3), (.astore 4, 2), (.iconst 1, 1), (.ireturn, 1), (.iconst 0, 1), (.ireturn, 1)] := Jvm.Free.DS.facts 0 _ (by decide +kernel) (by decide +kernel)
theorem dL_price_0 : decode cL_price 0 = .ok (.aload_n 3, 1) := dg18_dL_price.1
theorem dL_price_1 : decode cL_price 1 = .ok (.iconst 0, 1) := dg18_dL_price.2.1
theorem dL_price_2 : decode cL_price 2 = .ok (.aload_n 0, 1) := dg18_dL_price.2.2.1
theorem dL_price_3 : decode cL_price 3 = .ok (.iload_n 1, 1) := dg18_dL_price.2.2.2.1
theorem dL_price_4 : decode cL_price 4 = .ok (.iload_n 2, 1) := dg18_dL_price.2.2.2.2.1
theorem dL_price_5 : decode cL_price 5 = .ok (.invokevirtual 70, 3) := dg18_dL_price.2.2.2.2.2.1
theorem dL_price_8 : decode cL_price 8 = .ok (.i2l, 1) := dg18_dL_price.2.2.2.2.2.2.1
theorem dL_price_9 : decode cL_price 9 = .ok (.lastore, 1) := dg18_dL_price.2.2.2.2.2.2.2.1
theorem dL_price_10 : decode cL_price 10 = .ok (.goto 7, 3) := dg18_dL_price.2.2.2.2.2.2.2.2.1
theorem dL_price_13 : decode cL_price 13 = .ok (.astore 4, 2) := dg18_dL_price.2.2.2.2.2.2.2.2.2.1
theorem dL_price_15 : decode cL_price 15 = .ok (.iconst 1, 1) := dg18_dL_price.2.2.2.2.2.2.2.2.2.2.1
theorem dL_price_16 : decode cL_price 16 = .ok (.ireturn, 1) := dg18_dL_price.2.2.2.2.2.2.2.2.2.2.2.1
theorem dL_price_17 : decode cL_price 17 = .ok (.iconst 0, 1) := dg18_dL_price.2.2.2.2.2.2.2.2.2.2.2.2.1
theorem dL_price_18 : decode cL_price 18 = .ok (.ireturn, 1) := dg18_dL_price.2.2.2.2.2.2.2.2.2.2.2.2.2.1
theorem dg19_dL_within : Jvm.Free.DS.Facts cL_within 0 [(.aload_n 3, 1), (.iconst 0, 1), (.aload_n 0, 1), (.iload_n 1, 1), (.iload_n 2, 1), (.invokevirtual 73, 3), (.i2l, 1), (.lastore, 1), (.goto 11, 3), (.astore 4, 2), (.iconst 1, 1), (.ireturn, 1), (.astore 4, 2), (.iconst 2, 1), (.ireturn, 1), (.iconst 0, 1), (.ireturn, 1)] := Jvm.Free.DS.facts 0 _ (by decide +kernel) (by decide +kernel)
theorem dL_within_0 : decode cL_within 0 = .ok (.aload_n 3, 1) := dg19_dL_within.1
theorem dL_within_1 : decode cL_within 1 = .ok (.iconst 0, 1) := dg19_dL_within.2.1
theorem dL_within_2 : decode cL_within 2 = .ok (.aload_n 0, 1) := dg19_dL_within.2.2.1
theorem dL_within_3 : decode cL_within 3 = .ok (.iload_n 1, 1) := dg19_dL_within.2.2.2.1
theorem dL_within_4 : decode cL_within 4 = .ok (.iload_n 2, 1) := dg19_dL_within.2.2.2.2.1
theorem dL_within_5 : decode cL_within 5 = .ok (.invokevirtual 73, 3) := dg19_dL_within.2.2.2.2.2.1
theorem dL_within_8 : decode cL_within 8 = .ok (.i2l, 1) := dg19_dL_within.2.2.2.2.2.2.1
theorem dL_within_9 : decode cL_within 9 = .ok (.lastore, 1) := dg19_dL_within.2.2.2.2.2.2.2.1
theorem dL_within_10 : decode cL_within 10 = .ok (.goto 11, 3) := dg19_dL_within.2.2.2.2.2.2.2.2.1
theorem dL_within_13 : decode cL_within 13 = .ok (.astore 4, 2) := dg19_dL_within.2.2.2.2.2.2.2.2.2.1
theorem dL_within_15 : decode cL_within 15 = .ok (.iconst 1, 1) := dg19_dL_within.2.2.2.2.2.2.2.2.2.2.1
theorem dL_within_16 : decode cL_within 16 = .ok (.ireturn, 1) := dg19_dL_within.2.2.2.2.2.2.2.2.2.2.2.1
theorem dL_within_17 : decode cL_within 17 = .ok (.astore 4, 2) := dg19_dL_within.2.2.2.2.2.2.2.2.2.2.2.2.1
theorem dL_within_19 : decode cL_within 19 = .ok (.iconst 2, 1) := dg19_dL_within.2.2.2.2.2.2.2.2.2.2.2.2.2.1
theorem dL_within_20 : decode cL_within 20 = .ok (.ireturn, 1) := dg19_dL_within.2.2.2.2.2.2.2.2.2.2.2.2.2.2.1
theorem dL_within_21 : decode cL_within 21 = .ok (.iconst 0, 1) := dg19_dL_within.2.2.2.2.2.2.2.2.2.2.2.2.2.2.2.1
theorem dL_within_22 : decode cL_within 22 = .ok (.ireturn, 1) := dg19_dL_within.2.2.2.2.2.2.2.2.2.2.2.2.2.2.2.2.1
theorem dg20_dL_mended : Jvm.Free.DS.Facts cL_mended 0 [(.aload_n 3, 1), (.iconst 0, 1), (.aload_n 0, 1), (.iload_n 1, 1), (.iload_n 2, 1), (.invokevirtual 76, 3), (.i2l, 1), (.lastore, 1), (.goto 11, 3), (.astore 4, 2), (.iconst 1, 1), (.ireturn, 1), (.astore 4, 2), (.iconst 2, 1), (.ireturn, 1), (.iconst 0, 1), (.ireturn, 1)] := Jvm.Free.DS.facts 0 _ (by decide +kernel) (by decide +kernel)
theorem dL_mended_0 : decode cL_mended 0 = .ok (.aload_n 3, 1) := dg20_dL_mended.1
theorem dL_mended_1 : decode cL_mended 1 = .ok (.iconst 0, 1) := dg20_dL_mended.2.1
theorem dL_mended_2 : decode cL_mended 2 = .ok (.aload_n 0, 1) := dg20_dL_mended.2.2.1
theorem dL_mended_3 : decode cL_mended 3 = .ok (.iload_n 1, 1) := dg20_dL_mended.2.2.2.1
theorem dL_mended_4 : decode cL_mended 4 = .ok (.iload_n 2, 1) := dg20_dL_mended.2.2.2.2.1
theorem dL_mended_5 : decode cL_mended 5 = .ok (.invokevirtual 76, 3) := dg20_dL_mended.2.2.2.2.2.1
theorem dL_mended_8 : decode cL_mended 8 = .ok (.i2l, 1) := dg20_dL_mended.2.2.2.2.2.2.1
theorem dL_mended_9 : decode cL_mended 9 = .ok (.lastore, 1) := dg20_dL_mended.2.2.2.2.2.2.2.1
theorem dL_mended_10 : decode cL_mended 10 = .ok (.goto 11, 3) := dg20_dL_mended.2.2.2.2.2.2.2.2.1
theorem dL_mended_13 : decode cL_mended 13 = .ok (.astore 4, 2) := dg20_dL_mended.2.2.2.2.2.2.2.2.2.1
theorem dL_mended_15 : decode cL_mended 15 = .ok (.iconst 1, 1) := dg20_dL_mended.2.2.2.2.2.2.2.2.2.2.1
theorem dL_mended_16 : decode cL_mended 16 = .ok (.ireturn, 1) := dg20_dL_mended.2.2.2.2.2.2.2.2.2.2.2.1
theorem dL_mended_17 : decode cL_mended 17 = .ok (.astore 4, 2) := dg20_dL_mended.2.2.2.2.2.2.2.2.2.2.2.2.1
theorem dL_mended_19 : decode cL_mended 19 = .ok (.iconst 2, 1) := dg20_dL_mended.2.2.2.2.2.2.2.2.2.2.2.2.2.1
theorem dL_mended_20 : decode cL_mended 20 = .ok (.ireturn, 1) := dg20_dL_mended.2.2.2.2.2.2.2.2.2.2.2.2.2.2.1
theorem dL_mended_21 : decode cL_mended 21 = .ok (.iconst 0, 1) := dg20_dL_mended.2.2.2.2.2.2.2.2.2.2.2.2.2.2.2.1
theorem dL_mended_22 : decode cL_mended 22 = .ok (.ireturn, 1) := dg20_dL_mended.2.2.2.2.2.2.2.2.2.2.2.2.2.2.2.2.1
theorem dg21_dL_text : Jvm.Free.DS.Facts cL_text 0 [(.aload_n 2, 1), (.iconst 0, 1), (.aload_n 0, 1), (.iload_n 1, 1), (.invokevirtual 79, 3), (.i2l, 1), (.lastore, 1), (.goto 6, 3), (.astore_n 3, 1), (.iconst 1, 1), (.ireturn, 1), (.iconst 0, 1), (.ireturn, 1)] := Jvm.Free.DS.facts 0 _ (by decide +kernel) (by decide +kernel)
theorem dL_text_0 : decode cL_text 0 = .ok (.aload_n 2, 1) := dg21_dL_text.1
theorem dL_text_1 : decode cL_text 1 = .ok (.iconst 0, 1) := dg21_dL_text.2.1
theorem dL_text_2 : decode cL_text 2 = .ok (.aload_n 0, 1) := dg21_dL_text.2.2.1
theorem dL_text_3 : decode cL_text 3 = .ok (.iload_n 1, 1) := dg21_dL_text.2.2.2.1
theorem dL_text_4 : decode cL_text 4 = .ok (.invokevirtual 79, 3) := dg21_dL_text.2.2.2.2.1
theorem dL_text_7 : decode cL_text 7 = .ok (.i2l, 1) := dg21_dL_text.2.2.2.2.2.1
theorem dL_text_8 : decode cL_text 8 = .ok (.lastore, 1) := dg21_dL_text.2.2.2.2.2.2.1
theorem dL_text_9 : decode cL_text 9 = .ok (.goto 6, 3) := dg21_dL_text.2.2.2.2.2.2.2.1
theorem dL_text_12 : decode cL_text 12 = .ok (.astore_n 3, 1) := dg21_dL_text.2.2.2.2.2.2.2.2.1
theorem dL_text_13 : decode cL_text 13 = .ok (.iconst 1, 1) := dg21_dL_text.2.2.2.2.2.2.2.2.2.1
theorem dL_text_14 : decode cL_text 14 = .ok (.ireturn, 1) := dg21_dL_text.2.2.2.2.2.2.2.2.2.2.1
theorem dL_text_15 : decode cL_text 15 = .ok (.iconst 0, 1) := dg21_dL_text.2.2.2.2.2.2.2.2.2.2.2.1
theorem dL_text_16 : decode cL_text 16 = .ok (.ireturn, 1) := dg21_dL_text.2.2.2.2.2.2.2.2.2.2.2.2.1
theorem dg22_dL_lost : Jvm.Free.DS.Facts cL_lost 0 [(.aload_n 3, 1), (.iconst 0, 1), (.aload_n 0, 1), (.iload_n 1, 1), (.iload_n 2, 1), (.invokevirtual 82, 3), (.ifCond .eq 7, 3), (.lconst 1, 1), (.goto 4, 3), (.lconst 0, 1), (.lastore, 1), (.goto 11, 3), (.astore 4, 2), (.iconst 1, 1), (.ireturn, 1), (.astore 4, 2), (.iconst 2, 1), (.ireturn, 1), (.iconst 0, 1), (.ireturn, 1)] := Jvm.Free.DS.facts 0 _ (by decide +kernel) (by decide +kernel)
theorem dL_lost_0 : decode cL_lost 0 = .ok (.aload_n 3, 1) := dg22_dL_lost.1
theorem dL_lost_1 : decode cL_lost 1 = .ok (.iconst 0, 1) := dg22_dL_lost.2.1
theorem dL_lost_2 : decode cL_lost 2 = .ok (.aload_n 0, 1) := dg22_dL_lost.2.2.1
theorem dL_lost_3 : decode cL_lost 3 = .ok (.iload_n 1, 1) := dg22_dL_lost.2.2.2.1
theorem dL_lost_4 : decode cL_lost 4 = .ok (.iload_n 2, 1) := dg22_dL_lost.2.2.2.2.1
theorem dL_lost_5 : decode cL_lost 5 = .ok (.invokevirtual 82, 3) := dg22_dL_lost.2.2.2.2.2.1
theorem dL_lost_8 : decode cL_lost 8 = .ok (.ifCond .eq 7, 3) := dg22_dL_lost.2.2.2.2.2.2.1
theorem dL_lost_11 : decode cL_lost 11 = .ok (.lconst 1, 1) := dg22_dL_lost.2.2.2.2.2.2.2.1
theorem dL_lost_12 : decode cL_lost 12 = .ok (.goto 4, 3) := dg22_dL_lost.2.2.2.2.2.2.2.2.1
theorem dL_lost_15 : decode cL_lost 15 = .ok (.lconst 0, 1) := dg22_dL_lost.2.2.2.2.2.2.2.2.2.1
theorem dL_lost_16 : decode cL_lost 16 = .ok (.lastore, 1) := dg22_dL_lost.2.2.2.2.2.2.2.2.2.2.1
theorem dL_lost_17 : decode cL_lost 17 = .ok (.goto 11, 3) := dg22_dL_lost.2.2.2.2.2.2.2.2.2.2.2.1
theorem dL_lost_20 : decode cL_lost 20 = .ok (.astore 4, 2) := dg22_dL_lost.2.2.2.2.2.2.2.2.2.2.2.2.1
theorem dL_lost_22 : decode cL_lost 22 = .ok (.iconst 1, 1) := dg22_dL_lost.2.2.2.2.2.2.2.2.2.2.2.2.2.1
theorem dL_lost_23 : decode cL_lost 23 = .ok (.ireturn, 1) := dg22_dL_lost.2.2.2.2.2.2.2.2.2.2.2.2.2.2.1
theorem dL_lost_24 : decode cL_lost 24 = .ok (.astore 4, 2) := dg22_dL_lost.2.2.2.2.2.2.2.2.2.2.2.2.2.2.2.1
theorem dL_lost_26 : decode cL_lost 26 = .ok (.iconst 2, 1) := dg22_dL_lost.2.2.2.2.2.2.2.2.2.2.2.2.2.2.2.2.1
theorem dL_lost_27 : decode cL_lost 27 = .ok (.ireturn, 1) := dg22_dL_lost.2.2.2.2.2.2.2.2.2.2.2.2.2.2.2.2.2.1
theorem dL_lost_28 : decode cL_lost 28 = .ok (.iconst 0, 1) := dg22_dL_lost.2.2.2.2.2.2.2.2.2.2.2.2.2.2.2.2.2.2.1
theorem dL_lost_29 : decode cL_lost 29 = .ok (.ireturn, 1) := dg22_dL_lost.2.2.2.2.2.2.2.2.2.2.2.2.2.2.2.2.2.2.2.1
theorem dg23_dL_way : Jvm.Free.DS.Facts cL_way 0 [(.aload_n 3, 1), (.iconst 0, 1), (.aload_n 0, 1), (.iload_n 1, 1), (.iload_n 2, 1), (.invokevirtual 86, 3), (.i2l, 1), (.lastore, 1), (.goto 11, 3), (.astore 4, 2), (.iconst 1, 1), (.ireturn, 1), (.astore 4, 2), (.iconst 2, 1), (.ireturn, 1), (.iconst 0, 1), (.ireturn, 1)] := Jvm.Free.DS.facts 0 _ (by decide +kernel) (by decide +kernel)
theorem dL_way_0 : decode cL_way 0 = .ok (.aload_n 3, 1) := dg23_dL_way.1
theorem dL_way_1 : decode cL_way 1 = .ok (.iconst 0, 1) := dg23_dL_way.2.1
theorem dL_way_2 : decode cL_way 2 = .ok (.aload_n 0, 1) := dg23_dL_way.2.2.1
theorem dL_way_3 : decode cL_way 3 = .ok (.iload_n 1, 1) := dg23_dL_way.2.2.2.1
theorem dL_way_4 : decode cL_way 4 = .ok (.iload_n 2, 1) := dg23_dL_way.2.2.2.2.1
theorem dL_way_5 : decode cL_way 5 = .ok (.invokevirtual 86, 3) := dg23_dL_way.2.2.2.2.2.1
theorem dL_way_8 : decode cL_way 8 = .ok (.i2l, 1) := dg23_dL_way.2.2.2.2.2.2.1
theorem dL_way_9 : decode cL_way 9 = .ok (.lastore, 1) := dg23_dL_way.2.2.2.2.2.2.2.1
theorem dL_way_10 : decode cL_way 10 = .ok (.goto 11, 3) := dg23_dL_way.2.2.2.2.2.2.2.2.1
theorem dL_way_13 : decode cL_way 13 = .ok (.astore 4, 2) := dg23_dL_way.2.2.2.2.2.2.2.2.2.1
theorem dL_way_15 : decode cL_way 15 = .ok (.iconst 1, 1) := dg23_dL_way.2.2.2.2.2.2.2.2.2.2.1
theorem dL_way_16 : decode cL_way 16 = .ok (.ireturn, 1) := dg23_dL_way.2.2.2.2.2.2.2.2.2.2.2.1
theorem dL_way_17 : decode cL_way 17 = .ok (.astore 4, 2) := dg23_dL_way.2.2.2.2.2.2.2.2.2.2.2.2.1
theorem dL_way_19 : decode cL_way 19 = .ok (.iconst 2, 1) := dg23_dL_way.2.2.2.2.2.2.2.2.2.2.2.2.2.1
theorem dL_way_20 : decode cL_way 20 = .ok (.ireturn, 1) := dg23_dL_way.2.2.2.2.2.2.2.2.2.2.2.2.2.2.1
theorem dL_way_21 : decode cL_way 21 = .ok (.iconst 0, 1) := dg23_dL_way.2.2.2.2.2.2.2.2.2.2.2.2.2.2.2.1
theorem dL_way_22 : decode cL_way 22 = .ok (.ireturn, 1) := dg23_dL_way.2.2.2.2.2.2.2.2.2.2.2.2.2.2.2.2.1
theorem dg24_dL_edge : Jvm.Free.DS.Facts cL_edge 0 [(.aload 4, 2), (.iconst 0, 1), (.aload_n 0, 1), (.iload_n 1, 1), (.iload_n 2, 1), (.iload_n 3, 1), (.invokevirtual 89, 3), (.i2l, 1), (.lastore, 1), (.goto 11, 3), (.astore 5, 2), (.iconst 1, 1), (.ireturn, 1), (.astore 5, 2), (.iconst 2, 1), (.ireturn, 1), (.iconst 0, 1), (.ireturn, 1)] := Jvm.Free.DS.facts 0 _ (by decide +kernel) (by decide +kernel)
theorem dL_edge_0 : decode cL_edge 0 = .ok (.aload 4, 2) := dg24_dL_edge.1
theorem dL_edge_2 : decode cL_edge 2 = .ok (.iconst 0, 1) := dg24_dL_edge.2.1
theorem dL_edge_3 : decode cL_edge 3 = .ok (.aload_n 0, 1) := dg24_dL_edge.2.2.1
theorem dL_edge_4 : decode cL_edge 4 = .ok (.iload_n 1, 1) := dg24_dL_edge.2.2.2.1
theorem dL_edge_5 : decode cL_edge 5 = .ok (.iload_n 2, 1) := dg24_dL_edge.2.2.2.2.1
theorem dL_edge_6 : decode cL_edge 6 = .ok (.iload_n 3, 1) := dg24_dL_edge.2.2.2.2.2.1
theorem dL_edge_7 : decode cL_edge 7 = .ok (.invokevirtual 89, 3) := dg24_dL_edge.2.2.2.2.2.2.1
theorem dL_edge_10 : decode cL_edge 10 = .ok (.i2l, 1) := dg24_dL_edge.2.2.2.2.2.2.2.1
theorem dL_edge_11 : decode cL_edge 11 = .ok (.lastore, 1) := dg24_dL_edge.2.2.2.2.2.2.2.2.1
theorem dL_edge_12 : decode cL_edge 12 = .ok (.goto 11, 3) := dg24_dL_edge.2.2.2.2.2.2.2.2.2.1
theorem dL_edge_15 : decode cL_edge 15 = .ok (.astore 5, 2) := dg24_dL_edge.2.2.2.2.2.2.2.2.2.2.1
theorem dL_edge_17 : decode cL_edge 17 = .ok (.iconst 1, 1) := dg24_dL_edge.2.2.2.2.2.2.2.2.2.2.2.1
theorem dL_edge_18 : decode cL_edge 18 = .ok (.ireturn, 1) := dg24_dL_edge.2.2.2.2.2.2.2.2.2.2.2.2.1
theorem dL_edge_19 : decode cL_edge 19 = .ok (.astore 5, 2) := dg24_dL_edge.2.2.2.2.2.2.2.2.2.2.2.2.2.1
theorem dL_edge_21 : decode cL_edge 21 = .ok (.iconst 2, 1) := dg24_dL_edge.2.2.2.2.2.2.2.2.2.2.2.2.2.2.1
theorem dL_edge_22 : decode cL_edge 22 = .ok (.ireturn, 1) := dg24_dL_edge.2.2.2.2.2.2.2.2.2.2.2.2.2.2.2.1
theorem dL_edge_23 : decode cL_edge 23 = .ok (.iconst 0, 1) := dg24_dL_edge.2.2.2.2.2.2.2.2.2.2.2.2.2.2.2.2.1
theorem dL_edge_24 : decode cL_edge 24 = .ok (.ireturn, 1) := dg24_dL_edge.2.2.2.2.2.2.2.2.2.2.2.2.2.2.2.2.2.1
theorem dg25_dL_used : Jvm.Free.DS.Facts cL_used 0 [(.aload_n 2, 1), (.iconst 0, 1), (.aload_n 0, 1), (.iload_n 1, 1), (.invokevirtual 92, 3), (.i2l, 1), (.lastore, 1), (.goto 6, 3), (.astore_n 3, 1), (.iconst 1, 1), (.ireturn, 1), (.iconst 0, 1), (.ireturn, 1)] := Jvm.Free.DS.facts 0 _ (by decide +kernel) (by decide +kernel)
theorem dL_used_0 : decode cL_used 0 = .ok (.aload_n 2, 1) := dg25_dL_used.1
theorem dL_used_1 : decode cL_used 1 = .ok (.iconst 0, 1) := dg25_dL_used.2.1
theorem dL_used_2 : decode cL_used 2 = .ok (.aload_n 0, 1) := dg25_dL_used.2.2.1
theorem dL_used_3 : decode cL_used 3 = .ok (.iload_n 1, 1) := dg25_dL_used.2.2.2.1
theorem dL_used_4 : decode cL_used 4 = .ok (.invokevirtual 92, 3) := dg25_dL_used.2.2.2.2.1
theorem dL_used_7 : decode cL_used 7 = .ok (.i2l, 1) := dg25_dL_used.2.2.2.2.2.1
theorem dL_used_8 : decode cL_used 8 = .ok (.lastore, 1) := dg25_dL_used.2.2.2.2.2.2.1
theorem dL_used_9 : decode cL_used 9 = .ok (.goto 6, 3) := dg25_dL_used.2.2.2.2.2.2.2.1
theorem dL_used_12 : decode cL_used 12 = .ok (.astore_n 3, 1) := dg25_dL_used.2.2.2.2.2.2.2.2.1
theorem dL_used_13 : decode cL_used 13 = .ok (.iconst 1, 1) := dg25_dL_used.2.2.2.2.2.2.2.2.2.1
theorem dL_used_14 : decode cL_used 14 = .ok (.ireturn, 1) := dg25_dL_used.2.2.2.2.2.2.2.2.2.2.1
theorem dL_used_15 : decode cL_used 15 = .ok (.iconst 0, 1) := dg25_dL_used.2.2.2.2.2.2.2.2.2.2.2.1
theorem dL_used_16 : decode cL_used 16 = .ok (.ireturn, 1) := dg25_dL_used.2.2.2.2.2.2.2.2.2.2.2.2.1
theorem dg26_dL_dear : Jvm.Free.DS.Facts cL_dear 0 [(.aload_n 3, 1), (.iconst 0, 1), (.aload_n 0, 1), (.iload_n 1, 1), (.iload_n 2, 1), (.invokevirtual 95, 3), (.i2l, 1), (.lastore, 1), (.goto 7, 3), (.astore 4, 2), (.iconst 1, 1), (.ireturn, 1), (.iconst 0, 1), (.ireturn, 1)] := Jvm.Free.DS.facts 0 _ (by decide +kernel) (by decide +kernel)
theorem dL_dear_0 : decode cL_dear 0 = .ok (.aload_n 3, 1) := dg26_dL_dear.1
theorem dL_dear_1 : decode cL_dear 1 = .ok (.iconst 0, 1) := dg26_dL_dear.2.1
theorem dL_dear_2 : decode cL_dear 2 = .ok (.aload_n 0, 1) := dg26_dL_dear.2.2.1
theorem dL_dear_3 : decode cL_dear 3 = .ok (.iload_n 1, 1) := dg26_dL_dear.2.2.2.1
theorem dL_dear_4 : decode cL_dear 4 = .ok (.iload_n 2, 1) := dg26_dL_dear.2.2.2.2.1
theorem dL_dear_5 : decode cL_dear 5 = .ok (.invokevirtual 95, 3) := dg26_dL_dear.2.2.2.2.2.1
theorem dL_dear_8 : decode cL_dear 8 = .ok (.i2l, 1) := dg26_dL_dear.2.2.2.2.2.2.1
theorem dL_dear_9 : decode cL_dear 9 = .ok (.lastore, 1) := dg26_dL_dear.2.2.2.2.2.2.2.1
theorem dL_dear_10 : decode cL_dear 10 = .ok (.goto 7, 3) := dg26_dL_dear.2.2.2.2.2.2.2.2.1
theorem dL_dear_13 : decode cL_dear 13 = .ok (.astore 4, 2) := dg26_dL_dear.2.2.2.2.2.2.2.2.2.1
theorem dL_dear_15 : decode cL_dear 15 = .ok (.iconst 1, 1) := dg26_dL_dear.2.2.2.2.2.2.2.2.2.2.1
theorem dL_dear_16 : decode cL_dear 16 = .ok (.ireturn, 1) := dg26_dL_dear.2.2.2.2.2.2.2.2.2.2.2.1
theorem dL_dear_17 : decode cL_dear 17 = .ok (.iconst 0, 1) := dg26_dL_dear.2.2.2.2.2.2.2.2.2.2.2.2.1
theorem dL_dear_18 : decode cL_dear 18 = .ok (.ireturn, 1) := dg26_dL_dear.2.2.2.2.2.2.2.2.2.2.2.2.2.1
theorem dg27_dL_sentence : Jvm.Free.DS.Facts cL_sentence 0 [(.aload_n 2, 1), (.iconst 0, 1), (.aload_n 0, 1), (.iload_n 1, 1), (.invokevirtual 98, 3), (.i2l, 1), (.lastore, 1), (.goto 6, 3), (.astore_n 3, 1), (.iconst 1, 1), (.ireturn, 1), (.iconst 0, 1), (.ireturn, 1)] := Jvm.Free.DS.facts 0 _ (by decide +kernel) (by decide +kernel)
theorem dL_sentence_0 : decode cL_sentence 0 = .ok (.aload_n 2, 1) := dg27_dL_sentence.1
theorem dL_sentence_1 : decode cL_sentence 1 = .ok (.iconst 0, 1) := dg27_dL_sentence.2.1
theorem dL_sentence_2 : decode cL_sentence 2 = .ok (.aload_n 0, 1) := dg27_dL_sentence.2.2.1
theorem dL_sentence_3 : decode cL_sentence 3 = .ok (.iload_n 1, 1) := dg27_dL_sentence.2.2.2.1
theorem dL_sentence_4 : decode cL_sentence 4 = .ok (.invokevirtual 98, 3) := dg27_dL_sentence.2.2.2.2.1
theorem dL_sentence_7 : decode cL_sentence 7 = .ok (.i2l, 1) := dg27_dL_sentence.2.2.2.2.2.1
theorem dL_sentence_8 : decode cL_sentence 8 = .ok (.lastore, 1) := dg27_dL_sentence.2.2.2.2.2.2.1
theorem dL_sentence_9 : decode cL_sentence 9 = .ok (.goto 6, 3) := dg27_dL_sentence.2.2.2.2.2.2.2.1
theorem dL_sentence_12 : decode cL_sentence 12 = .ok (.astore_n 3, 1) := dg27_dL_sentence.2.2.2.2.2.2.2.2.1
theorem dL_sentence_13 : decode cL_sentence 13 = .ok (.iconst 1, 1) := dg27_dL_sentence.2.2.2.2.2.2.2.2.2.1
theorem dL_sentence_14 : decode cL_sentence 14 = .ok (.ireturn, 1) := dg27_dL_sentence.2.2.2.2.2.2.2.2.2.2.1
theorem dL_sentence_15 : decode cL_sentence 15 = .ok (.iconst 0, 1) := dg27_dL_sentence.2.2.2.2.2.2.2.2.2.2.2.1
theorem dL_sentence_16 : decode cL_sentence 16 = .ok (.ireturn, 1) := dg27_dL_sentence.2.2.2.2.2.2.2.2.2.2.2.2.1
theorem dg28_dL_said : Jvm.Free.DS.Facts cL_said 0 [(.aload_n 2, 1), (.iconst 0, 1), (.aload_n 0, 1), (.iload_n 1, 1), (.invokevirtual 101, 3), (.i2l, 1), (.lastore, 1), (.goto 6, 3), (.astore_n 3, 1), (.iconst 1, 1), (.ireturn, 1), (.iconst 0, 1), (.ireturn, 1)] := Jvm.Free.DS.facts 0 _ (by decide +kernel) (by decide +kernel)
theorem dL_said_0 : decode cL_said 0 = .ok (.aload_n 2, 1) := dg28_dL_said.1
theorem dL_said_1 : decode cL_said 1 = .ok (.iconst 0, 1) := dg28_dL_said.2.1
theorem dL_said_2 : decode cL_said 2 = .ok (.aload_n 0, 1) := dg28_dL_said.2.2.1
theorem dL_said_3 : decode cL_said 3 = .ok (.iload_n 1, 1) := dg28_dL_said.2.2.2.1
theorem dL_said_4 : decode cL_said 4 = .ok (.invokevirtual 101, 3) := dg28_dL_said.2.2.2.2.1
theorem dL_said_7 : decode cL_said 7 = .ok (.i2l, 1) := dg28_dL_said.2.2.2.2.2.1
theorem dL_said_8 : decode cL_said 8 = .ok (.lastore, 1) := dg28_dL_said.2.2.2.2.2.2.1
theorem dL_said_9 : decode cL_said 9 = .ok (.goto 6, 3) := dg28_dL_said.2.2.2.2.2.2.2.1
theorem dL_said_12 : decode cL_said 12 = .ok (.astore_n 3, 1) := dg28_dL_said.2.2.2.2.2.2.2.2.1
theorem dL_said_13 : decode cL_said 13 = .ok (.iconst 1, 1) := dg28_dL_said.2.2.2.2.2.2.2.2.2.1
theorem dL_said_14 : decode cL_said 14 = .ok (.ireturn, 1) := dg28_dL_said.2.2.2.2.2.2.2.2.2.2.1
theorem dL_said_15 : decode cL_said 15 = .ok (.iconst 0, 1) := dg28_dL_said.2.2.2.2.2.2.2.2.2.2.2.1
theorem dL_said_16 : decode cL_said 16 = .ok (.ireturn, 1) := dg28_dL_said.2.2.2.2.2.2.2.2.2.2.2.2.1
theorem dg29_dL_apart : Jvm.Free.DS.Facts cL_apart 0 [(.aload_n 3, 1), (.iconst 0, 1), (.aload_n 0, 1), (.iload_n 1, 1), (.iload_n 2, 1), (.invokevirtual 104, 3), (.i2l, 1), (.lastore, 1), (.goto 7, 3), (.astore 4, 2), (.iconst 1, 1), (.ireturn, 1), (.iconst 0, 1), (.ireturn, 1)] := Jvm.Free.DS.facts 0 _ (by decide +kernel) (by decide +kernel)
theorem dL_apart_0 : decode cL_apart 0 = .ok (.aload_n 3, 1) := dg29_dL_apart.1
theorem dL_apart_1 : decode cL_apart 1 = .ok (.iconst 0, 1) := dg29_dL_apart.2.1
theorem dL_apart_2 : decode cL_apart 2 = .ok (.aload_n 0, 1) := dg29_dL_apart.2.2.1
theorem dL_apart_3 : decode cL_apart 3 = .ok (.iload_n 1, 1) := dg29_dL_apart.2.2.2.1
theorem dL_apart_4 : decode cL_apart 4 = .ok (.iload_n 2, 1) := dg29_dL_apart.2.2.2.2.1
theorem dL_apart_5 : decode cL_apart 5 = .ok (.invokevirtual 104, 3) := dg29_dL_apart.2.2.2.2.2.1
theorem dL_apart_8 : decode cL_apart 8 = .ok (.i2l, 1) := dg29_dL_apart.2.2.2.2.2.2.1
theorem dL_apart_9 : decode cL_apart 9 = .ok (.lastore, 1) := dg29_dL_apart.2.2.2.2.2.2.2.1
theorem dL_apart_10 : decode cL_apart 10 = .ok (.goto 7, 3) := dg29_dL_apart.2.2.2.2.2.2.2.2.1
theorem dL_apart_13 : decode cL_apart 13 = .ok (.astore 4, 2) := dg29_dL_apart.2.2.2.2.2.2.2.2.2.1
theorem dL_apart_15 : decode cL_apart 15 = .ok (.iconst 1, 1) := dg29_dL_apart.2.2.2.2.2.2.2.2.2.2.1
theorem dL_apart_16 : decode cL_apart 16 = .ok (.ireturn, 1) := dg29_dL_apart.2.2.2.2.2.2.2.2.2.2.2.1
theorem dL_apart_17 : decode cL_apart 17 = .ok (.iconst 0, 1) := dg29_dL_apart.2.2.2.2.2.2.2.2.2.2.2.2.1
theorem dL_apart_18 : decode cL_apart 18 = .ok (.ireturn, 1) := dg29_dL_apart.2.2.2.2.2.2.2.2.2.2.2.2.2.1
theorem dg30_dL_twin : Jvm.Free.DS.Facts cL_twin 0 [(.aload_n 3, 1), (.iconst 0, 1), (.aload_n 0, 1), (.iload_n 1, 1), (.iload_n 2, 1), (.invokevirtual 107, 3), (.i2l, 1), (.lastore, 1), (.goto 11, 3), (.astore 4, 2), (.iconst 1, 1), (.ireturn, 1), (.astore 4, 2), (.iconst 2, 1), (.ireturn, 1), (.iconst 0, 1), (.ireturn, 1)] := Jvm.Free.DS.facts 0 _ (by decide +kernel) (by decide +kernel)
theorem dL_twin_0 : decode cL_twin 0 = .ok (.aload_n 3, 1) := dg30_dL_twin.1
theorem dL_twin_1 : decode cL_twin 1 = .ok (.iconst 0, 1) := dg30_dL_twin.2.1
theorem dL_twin_2 : decode cL_twin 2 = .ok (.aload_n 0, 1) := dg30_dL_twin.2.2.1
theorem dL_twin_3 : decode cL_twin 3 = .ok (.iload_n 1, 1) := dg30_dL_twin.2.2.2.1
theorem dL_twin_4 : decode cL_twin 4 = .ok (.iload_n 2, 1) := dg30_dL_twin.2.2.2.2.1
theorem dL_twin_5 : decode cL_twin 5 = .ok (.invokevirtual 107, 3) := dg30_dL_twin.2.2.2.2.2.1
theorem dL_twin_8 : decode cL_twin 8 = .ok (.i2l, 1) := dg30_dL_twin.2.2.2.2.2.2.1
theorem dL_twin_9 : decode cL_twin 9 = .ok (.lastore, 1) := dg30_dL_twin.2.2.2.2.2.2.2.1
theorem dL_twin_10 : decode cL_twin 10 = .ok (.goto 11, 3) := dg30_dL_twin.2.2.2.2.2.2.2.2.1
theorem dL_twin_13 : decode cL_twin 13 = .ok (.astore 4, 2) := dg30_dL_twin.2.2.2.2.2.2.2.2.2.1
theorem dL_twin_15 : decode cL_twin 15 = .ok (.iconst 1, 1) := dg30_dL_twin.2.2.2.2.2.2.2.2.2.2.1
theorem dL_twin_16 : decode cL_twin 16 = .ok (.ireturn, 1) := dg30_dL_twin.2.2.2.2.2.2.2.2.2.2.2.1
theorem dL_twin_17 : decode cL_twin 17 = .ok (.astore 4, 2) := dg30_dL_twin.2.2.2.2.2.2.2.2.2.2.2.2.1
theorem dL_twin_19 : decode cL_twin 19 = .ok (.iconst 2, 1) := dg30_dL_twin.2.2.2.2.2.2.2.2.2.2.2.2.2.1
theorem dL_twin_20 : decode cL_twin 20 = .ok (.ireturn, 1) := dg30_dL_twin.2.2.2.2.2.2.2.2.2.2.2.2.2.2.1
theorem dL_twin_21 : decode cL_twin 21 = .ok (.iconst 0, 1) := dg30_dL_twin.2.2.2.2.2.2.2.2.2.2.2.2.2.2.2.1
theorem dL_twin_22 : decode cL_twin 22 = .ok (.ireturn, 1) := dg30_dL_twin.2.2.2.2.2.2.2.2.2.2.2.2.2.2.2.2.1
theorem dg31_dL_twins : Jvm.Free.DS.Facts cL_twins 0 [(.aload_n 2, 1), (.iconst 0, 1), (.aload_n 0, 1), (.iload_n 1, 1), (.invokevirtual 110, 3), (.i2l, 1), (.lastore, 1), (.goto 6, 3), (.astore_n 3, 1), (.iconst 1, 1), (.ireturn, 1), (.iconst 0, 1), (.ireturn, 1)] := Jvm.Free.DS.facts 0 _ (by decide +kernel) (by decide +kernel)
theorem dL_twins_0 : decode cL_twins 0 = .ok (.aload_n 2, 1) := dg31_dL_twins.1
theorem dL_twins_1 : decode cL_twins 1 = .ok (.iconst 0, 1) := dg31_dL_twins.2.1
theorem dL_twins_2 : decode cL_twins 2 = .ok (.aload_n 0, 1) := dg31_dL_twins.2.2.1
theorem dL_twins_3 : decode cL_twins 3 = .ok (.iload_n 1, 1) := dg31_dL_twins.2.2.2.1
theorem dL_twins_4 : decode cL_twins 4 = .ok (.invokevirtual 110, 3) := dg31_dL_twins.2.2.2.2.1
theorem dL_twins_7 : decode cL_twins 7 = .ok (.i2l, 1) := dg31_dL_twins.2.2.2.2.2.1
theorem dL_twins_8 : decode cL_twins 8 = .ok (.lastore, 1) := dg31_dL_twins.2.2.2.2.2.2.1
theorem dL_twins_9 : decode cL_twins 9 = .ok (.goto 6, 3) := dg31_dL_twins.2.2.2.2.2.2.2.1
theorem dL_twins_12 : decode cL_twins 12 = .ok (.astore_n 3, 1) := dg31_dL_twins.2.2.2.2.2.2.2.2.1
theorem dL_twins_13 : decode cL_twins 13 = .ok (.iconst 1, 1) := dg31_dL_twins.2.2.2.2.2.2.2.2.2.1
theorem dL_twins_14 : decode cL_twins 14 = .ok (.ireturn, 1) := dg31_dL_twins.2.2.2.2.2.2.2.2.2.2.1
theorem dL_twins_15 : decode cL_twins 15 = .ok (.iconst 0, 1) := dg31_dL_twins.2.2.2.2.2.2.2.2.2.2.2.1
theorem dL_twins_16 : decode cL_twins 16 = .ok (.ireturn, 1) := dg31_dL_twins.2.2.2.2.2.2.2.2.2.2.2.2.1
theorem dg32_dL_law : Jvm.Free.DS.Facts cL_law 0 [(.new 8, 3), (.dup, 1), (.invokespecial 113, 3), (.astore_n 1, 1), (.new 114, 3), (.dup, 1), (.invokespecial 116, 3), (.astore_n 2, 1), (.iconst 1, 1), (.newarray .long, 2), (.astore_n 3, 1), (.iconst 0, 1), (.istore 4, 2), (.iload 4, 2), (.aload_n 0, 1), (.arraylength, 1), (.bipush 6, 2), (.isub, 1), (.if_icmp .gt 2404, 3), (.aload_n 0, 1), (.iload 4, 2), (.iaload, 1), (.bipush 63, 2), (.iand, 1), (.tableswitch 2388 0 36 #[164, 237, 293, 349, 405, 418, 474, 487, 555, 623, 679, 735, 803, 871, 927, 995, 1063, 1131, 1199, 1279, 1347, 1427, 1495, 1563, 1631, 1687, 1712, 1787, 1855, 1935, 1991, 2059, 2115, 2171, 2239, 2307, 2363], 164), (.aload_n 1, 1), (.aload_n 0, 1), (.iload 4, 2), (.iconst 1, 1), (.iadd, 1)] := Jvm.Free.DS.facts 0 _ (by decide +kernel) (by decide +kernel)
theorem dL_law_0 : decode cL_law 0 = .ok (.new 8, 3) := dg32_dL_law.1
theorem dL_law_3 : decode cL_law 3 = .ok (.dup, 1) := dg32_dL_law.2.1
theorem dL_law_4 : decode cL_law 4 = .ok (.invokespecial 113, 3) := dg32_dL_law.2.2.1
theorem dL_law_7 : decode cL_law 7 = .ok (.astore_n 1, 1) := dg32_dL_law.2.2.2.1
theorem dL_law_8 : decode cL_law 8 = .ok (.new 114, 3) := dg32_dL_law.2.2.2.2.1
theorem dL_law_11 : decode cL_law 11 = .ok (.dup, 1) := dg32_dL_law.2.2.2.2.2.1
theorem dL_law_12 : decode cL_law 12 = .ok (.invokespecial 116, 3) := dg32_dL_law.2.2.2.2.2.2.1
theorem dL_law_15 : decode cL_law 15 = .ok (.astore_n 2, 1) := dg32_dL_law.2.2.2.2.2.2.2.1
theorem dL_law_16 : decode cL_law 16 = .ok (.iconst 1, 1) := dg32_dL_law.2.2.2.2.2.2.2.2.1
theorem dL_law_17 : decode cL_law 17 = .ok (.newarray .long, 2) := dg32_dL_law.2.2.2.2.2.2.2.2.2.1
theorem dL_law_19 : decode cL_law 19 = .ok (.astore_n 3, 1) := dg32_dL_law.2.2.2.2.2.2.2.2.2.2.1
theorem dL_law_20 : decode cL_law 20 = .ok (.iconst 0, 1) := dg32_dL_law.2.2.2.2.2.2.2.2.2.2.2.1
theorem dL_law_21 : decode cL_law 21 = .ok (.istore 4, 2) := dg32_dL_law.2.2.2.2.2.2.2.2.2.2.2.2.1
theorem dL_law_23 : decode cL_law 23 = .ok (.iload 4, 2) := dg32_dL_law.2.2.2.2.2.2.2.2.2.2.2.2.2.1
theorem dL_law_25 : decode cL_law 25 = .ok (.aload_n 0, 1) := dg32_dL_law.2.2.2.2.2.2.2.2.2.2.2.2.2.2.1
theorem dL_law_26 : decode cL_law 26 = .ok (.arraylength, 1) := dg32_dL_law.2.2.2.2.2.2.2.2.2.2.2.2.2.2.2.1
theorem dL_law_27 : decode cL_law 27 = .ok (.bipush 6, 2) := dg32_dL_law.2.2.2.2.2.2.2.2.2.2.2.2.2.2.2.2.1
theorem dL_law_29 : decode cL_law 29 = .ok (.isub, 1) := dg32_dL_law.2.2.2.2.2.2.2.2.2.2.2.2.2.2.2.2.2.1
theorem dL_law_30 : decode cL_law 30 = .ok (.if_icmp .gt 2404, 3) := dg32_dL_law.2.2.2.2.2.2.2.2.2.2.2.2.2.2.2.2.2.2.1
theorem dL_law_33 : decode cL_law 33 = .ok (.aload_n 0, 1) := dg32_dL_law.2.2.2.2.2.2.2.2.2.2.2.2.2.2.2.2.2.2.2.1
theorem dL_law_34 : decode cL_law 34 = .ok (.iload 4, 2) := dg32_dL_law.2.2.2.2.2.2.2.2.2.2.2.2.2.2.2.2.2.2.2.2.1
theorem dL_law_36 : decode cL_law 36 = .ok (.iaload, 1) := dg32_dL_law.2.2.2.2.2.2.2.2.2.2.2.2.2.2.2.2.2.2.2.2.2.1
theorem dL_law_37 : decode cL_law 37 = .ok (.bipush 63, 2) := dg32_dL_law.2.2.2.2.2.2.2.2.2.2.2.2.2.2.2.2.2.2.2.2.2.2.1
theorem dL_law_39 : decode cL_law 39 = .ok (.iand, 1) := dg32_dL_law.2.2.2.2.2.2.2.2.2.2.2.2.2.2.2.2.2.2.2.2.2.2.2.1
theorem dL_law_40 : decode cL_law 40 = .ok (.tableswitch 2388 0 36 #[164, 237, 293, 349, 405, 418, 474, 487, 555, 623, 679, 735, 803, 871, 927, 995, 1063, 1131, 1199, 1279, 1347, 1427, 1495, 1563, 1631, 1687, 1712, 1787, 1855, 1935, 1991, 2059, 2115, 2171, 2239, 2307, 2363], 164) := dg32_dL_law.2.2.2.2.2.2.2.2.2.2.2.2.2.2.2.2.2.2.2.2.2.2.2.2.1
theorem dL_law_204 : decode cL_law 204 = .ok (.aload_n 1, 1) := dg32_dL_law.2.2.2.2.2.2.2.2.2.2.2.2.2.2.2.2.2.2.2.2.2.2.2.2.2.1
theorem dL_law_205 : decode cL_law 205 = .ok (.aload_n 0, 1) := dg32_dL_law.2.2.2.2.2.2.2.2.2.2.2.2.2.2.2.2.2.2.2.2.2.2.2.2.2.2.1
theorem dL_law_206 : decode cL_law 206 = .ok (.iload 4, 2) := dg32_dL_law.2.2.2.2.2.2.2.2.2.2.2.2.2.2.2.2.2.2.2.2.2.2.2.2.2.2.2.1
theorem dL_law_208 : decode cL_law 208 = .ok (.iconst 1, 1) := dg32_dL_law.2.2.2.2.2.2.2.2.2.2.2.2.2.2.2.2.2.2.2.2.2.2.2.2.2.2.2.2.1
theorem dL_law_209 : decode cL_law 209 = .ok (.iadd, 1) := dg32_dL_law.2.2.2.2.2.2.2.2.2.2.2.2.2.2.2.2.2.2.2.2.2.2.2.2.2.2.2.2.2.1
theorem dg33_dL_law : Jvm.Free.DS.Facts cL_law 210 [(.iaload, 1), (.aload_n 0, 1), (.iload 4, 2), (.iconst 2, 1), (.iadd, 1), (.iaload, 1), (.aload_n 0, 1), (.iload 4, 2), (.iconst 3, 1), (.iadd, 1), (.iaload, 1), (.aload_n 0, 1), (.iload 4, 2), (.iconst 4, 1), (.iadd, 1), (.iaload, 1), (.aload_n 0, 1), (.iload 4, 2), (.iconst 5, 1), (.iadd, 1), (.iaload, 1), (.invokevirtual 117, 3), (.aload_n 2, 1), (.aload_n 0, 1), (.iload 4, 2), (.iconst 1, 1), (.iadd, 1), (.iaload, 1), (.aload_n 0, 1), (.iload 4, 2)] := Jvm.Free.DS.facts 210 _ (by decide +kernel) (by decide +kernel)
theorem dL_law_210 : decode cL_law 210 = .ok (.iaload, 1) := dg33_dL_law.1
theorem dL_law_211 : decode cL_law 211 = .ok (.aload_n 0, 1) := dg33_dL_law.2.1
theorem dL_law_212 : decode cL_law 212 = .ok (.iload 4, 2) := dg33_dL_law.2.2.1
theorem dL_law_214 : decode cL_law 214 = .ok (.iconst 2, 1) := dg33_dL_law.2.2.2.1
theorem dL_law_215 : decode cL_law 215 = .ok (.iadd, 1) := dg33_dL_law.2.2.2.2.1
theorem dL_law_216 : decode cL_law 216 = .ok (.iaload, 1) := dg33_dL_law.2.2.2.2.2.1
theorem dL_law_217 : decode cL_law 217 = .ok (.aload_n 0, 1) := dg33_dL_law.2.2.2.2.2.2.1
theorem dL_law_218 : decode cL_law 218 = .ok (.iload 4, 2) := dg33_dL_law.2.2.2.2.2.2.2.1
theorem dL_law_220 : decode cL_law 220 = .ok (.iconst 3, 1) := dg33_dL_law.2.2.2.2.2.2.2.2.1
theorem dL_law_221 : decode cL_law 221 = .ok (.iadd, 1) := dg33_dL_law.2.2.2.2.2.2.2.2.2.1
theorem dL_law_222 : decode cL_law 222 = .ok (.iaload, 1) := dg33_dL_law.2.2.2.2.2.2.2.2.2.2.1
theorem dL_law_223 : decode cL_law 223 = .ok (.aload_n 0, 1) := dg33_dL_law.2.2.2.2.2.2.2.2.2.2.2.1
theorem dL_law_224 : decode cL_law 224 = .ok (.iload 4, 2) := dg33_dL_law.2.2.2.2.2.2.2.2.2.2.2.2.1
theorem dL_law_226 : decode cL_law 226 = .ok (.iconst 4, 1) := dg33_dL_law.2.2.2.2.2.2.2.2.2.2.2.2.2.1
theorem dL_law_227 : decode cL_law 227 = .ok (.iadd, 1) := dg33_dL_law.2.2.2.2.2.2.2.2.2.2.2.2.2.2.1
theorem dL_law_228 : decode cL_law 228 = .ok (.iaload, 1) := dg33_dL_law.2.2.2.2.2.2.2.2.2.2.2.2.2.2.2.1
theorem dL_law_229 : decode cL_law 229 = .ok (.aload_n 0, 1) := dg33_dL_law.2.2.2.2.2.2.2.2.2.2.2.2.2.2.2.2.1
theorem dL_law_230 : decode cL_law 230 = .ok (.iload 4, 2) := dg33_dL_law.2.2.2.2.2.2.2.2.2.2.2.2.2.2.2.2.2.1
theorem dL_law_232 : decode cL_law 232 = .ok (.iconst 5, 1) := dg33_dL_law.2.2.2.2.2.2.2.2.2.2.2.2.2.2.2.2.2.2.1
theorem dL_law_233 : decode cL_law 233 = .ok (.iadd, 1) := dg33_dL_law.2.2.2.2.2.2.2.2.2.2.2.2.2.2.2.2.2.2.2.1
theorem dL_law_234 : decode cL_law 234 = .ok (.iaload, 1) := dg33_dL_law.2.2.2.2.2.2.2.2.2.2.2.2.2.2.2.2.2.2.2.2.1
theorem dL_law_235 : decode cL_law 235 = .ok (.invokevirtual 117, 3) := dg33_dL_law.2.2.2.2.2.2.2.2.2.2.2.2.2.2.2.2.2.2.2.2.2.1
theorem dL_law_238 : decode cL_law 238 = .ok (.aload_n 2, 1) := dg33_dL_law.2.2.2.2.2.2.2.2.2.2.2.2.2.2.2.2.2.2.2.2.2.2.1
theorem dL_law_239 : decode cL_law 239 = .ok (.aload_n 0, 1) := dg33_dL_law.2.2.2.2.2.2.2.2.2.2.2.2.2.2.2.2.2.2.2.2.2.2.2.1
theorem dL_law_240 : decode cL_law 240 = .ok (.iload 4, 2) := dg33_dL_law.2.2.2.2.2.2.2.2.2.2.2.2.2.2.2.2.2.2.2.2.2.2.2.2.1
theorem dL_law_242 : decode cL_law 242 = .ok (.iconst 1, 1) := dg33_dL_law.2.2.2.2.2.2.2.2.2.2.2.2.2.2.2.2.2.2.2.2.2.2.2.2.2.1
theorem dL_law_243 : decode cL_law 243 = .ok (.iadd, 1) := dg33_dL_law.2.2.2.2.2.2.2.2.2.2.2.2.2.2.2.2.2.2.2.2.2.2.2.2.2.2.1
theorem dL_law_244 : decode cL_law 244 = .ok (.iaload, 1) := dg33_dL_law.2.2.2.2.2.2.2.2.2.2.2.2.2.2.2.2.2.2.2.2.2.2.2.2.2.2.2.1
theorem dL_law_245 : decode cL_law 245 = .ok (.aload_n 0, 1) := dg33_dL_law.2.2.2.2.2.2.2.2.2.2.2.2.2.2.2.2.2.2.2.2.2.2.2.2.2.2.2.2.1
theorem dL_law_246 : decode cL_law 246 = .ok (.iload 4, 2) := dg33_dL_law.2.2.2.2.2.2.2.2.2.2.2.2.2.2.2.2.2.2.2.2.2.2.2.2.2.2.2.2.2.1
theorem dg34_dL_law : Jvm.Free.DS.Facts cL_law 248 [(.iconst 2, 1), (.iadd, 1), (.iaload, 1), (.aload_n 0, 1), (.iload 4, 2), (.iconst 3, 1), (.iadd, 1), (.iaload, 1), (.aload_n 0, 1), (.iload 4, 2), (.iconst 4, 1), (.iadd, 1), (.iaload, 1), (.aload_n 0, 1), (.iload 4, 2), (.iconst 5, 1), (.iadd, 1), (.iaload, 1), (.invokevirtual 121, 3), (.if_icmp .eq 2156, 3), (.iconst 0, 1), (.ireturn, 1), (.aload_n 1, 1), (.aload_n 0, 1), (.iload 4, 2), (.iconst 1, 1), (.iadd, 1), (.iaload, 1), (.aload_n 3, 1), (.invokestatic 122, 3)] := Jvm.Free.DS.facts 248 _ (by decide +kernel) (by decide +kernel)
theorem dL_law_248 : decode cL_law 248 = .ok (.iconst 2, 1) := dg34_dL_law.1
theorem dL_law_249 : decode cL_law 249 = .ok (.iadd, 1) := dg34_dL_law.2.1
theorem dL_law_250 : decode cL_law 250 = .ok (.iaload, 1) := dg34_dL_law.2.2.1
theorem dL_law_251 : decode cL_law 251 = .ok (.aload_n 0, 1) := dg34_dL_law.2.2.2.1
theorem dL_law_252 : decode cL_law 252 = .ok (.iload 4, 2) := dg34_dL_law.2.2.2.2.1
theorem dL_law_254 : decode cL_law 254 = .ok (.iconst 3, 1) := dg34_dL_law.2.2.2.2.2.1
theorem dL_law_255 : decode cL_law 255 = .ok (.iadd, 1) := dg34_dL_law.2.2.2.2.2.2.1
theorem dL_law_256 : decode cL_law 256 = .ok (.iaload, 1) := dg34_dL_law.2.2.2.2.2.2.2.1
theorem dL_law_257 : decode cL_law 257 = .ok (.aload_n 0, 1) := dg34_dL_law.2.2.2.2.2.2.2.2.1
theorem dL_law_258 : decode cL_law 258 = .ok (.iload 4, 2) := dg34_dL_law.2.2.2.2.2.2.2.2.2.1
theorem dL_law_260 : decode cL_law 260 = .ok (.iconst 4, 1) := dg34_dL_law.2.2.2.2.2.2.2.2.2.2.1
theorem dL_law_261 : decode cL_law 261 = .ok (.iadd, 1) := dg34_dL_law.2.2.2.2.2.2.2.2.2.2.2.1
theorem dL_law_262 : decode cL_law 262 = .ok (.iaload, 1) := dg34_dL_law.2.2.2.2.2.2.2.2.2.2.2.2.1
theorem dL_law_263 : decode cL_law 263 = .ok (.aload_n 0, 1) := dg34_dL_law.2.2.2.2.2.2.2.2.2.2.2.2.2.1
theorem dL_law_264 : decode cL_law 264 = .ok (.iload 4, 2) := dg34_dL_law.2.2.2.2.2.2.2.2.2.2.2.2.2.2.1
theorem dL_law_266 : decode cL_law 266 = .ok (.iconst 5, 1) := dg34_dL_law.2.2.2.2.2.2.2.2.2.2.2.2.2.2.2.1
theorem dL_law_267 : decode cL_law 267 = .ok (.iadd, 1) := dg34_dL_law.2.2.2.2.2.2.2.2.2.2.2.2.2.2.2.2.1
theorem dL_law_268 : decode cL_law 268 = .ok (.iaload, 1) := dg34_dL_law.2.2.2.2.2.2.2.2.2.2.2.2.2.2.2.2.2.1
theorem dL_law_269 : decode cL_law 269 = .ok (.invokevirtual 121, 3) := dg34_dL_law.2.2.2.2.2.2.2.2.2.2.2.2.2.2.2.2.2.2.1
theorem dL_law_272 : decode cL_law 272 = .ok (.if_icmp .eq 2156, 3) := dg34_dL_law.2.2.2.2.2.2.2.2.2.2.2.2.2.2.2.2.2.2.2.1
theorem dL_law_275 : decode cL_law 275 = .ok (.iconst 0, 1) := dg34_dL_law.2.2.2.2.2.2.2.2.2.2.2.2.2.2.2.2.2.2.2.2.1
theorem dL_law_276 : decode cL_law 276 = .ok (.ireturn, 1) := dg34_dL_law.2.2.2.2.2.2.2.2.2.2.2.2.2.2.2.2.2.2.2.2.2.1
theorem dL_law_277 : decode cL_law 277 = .ok (.aload_n 1, 1) := dg34_dL_law.2.2.2.2.2.2.2.2.2.2.2.2.2.2.2.2.2.2.2.2.2.2.1
theorem dL_law_278 : decode cL_law 278 = .ok (.aload_n 0, 1) := dg34_dL_law.2.2.2.2.2.2.2.2.2.2.2.2.2.2.2.2.2.2.2.2.2.2.2.1
theorem dL_law_279 : decode cL_law 279 = .ok (.iload 4, 2) := dg34_dL_law.2.2.2.2.2.2.2.2.2.2.2.2.2.2.2.2.2.2.2.2.2.2.2.2.1
theorem dL_law_281 : decode cL_law 281 = .ok (.iconst 1, 1) := dg34_dL_law.2.2.2.2.2.2.2.2.2.2.2.2.2.2.2.2.2.2.2.2.2.2.2.2.2.1
theorem dL_law_282 : decode cL_law 282 = .ok (.iadd, 1) := dg34_dL_law.2.2.2.2.2.2.2.2.2.2.2.2.2.2.2.2.2.2.2.2.2.2.2.2.2.2.1
theorem dL_law_283 : decode cL_law 283 = .ok (.iaload, 1) := dg34_dL_law.2.2.2.2.2.2.2.2.2.2.2.2.2.2.2.2.2.2.2.2.2.2.2.2.2.2.2.1
theorem dL_law_284 : decode cL_law 284 = .ok (.aload_n 3, 1) := dg34_dL_law.2.2.2.2.2.2.2.2.2.2.2.2.2.2.2.2.2.2.2.2.2.2.2.2.2.2.2.2.1
theorem dL_law_285 : decode cL_law 285 = .ok (.invokestatic 122, 3) := dg34_dL_law.2.2.2.2.2.2.2.2.2.2.2.2.2.2.2.2.2.2.2.2.2.2.2.2.2.2.2.2.2.1
theorem dg35_dL_law : Jvm.Free.DS.Facts cL_law 288 [(.istore 5, 2), (.aload_n 2, 1), (.aload_n 0, 1), (.iload 4, 2), (.iconst 1, 1), (.iadd, 1), (.iaload, 1), (.invokevirtual 127, 3), (.istore 6, 2), (.aload_n 2, 1), (.invokevirtual 128, 3), (.iload 5, 2), (.if_icmp .eq 5, 3), (.iconst 0, 1), (.ireturn, 1), (.iload 5, 2), (.ifCond .ne 15, 3), (.aload_n 3, 1), (.iconst 0, 1), (.laload, 1), (.iload 6, 2), (.i2l, 1), (.lcmp, 1), (.ifCond .eq 5, 3), (.iconst 0, 1), (.ireturn, 1), (.goto 2098, 3), (.aload_n 1, 1), (.aload_n 0, 1), (.iload 4, 2)] := Jvm.Free.DS.facts 288 _ (by decide +kernel) (by decide +kernel)
theorem dL_law_288 : decode cL_law 288 = .ok (.istore 5, 2) := dg35_dL_law.1
theorem dL_law_290 : decode cL_law 290 = .ok (.aload_n 2, 1) := dg35_dL_law.2.1
theorem dL_law_291 : decode cL_law 291 = .ok (.aload_n 0, 1) := dg35_dL_law.2.2.1
theorem dL_law_292 : decode cL_law 292 = .ok (.iload 4, 2) := dg35_dL_law.2.2.2.1
theorem dL_law_294 : decode cL_law 294 = .ok (.iconst 1, 1) := dg35_dL_law.2.2.2.2.1
theorem dL_law_295 : decode cL_law 295 = .ok (.iadd, 1) := dg35_dL_law.2.2.2.2.2.1
theorem dL_law_296 : decode cL_law 296 = .ok (.iaload, 1) := dg35_dL_law.2.2.2.2.2.2.1
theorem dL_law_297 : decode cL_law 297 = .ok (.invokevirtual 127, 3) := dg35_dL_law.2.2.2.2.2.2.2.1
theorem dL_law_300 : decode cL_law 300 = .ok (.istore 6, 2) := dg35_dL_law.2.2.2.2.2.2.2.2.1
theorem dL_law_302 : decode cL_law 302 = .ok (.aload_n 2, 1) := dg35_dL_law.2.2.2.2.2.2.2.2.2.1
theorem dL_law_303 : decode cL_law 303 = .ok (.invokevirtual 128, 3) := dg35_dL_law.2.2.2.2.2.2.2.2.2.2.1
theorem dL_law_306 : decode cL_law 306 = .ok (.iload 5, 2) := dg35_dL_law.2.2.2.2.2.2.2.2.2.2.2.1
theorem dL_law_308 : decode cL_law 308 = .ok (.if_icmp .eq 5, 3) := dg35_dL_law.2.2.2.2.2.2.2.2.2.2.2.2.1
theorem dL_law_311 : decode cL_law 311 = .ok (.iconst 0, 1) := dg35_dL_law.2.2.2.2.2.2.2.2.2.2.2.2.2.1
theorem dL_law_312 : decode cL_law 312 = .ok (.ireturn, 1) := dg35_dL_law.2.2.2.2.2.2.2.2.2.2.2.2.2.2.1
theorem dL_law_313 : decode cL_law 313 = .ok (.iload 5, 2) := dg35_dL_law.2.2.2.2.2.2.2.2.2.2.2.2.2.2.2.1
theorem dL_law_315 : decode cL_law 315 = .ok (.ifCond .ne 15, 3) := dg35_dL_law.2.2.2.2.2.2.2.2.2.2.2.2.2.2.2.2.1
theorem dL_law_318 : decode cL_law 318 = .ok (.aload_n 3, 1) := dg35_dL_law.2.2.2.2.2.2.2.2.2.2.2.2.2.2.2.2.2.1
theorem dL_law_319 : decode cL_law 319 = .ok (.iconst 0, 1) := dg35_dL_law.2.2.2.2.2.2.2.2.2.2.2.2.2.2.2.2.2.2.1
theorem dL_law_320 : decode cL_law 320 = .ok (.laload, 1) := dg35_dL_law.2.2.2.2.2.2.2.2.2.2.2.2.2.2.2.2.2.2.2.1
theorem dL_law_321 : decode cL_law 321 = .ok (.iload 6, 2) := dg35_dL_law.2.2.2.2.2.2.2.2.2.2.2.2.2.2.2.2.2.2.2.2.1
theorem dL_law_323 : decode cL_law 323 = .ok (.i2l, 1) := dg35_dL_law.2.2.2.2.2.2.2.2.2.2.2.2.2.2.2.2.2.2.2.2.2.1
theorem dL_law_324 : decode cL_law 324 = .ok (.lcmp, 1) := dg35_dL_law.2.2.2.2.2.2.2.2.2.2.2.2.2.2.2.2.2.2.2.2.2.2.1
theorem dL_law_325 : decode cL_law 325 = .ok (.ifCond .eq 5, 3) := dg35_dL_law.2.2.2.2.2.2.2.2.2.2.2.2.2.2.2.2.2.2.2.2.2.2.2.1
theorem dL_law_328 : decode cL_law 328 = .ok (.iconst 0, 1) := dg35_dL_law.2.2.2.2.2.2.2.2.2.2.2.2.2.2.2.2.2.2.2.2.2.2.2.2.1
theorem dL_law_329 : decode cL_law 329 = .ok (.ireturn, 1) := dg35_dL_law.2.2.2.2.2.2.2.2.2.2.2.2.2.2.2.2.2.2.2.2.2.2.2.2.2.1
theorem dL_law_330 : decode cL_law 330 = .ok (.goto 2098, 3) := dg35_dL_law.2.2.2.2.2.2.2.2.2.2.2.2.2.2.2.2.2.2.2.2.2.2.2.2.2.2.1
theorem dL_law_333 : decode cL_law 333 = .ok (.aload_n 1, 1) := dg35_dL_law.2.2.2.2.2.2.2.2.2.2.2.2.2.2.2.2.2.2.2.2.2.2.2.2.2.2.2.1
theorem dL_law_334 : decode cL_law 334 = .ok (.aload_n 0, 1) := dg35_dL_law.2.2.2.2.2.2.2.2.2.2.2.2.2.2.2.2.2.2.2.2.2.2.2.2.2.2.2.2.1
theorem dL_law_335 : decode cL_law 335 = .ok (.iload 4, 2) := dg35_dL_law.2.2.2.2.2.2.2.2.2.2.2.2.2.2.2.2.2.2.2.2.2.2.2.2.2.2.2.2.2.1
theorem dg36_dL_law : Jvm.Free.DS.Facts cL_law 337 [(.iconst 1, 1), (.iadd, 1), (.iaload, 1), (.aload_n 3, 1), (.invokestatic 132, 3), (.istore 5, 2), (.aload_n 2, 1), (.aload_n 0, 1), (.iload 4, 2), (.iconst 1, 1), (.iadd, 1), (.iaload, 1), (.invokevirtual 134, 3), (.istore 6, 2), (.aload_n 2, 1), (.invokevirtual 128, 3), (.iload 5, 2), (.if_icmp .eq 5, 3), (.iconst 0, 1), (.ireturn, 1), (.iload 5, 2), (.ifCond .ne 15, 3), (.aload_n 3, 1), (.iconst 0, 1), (.laload, 1), (.iload 6, 2), (.i2l, 1), (.lcmp, 1), (.ifCond .eq 5, 3), (.iconst 0, 1)] := Jvm.Free.DS.facts 337 _ (by decide +kernel) (by decide +kernel)
theorem dL_law_337 : decode cL_law 337 = .ok (.iconst 1, 1) := dg36_dL_law.1
theorem dL_law_338 : decode cL_law 338 = .ok (.iadd, 1) := dg36_dL_law.2.1
theorem dL_law_339 : decode cL_law 339 = .ok (.iaload, 1) := dg36_dL_law.2.2.1
theorem dL_law_340 : decode cL_law 340 = .ok (.aload_n 3, 1) := dg36_dL_law.2.2.2.1
theorem dL_law_341 : decode cL_law 341 = .ok (.invokestatic 132, 3) := dg36_dL_law.2.2.2.2.1
theorem dL_law_344 : decode cL_law 344 = .ok (.istore 5, 2) := dg36_dL_law.2.2.2.2.2.1
theorem dL_law_346 : decode cL_law 346 = .ok (.aload_n 2, 1) := dg36_dL_law.2.2.2.2.2.2.1
theorem dL_law_347 : decode cL_law 347 = .ok (.aload_n 0, 1) := dg36_dL_law.2.2.2.2.2.2.2.1
theorem dL_law_348 : decode cL_law 348 = .ok (.iload 4, 2) := dg36_dL_law.2.2.2.2.2.2.2.2.1
theorem dL_law_350 : decode cL_law 350 = .ok (.iconst 1, 1) := dg36_dL_law.2.2.2.2.2.2.2.2.2.1
theorem dL_law_351 : decode cL_law 351 = .ok (.iadd, 1) := dg36_dL_law.2.2.2.2.2.2.2.2.2.2.1
theorem dL_law_352 : decode cL_law 352 = .ok (.iaload, 1) := dg36_dL_law.2.2.2.2.2.2.2.2.2.2.2.1
theorem dL_law_353 : decode cL_law 353 = .ok (.invokevirtual 134, 3) := dg36_dL_law.2.2.2.2.2.2.2.2.2.2.2.2.1
theorem dL_law_356 : decode cL_law 356 = .ok (.istore 6, 2) := dg36_dL_law.2.2.2.2.2.2.2.2.2.2.2.2.2.1
theorem dL_law_358 : decode cL_law 358 = .ok (.aload_n 2, 1) := dg36_dL_law.2.2.2.2.2.2.2.2.2.2.2.2.2.2.1
theorem dL_law_359 : decode cL_law 359 = .ok (.invokevirtual 128, 3) := dg36_dL_law.2.2.2.2.2.2.2.2.2.2.2.2.2.2.2.1
theorem dL_law_362 : decode cL_law 362 = .ok (.iload 5, 2) := dg36_dL_law.2.2.2.2.2.2.2.2.2.2.2.2.2.2.2.2.1
theorem dL_law_364 : decode cL_law 364 = .ok (.if_icmp .eq 5, 3) := dg36_dL_law.2.2.2.2.2.2.2.2.2.2.2.2.2.2.2.2.2.1
theorem dL_law_367 : decode cL_law 367 = .ok (.iconst 0, 1) := dg36_dL_law.2.2.2.2.2.2.2.2.2.2.2.2.2.2.2.2.2.2.1
theorem dL_law_368 : decode cL_law 368 = .ok (.ireturn, 1) := dg36_dL_law.2.2.2.2.2.2.2.2.2.2.2.2.2.2.2.2.2.2.2.1
theorem dL_law_369 : decode cL_law 369 = .ok (.iload 5, 2) := dg36_dL_law.2.2.2.2.2.2.2.2.2.2.2.2.2.2.2.2.2.2.2.2.1
theorem dL_law_371 : decode cL_law 371 = .ok (.ifCond .ne 15, 3) := dg36_dL_law.2.2.2.2.2.2.2.2.2.2.2.2.2.2.2.2.2.2.2.2.2.1
theorem dL_law_374 : decode cL_law 374 = .ok (.aload_n 3, 1) := dg36_dL_law.2.2.2.2.2.2.2.2.2.2.2.2.2.2.2.2.2.2.2.2.2.2.1
theorem dL_law_375 : decode cL_law 375 = .ok (.iconst 0, 1) := dg36_dL_law.2.2.2.2.2.2.2.2.2.2.2.2.2.2.2.2.2.2.2.2.2.2.2.1
theorem dL_law_376 : decode cL_law 376 = .ok (.laload, 1) := dg36_dL_law.2.2.2.2.2.2.2.2.2.2.2.2.2.2.2.2.2.2.2.2.2.2.2.2.1
theorem dL_law_377 : decode cL_law 377 = .ok (.iload 6, 2) := dg36_dL_law.2.2.2.2.2.2.2.2.2.2.2.2.2.2.2.2.2.2.2.2.2.2.2.2.2.1
theorem dL_law_379 : decode cL_law 379 = .ok (.i2l, 1) := dg36_dL_law.2.2.2.2.2.2.2.2.2.2.2.2.2.2.2.2.2.2.2.2.2.2.2.2.2.2.1
theorem dL_law_380 : decode cL_law 380 = .ok (.lcmp, 1) := dg36_dL_law.2.2.2.2.2.2.2.2.2.2.2.2.2.2.2.2.2.2.2.2.2.2.2.2.2.2.2.1
theorem dL_law_381 : decode cL_law 381 = .ok (.ifCond .eq 5, 3) := dg36_dL_law.2.2.2.2.2.2.2.2.2.2.2.2.2.2.2.2.2.2.2.2.2.2.2.2.2.2.2.2.1
theorem dL_law_384 : decode cL_law 384 = .ok (.iconst 0, 1) := dg36_dL_law.2.2.2.2.2.2.2.2.2.2.2.2.2.2.2.2.2.2.2.2.2.2.2.2.2.2.2.2.2.1
theorem dg37_dL_law : Jvm.Free.DS.Facts cL_law 385 [(.ireturn, 1), (.goto 2042, 3), (.aload_n 1, 1), (.aload_n 0, 1), (.iload 4, 2), (.iconst 1, 1), (.iadd, 1), (.iaload, 1), (.aload_n 3, 1), (.invokestatic 135, 3), (.istore 5, 2), (.aload_n 2, 1), (.aload_n 0, 1), (.iload 4, 2), (.iconst 1, 1), (.iadd, 1), (.iaload, 1), (.invokevirtual 137, 3), (.istore 6, 2), (.aload_n 2, 1), (.invokevirtual 128, 3), (.iload 5, 2), (.if_icmp .eq 5, 3), (.iconst 0, 1), (.ireturn, 1), (.iload 5, 2), (.ifCond .ne 15, 3), (.aload_n 3, 1), (.iconst 0, 1), (.laload, 1)] := Jvm.Free.DS.facts 385 _ (by decide +kernel) (by decide +kernel)
theorem dL_law_385 : decode cL_law 385 = .ok (.ireturn, 1) := dg37_dL_law.1
theorem dL_law_386 : decode cL_law 386 = .ok (.goto 2042, 3) := dg37_dL_law.2.1
theorem dL_law_389 : decode cL_law 389 = .ok (.aload_n 1, 1) := dg37_dL_law.2.2.1
theorem dL_law_390 : decode cL_law 390 = .ok (.aload_n 0, 1) := dg37_dL_law.2.2.2.1
theorem dL_law_391 : decode cL_law 391 = .ok (.iload 4, 2) := dg37_dL_law.2.2.2.2.1
theorem dL_law_393 : decode cL_law 393 = .ok (.iconst 1, 1) := dg37_dL_law.2.2.2.2.2.1
theorem dL_law_394 : decode cL_law 394 = .ok (.iadd, 1) := dg37_dL_law.2.2.2.2.2.2.1
theorem dL_law_395 : decode cL_law 395 = .ok (.iaload, 1) := dg37_dL_law.2.2.2.2.2.2.2.1
theorem dL_law_396 : decode cL_law 396 = .ok (.aload_n 3, 1) := dg37_dL_law.2.2.2.2.2.2.2.2.1
theorem dL_law_397 : decode cL_law 397 = .ok (.invokestatic 135, 3) := dg37_dL_law.2.2.2.2.2.2.2.2.2.1
theorem dL_law_400 : decode cL_law 400 = .ok (.istore 5, 2) := dg37_dL_law.2.2.2.2.2.2.2.2.2.2.1
theorem dL_law_402 : decode cL_law 402 = .ok (.aload_n 2, 1) := dg37_dL_law.2.2.2.2.2.2.2.2.2.2.2.1
theorem dL_law_403 : decode cL_law 403 = .ok (.aload_n 0, 1) := dg37_dL_law.2.2.2.2.2.2.2.2.2.2.2.2.1
theorem dL_law_404 : decode cL_law 404 = .ok (.iload 4, 2) := dg37_dL_law.2.2.2.2.2.2.2.2.2.2.2.2.2.1
theorem dL_law_406 : decode cL_law 406 = .ok (.iconst 1, 1) := dg37_dL_law.2.2.2.2.2.2.2.2.2.2.2.2.2.2.1
theorem dL_law_407 : decode cL_law 407 = .ok (.iadd, 1) := dg37_dL_law.2.2.2.2.2.2.2.2.2.2.2.2.2.2.2.1
theorem dL_law_408 : decode cL_law 408 = .ok (.iaload, 1) := dg37_dL_law.2.2.2.2.2.2.2.2.2.2.2.2.2.2.2.2.1
theorem dL_law_409 : decode cL_law 409 = .ok (.invokevirtual 137, 3) := dg37_dL_law.2.2.2.2.2.2.2.2.2.2.2.2.2.2.2.2.2.1
theorem dL_law_412 : decode cL_law 412 = .ok (.istore 6, 2) := dg37_dL_law.2.2.2.2.2.2.2.2.2.2.2.2.2.2.2.2.2.2.1
theorem dL_law_414 : decode cL_law 414 = .ok (.aload_n 2, 1) := dg37_dL_law.2.2.2.2.2.2.2.2.2.2.2.2.2.2.2.2.2.2.2.1
theorem dL_law_415 : decode cL_law 415 = .ok (.invokevirtual 128, 3) := dg37_dL_law.2.2.2.2.2.2.2.2.2.2.2.2.2.2.2.2.2.2.2.2.1
theorem dL_law_418 : decode cL_law 418 = .ok (.iload 5, 2) := dg37_dL_law.2.2.2.2.2.2.2.2.2.2.2.2.2.2.2.2.2.2.2.2.2.1
theorem dL_law_420 : decode cL_law 420 = .ok (.if_icmp .eq 5, 3) := dg37_dL_law.2.2.2.2.2.2.2.2.2.2.2.2.2.2.2.2.2.2.2.2.2.2.1
theorem dL_law_423 : decode cL_law 423 = .ok (.iconst 0, 1) := dg37_dL_law.2.2.2.2.2.2.2.2.2.2.2.2.2.2.2.2.2.2.2.2.2.2.2.1
theorem dL_law_424 : decode cL_law 424 = .ok (.ireturn, 1) := dg37_dL_law.2.2.2.2.2.2.2.2.2.2.2.2.2.2.2.2.2.2.2.2.2.2.2.2.1
theorem dL_law_425 : decode cL_law 425 = .ok (.iload 5, 2) := dg37_dL_law.2.2.2.2.2.2.2.2.2.2.2.2.2.2.2.2.2.2.2.2.2.2.2.2.2.1
theorem dL_law_427 : decode cL_law 427 = .ok (.ifCond .ne 15, 3) := dg37_dL_law.2.2.2.2.2.2.2.2.2.2.2.2.2.2.2.2.2.2.2.2.2.2.2.2.2.2.1
theorem dL_law_430 : decode cL_law 430 = .ok (.aload_n 3, 1) := dg37_dL_law.2.2.2.2.2.2.2.2.2.2.2.2.2.2.2.2.2.2.2.2.2.2.2.2.2.2.2.1
theorem dL_law_431 : decode cL_law 431 = .ok (.iconst 0, 1) := dg37_dL_law.2.2.2.2.2.2.2.2.2.2.2.2.2.2.2.2.2.2.2.2.2.2.2.2.2.2.2.2.1
theorem dL_law_432 : decode cL_law 432 = .ok (.laload, 1) := dg37_dL_law.2.2.2.2.2.2.2.2.2.2.2.2.2.2.2.2.2.2.2.2.2.2.2.2.2.2.2.2.2.1
theorem dg38_dL_law : Jvm.Free.DS.Facts cL_law 433 [(.iload 6, 2), (.i2l, 1), (.lcmp, 1), (.ifCond .eq 5, 3), (.iconst 0, 1), (.ireturn, 1), (.goto 1986, 3), (.aload_n 1, 1), (.invokevirtual 138, 3), (.aload_n 2, 1), (.invokevirtual 141, 3), (.if_icmp .eq 1975, 3), (.iconst 0, 1), (.ireturn, 1), (.aload_n 1, 1), (.aload_n 0, 1), (.iload 4, 2), (.iconst 1, 1), (.iadd, 1), (.iaload, 1), (.aload_n 3, 1), (.invokestatic 142, 3), (.istore 5, 2), (.aload_n 2, 1), (.aload_n 0, 1), (.iload 4, 2), (.iconst 1, 1), (.iadd, 1), (.iaload, 1), (.invokevirtual 144, 3)] := Jvm.Free.DS.facts 433 _ (by decide +kernel) (by decide +kernel)
theorem dL_law_433 : decode cL_law 433 = .ok (.iload 6, 2) := dg38_dL_law.1
theorem dL_law_435 : decode cL_law 435 = .ok (.i2l, 1) := dg38_dL_law.2.1
theorem dL_law_436 : decode cL_law 436 = .ok (.lcmp, 1) := dg38_dL_law.2.2.1
theorem dL_law_437 : decode cL_law 437 = .ok (.ifCond .eq 5, 3) := dg38_dL_law.2.2.2.1
theorem dL_law_440 : decode cL_law 440 = .ok (.iconst 0, 1) := dg38_dL_law.2.2.2.2.1
theorem dL_law_441 : decode cL_law 441 = .ok (.ireturn, 1) := dg38_dL_law.2.2.2.2.2.1
theorem dL_law_442 : decode cL_law 442 = .ok (.goto 1986, 3) := dg38_dL_law.2.2.2.2.2.2.1
theorem dL_law_445 : decode cL_law 445 = .ok (.aload_n 1, 1) := dg38_dL_law.2.2.2.2.2.2.2.1
theorem dL_law_446 : decode cL_law 446 = .ok (.invokevirtual 138, 3) := dg38_dL_law.2.2.2.2.2.2.2.2.1
theorem dL_law_449 : decode cL_law 449 = .ok (.aload_n 2, 1) := dg38_dL_law.2.2.2.2.2.2.2.2.2.1
theorem dL_law_450 : decode cL_law 450 = .ok (.invokevirtual 141, 3) := dg38_dL_law.2.2.2.2.2.2.2.2.2.2.1
theorem dL_law_453 : decode cL_law 453 = .ok (.if_icmp .eq 1975, 3) := dg38_dL_law.2.2.2.2.2.2.2.2.2.2.2.1
theorem dL_law_456 : decode cL_law 456 = .ok (.iconst 0, 1) := dg38_dL_law.2.2.2.2.2.2.2.2.2.2.2.2.1
theorem dL_law_457 : decode cL_law 457 = .ok (.ireturn, 1) := dg38_dL_law.2.2.2.2.2.2.2.2.2.2.2.2.2.1
theorem dL_law_458 : decode cL_law 458 = .ok (.aload_n 1, 1) := dg38_dL_law.2.2.2.2.2.2.2.2.2.2.2.2.2.2.1
theorem dL_law_459 : decode cL_law 459 = .ok (.aload_n 0, 1) := dg38_dL_law.2.2.2.2.2.2.2.2.2.2.2.2.2.2.2.1
theorem dL_law_460 : decode cL_law 460 = .ok (.iload 4, 2) := dg38_dL_law.2.2.2.2.2.2.2.2.2.2.2.2.2.2.2.2.1
theorem dL_law_462 : decode cL_law 462 = .ok (.iconst 1, 1) := dg38_dL_law.2.2.2.2.2.2.2.2.2.2.2.2.2.2.2.2.2.1
theorem dL_law_463 : decode cL_law 463 = .ok (.iadd, 1) := dg38_dL_law.2.2.2.2.2.2.2.2.2.2.2.2.2.2.2.2.2.2.1
theorem dL_law_464 : decode cL_law 464 = .ok (.iaload, 1) := dg38_dL_law.2.2.2.2.2.2.2.2.2.2.2.2.2.2.2.2.2.2.2.1
theorem dL_law_465 : decode cL_law 465 = .ok (.aload_n 3, 1) := dg38_dL_law.2.2.2.2.2.2.2.2.2.2.2.2.2.2.2.2.2.2.2.2.1
theorem dL_law_466 : decode cL_law 466 = .ok (.invokestatic 142, 3) := dg38_dL_law.2.2.2.2.2.2.2.2.2.2.2.2.2.2.2.2.2.2.2.2.2.1
theorem dL_law_469 : decode cL_law 469 = .ok (.istore 5, 2) := dg38_dL_law.2.2.2.2.2.2.2.2.2.2.2.2.2.2.2.2.2.2.2.2.2.2.1
theorem dL_law_471 : decode cL_law 471 = .ok (.aload_n 2, 1) := dg38_dL_law.2.2.2.2.2.2.2.2.2.2.2.2.2.2.2.2.2.2.2.2.2.2.2.1
theorem dL_law_472 : decode cL_law 472 = .ok (.aload_n 0, 1) := dg38_dL_law.2.2.2.2.2.2.2.2.2.2.2.2.2.2.2.2.2.2.2.2.2.2.2.2.1
theorem dL_law_473 : decode cL_law 473 = .ok (.iload 4, 2) := dg38_dL_law.2.2.2.2.2.2.2.2.2.2.2.2.2.2.2.2.2.2.2.2.2.2.2.2.2.1
theorem dL_law_475 : decode cL_law 475 = .ok (.iconst 1, 1) := dg38_dL_law.2.2.2.2.2.2.2.2.2.2.2.2.2.2.2.2.2.2.2.2.2.2.2.2.2.2.1
theorem dL_law_476 : decode cL_law 476 = .ok (.iadd, 1) := dg38_dL_law.2.2.2.2.2.2.2.2.2.2.2.2.2.2.2.2.2.2.2.2.2.2.2.2.2.2.2.1
theorem dL_law_477 : decode cL_law 477 = .ok (.iaload, 1) := dg38_dL_law.2.2.2.2.2.2.2.2.2.2.2.2.2.2.2.2.2.2.2.2.2.2.2.2.2.2.2.2.1
theorem dL_law_478 : decode cL_law 478 = .ok (.invokevirtual 144, 3) := dg38_dL_law.2.2.2.2.2.2.2.2.2.2.2.2.2.2.2.2.2.2.2.2.2.2.2.2.2.2.2.2.2.1
theorem dg39_dL_law : Jvm.Free.DS.Facts cL_law 481 [(.istore 6, 2), (.aload_n 2, 1), (.invokevirtual 128, 3), (.iload 5, 2), (.if_icmp .eq 5, 3), (.iconst 0, 1), (.ireturn, 1), (.iload 5, 2), (.ifCond .ne 15, 3), (.aload_n 3, 1), (.iconst 0, 1), (.laload, 1), (.iload 6, 2), (.i2l, 1), (.lcmp, 1), (.ifCond .eq 5, 3), (.iconst 0, 1), (.ireturn, 1), (.goto 1917, 3), (.aload_n 1, 1), (.invokevirtual 145, 3), (.aload_n 2, 1), (.invokevirtual 148, 3), (.if_icmp .eq 1906, 3), (.iconst 0, 1), (.ireturn, 1), (.aload_n 1, 1), (.aload_n 0, 1), (.iload 4, 2), (.iconst 1, 1)] := Jvm.Free.DS.facts 481 _ (by decide +kernel) (by decide +kernel)
theorem dL_law_481 : decode cL_law 481 = .ok (.istore 6, 2) := dg39_dL_law.1
theorem dL_law_483 : decode cL_law 483 = .ok (.aload_n 2, 1) := dg39_dL_law.2.1
theorem dL_law_484 : decode cL_law 484 = .ok (.invokevirtual 128, 3) := dg39_dL_law.2.2.1
theorem dL_law_487 : decode cL_law 487 = .ok (.iload 5, 2) := dg39_dL_law.2.2.2.1
theorem dL_law_489 : decode cL_law 489 = .ok (.if_icmp .eq 5, 3) := dg39_dL_law.2.2.2.2.1
theorem dL_law_492 : decode cL_law 492 = .ok (.iconst 0, 1) := dg39_dL_law.2.2.2.2.2.1
theorem dL_law_493 : decode cL_law 493 = .ok (.ireturn, 1) := dg39_dL_law.2.2.2.2.2.2.1
theorem dL_law_494 : decode cL_law 494 = .ok (.iload 5, 2) := dg39_dL_law.2.2.2.2.2.2.2.1
theorem dL_law_496 : decode cL_law 496 = .ok (.ifCond .ne 15, 3) := dg39_dL_law.2.2.2.2.2.2.2.2.1
theorem dL_law_499 : decode cL_law 499 = .ok (.aload_n 3, 1) := dg39_dL_law.2.2.2.2.2.2.2.2.2.1
theorem dL_law_500 : decode cL_law 500 = .ok (.iconst 0, 1) := dg39_dL_law.2.2.2.2.2.2.2.2.2.2.1
theorem dL_law_501 : decode cL_law 501 = .ok (.laload, 1) := dg39_dL_law.2.2.2.2.2.2.2.2.2.2.2.1
theorem dL_law_502 : decode cL_law 502 = .ok (.iload 6, 2) := dg39_dL_law.2.2.2.2.2.2.2.2.2.2.2.2.1
theorem dL_law_504 : decode cL_law 504 = .ok (.i2l, 1) := dg39_dL_law.2.2.2.2.2.2.2.2.2.2.2.2.2.1
theorem dL_law_505 : decode cL_law 505 = .ok (.lcmp, 1) := dg39_dL_law.2.2.2.2.2.2.2.2.2.2.2.2.2.2.1
theorem dL_law_506 : decode cL_law 506 = .ok (.ifCond .eq 5, 3) := dg39_dL_law.2.2.2.2.2.2.2.2.2.2.2.2.2.2.2.1
theorem dL_law_509 : decode cL_law 509 = .ok (.iconst 0, 1) := dg39_dL_law.2.2.2.2.2.2.2.2.2.2.2.2.2.2.2.2.1
theorem dL_law_510 : decode cL_law 510 = .ok (.ireturn, 1) := dg39_dL_law.2.2.2.2.2.2.2.2.2.2.2.2.2.2.2.2.2.1
theorem dL_law_511 : decode cL_law 511 = .ok (.goto 1917, 3) := dg39_dL_law.2.2.2.2.2.2.2.2.2.2.2.2.2.2.2.2.2.2.1
theorem dL_law_514 : decode cL_law 514 = .ok (.aload_n 1, 1) := dg39_dL_law.2.2.2.2.2.2.2.2.2.2.2.2.2.2.2.2.2.2.2.1
theorem dL_law_515 : decode cL_law 515 = .ok (.invokevirtual 145, 3) := dg39_dL_law.2.2.2.2.2.2.2.2.2.2.2.2.2.2.2.2.2.2.2.2.1
theorem dL_law_518 : decode cL_law 518 = .ok (.aload_n 2, 1) := dg39_dL_law.2.2.2.2.2.2.2.2.2.2.2.2.2.2.2.2.2.2.2.2.2.1
theorem dL_law_519 : decode cL_law 519 = .ok (.invokevirtual 148, 3) := dg39_dL_law.2.2.2.2.2.2.2.2.2.2.2.2.2.2.2.2.2.2.2.2.2.2.1
theorem dL_law_522 : decode cL_law 522 = .ok (.if_icmp .eq 1906, 3) := dg39_dL_law.2.2.2.2.2.2.2.2.2.2.2.2.2.2.2.2.2.2.2.2.2.2.2.1
theorem dL_law_525 : decode cL_law 525 = .ok (.iconst 0, 1) := dg39_dL_law.2.2.2.2.2.2.2.2.2.2.2.2.2.2.2.2.2.2.2.2.2.2.2.2.1
theorem dL_law_526 : decode cL_law 526 = .ok (.ireturn, 1) := dg39_dL_law.2.2.2.2.2.2.2.2.2.2.2.2.2.2.2.2.2.2.2.2.2.2.2.2.2.1
theorem dL_law_527 : decode cL_law 527 = .ok (.aload_n 1, 1) := dg39_dL_law.2.2.2.2.2.2.2.2.2.2.2.2.2.2.2.2.2.2.2.2.2.2.2.2.2.2.1
theorem dL_law_528 : decode cL_law 528 = .ok (.aload_n 0, 1) := dg39_dL_law.2.2.2.2.2.2.2.2.2.2.2.2.2.2.2.2.2.2.2.2.2.2.2.2.2.2.2.1
theorem dL_law_529 : decode cL_law 529 = .ok (.iload 4, 2) := dg39_dL_law.2.2.2.2.2.2.2.2.2.2.2.2.2.2.2.2.2.2.2.2.2.2.2.2.2.2.2.2.1
theorem dL_law_531 : decode cL_law 531 = .ok (.iconst 1, 1) := dg39_dL_law.2.2.2.2.2.2.2.2.2.2.2.2.2.2.2.2.2.2.2.2.2.2.2.2.2.2.2.2.2.1
theorem dg40_dL_law : Jvm.Free.DS.Facts cL_law 532 [(.iadd, 1), (.iaload, 1), (.aload_n 0, 1), (.iload 4, 2), (.iconst 2, 1), (.iadd, 1), (.iaload, 1), (.aload_n 3, 1), (.invokestatic 149, 3), (.istore 5, 2), (.aload_n 2, 1), (.aload_n 0, 1), (.iload 4, 2), (.iconst 1, 1), (.iadd, 1), (.iaload, 1), (.aload_n 0, 1), (.iload 4, 2), (.iconst 2, 1), (.iadd, 1), (.iaload, 1), (.invokevirtual 152, 3), (.istore 6, 2), (.aload_n 2, 1), (.invokevirtual 128, 3), (.iload 5, 2), (.if_icmp .eq 5, 3), (.iconst 0, 1), (.ireturn, 1), (.iload 5, 2)] := Jvm.Free.DS.facts 532 _ (by decide +kernel) (by decide +kernel)
theorem dL_law_532 : decode cL_law 532 = .ok (.iadd, 1) := dg40_dL_law.1
theorem dL_law_533 : decode cL_law 533 = .ok (.iaload, 1) := dg40_dL_law.2.1
theorem dL_law_534 : decode cL_law 534 = .ok (.aload_n 0, 1) := dg40_dL_law.2.2.1
theorem dL_law_535 : decode cL_law 535 = .ok (.iload 4, 2) := dg40_dL_law.2.2.2.1
theorem dL_law_537 : decode cL_law 537 = .ok (.iconst 2, 1) := dg40_dL_law.2.2.2.2.1
theorem dL_law_538 : decode cL_law 538 = .ok (.iadd, 1) := dg40_dL_law.2.2.2.2.2.1
theorem dL_law_539 : decode cL_law 539 = .ok (.iaload, 1) := dg40_dL_law.2.2.2.2.2.2.1
theorem dL_law_540 : decode cL_law 540 = .ok (.aload_n 3, 1) := dg40_dL_law.2.2.2.2.2.2.2.1
theorem dL_law_541 : decode cL_law 541 = .ok (.invokestatic 149, 3) := dg40_dL_law.2.2.2.2.2.2.2.2.1
theorem dL_law_544 : decode cL_law 544 = .ok (.istore 5, 2) := dg40_dL_law.2.2.2.2.2.2.2.2.2.1
theorem dL_law_546 : decode cL_law 546 = .ok (.aload_n 2, 1) := dg40_dL_law.2.2.2.2.2.2.2.2.2.2.1
theorem dL_law_547 : decode cL_law 547 = .ok (.aload_n 0, 1) := dg40_dL_law.2.2.2.2.2.2.2.2.2.2.2.1
theorem dL_law_548 : decode cL_law 548 = .ok (.iload 4, 2) := dg40_dL_law.2.2.2.2.2.2.2.2.2.2.2.2.1
theorem dL_law_550 : decode cL_law 550 = .ok (.iconst 1, 1) := dg40_dL_law.2.2.2.2.2.2.2.2.2.2.2.2.2.1
theorem dL_law_551 : decode cL_law 551 = .ok (.iadd, 1) := dg40_dL_law.2.2.2.2.2.2.2.2.2.2.2.2.2.2.1
theorem dL_law_552 : decode cL_law 552 = .ok (.iaload, 1) := dg40_dL_law.2.2.2.2.2.2.2.2.2.2.2.2.2.2.2.1
theorem dL_law_553 : decode cL_law 553 = .ok (.aload_n 0, 1) := dg40_dL_law.2.2.2.2.2.2.2.2.2.2.2.2.2.2.2.2.1
theorem dL_law_554 : decode cL_law 554 = .ok (.iload 4, 2) := dg40_dL_law.2.2.2.2.2.2.2.2.2.2.2.2.2.2.2.2.2.1
theorem dL_law_556 : decode cL_law 556 = .ok (.iconst 2, 1) := dg40_dL_law.2.2.2.2.2.2.2.2.2.2.2.2.2.2.2.2.2.2.1
theorem dL_law_557 : decode cL_law 557 = .ok (.iadd, 1) := dg40_dL_law.2.2.2.2.2.2.2.2.2.2.2.2.2.2.2.2.2.2.2.1
theorem dL_law_558 : decode cL_law 558 = .ok (.iaload, 1) := dg40_dL_law.2.2.2.2.2.2.2.2.2.2.2.2.2.2.2.2.2.2.2.2.1
theorem dL_law_559 : decode cL_law 559 = .ok (.invokevirtual 152, 3) := dg40_dL_law.2.2.2.2.2.2.2.2.2.2.2.2.2.2.2.2.2.2.2.2.2.1
theorem dL_law_562 : decode cL_law 562 = .ok (.istore 6, 2) := dg40_dL_law.2.2.2.2.2.2.2.2.2.2.2.2.2.2.2.2.2.2.2.2.2.2.1
theorem dL_law_564 : decode cL_law 564 = .ok (.aload_n 2, 1) := dg40_dL_law.2.2.2.2.2.2.2.2.2.2.2.2.2.2.2.2.2.2.2.2.2.2.2.1
theorem dL_law_565 : decode cL_law 565 = .ok (.invokevirtual 128, 3) := dg40_dL_law.2.2.2.2.2.2.2.2.2.2.2.2.2.2.2.2.2.2.2.2.2.2.2.2.1
theorem dL_law_568 : decode cL_law 568 = .ok (.iload 5, 2) := dg40_dL_law.2.2.2.2.2.2.2.2.2.2.2.2.2.2.2.2.2.2.2.2.2.2.2.2.2.1
theorem dL_law_570 : decode cL_law 570 = .ok (.if_icmp .eq 5, 3) := dg40_dL_law.2.2.2.2.2.2.2.2.2.2.2.2.2.2.2.2.2.2.2.2.2.2.2.2.2.2.1
theorem dL_law_573 : decode cL_law 573 = .ok (.iconst 0, 1) := dg40_dL_law.2.2.2.2.2.2.2.2.2.2.2.2.2.2.2.2.2.2.2.2.2.2.2.2.2.2.2.1
theorem dL_law_574 : decode cL_law 574 = .ok (.ireturn, 1) := dg40_dL_law.2.2.2.2.2.2.2.2.2.2.2.2.2.2.2.2.2.2.2.2.2.2.2.2.2.2.2.2.1
theorem dL_law_575 : decode cL_law 575 = .ok (.iload 5, 2) := dg40_dL_law.2.2.2.2.2.2.2.2.2.2.2.2.2.2.2.2.2.2.2.2.2.2.2.2.2.2.2.2.2.1
theorem dg41_dL_law : Jvm.Free.DS.Facts cL_law 577 [(.ifCond .ne 15, 3), (.aload_n 3, 1), (.iconst 0, 1), (.laload, 1), (.iload 6, 2), (.i2l, 1), (.lcmp, 1), (.ifCond .eq 5, 3), (.iconst 0, 1), (.ireturn, 1), (.goto 1836, 3), (.aload_n 1, 1), (.aload_n 0, 1), (.iload 4, 2), (.iconst 1, 1), (.iadd, 1), (.iaload, 1), (.aload_n 0, 1), (.iload 4, 2), (.iconst 2, 1), (.iadd, 1), (.iaload, 1), (.aload_n 3, 1), (.invokestatic 153, 3), (.istore 5, 2), (.aload_n 2, 1), (.aload_n 0, 1), (.iload 4, 2), (.iconst 1, 1), (.iadd, 1)] := Jvm.Free.DS.facts 577 _ (by decide +kernel) (by decide +kernel)
theorem dL_law_577 : decode cL_law 577 = .ok (.ifCond .ne 15, 3) := dg41_dL_law.1
theorem dL_law_580 : decode cL_law 580 = .ok (.aload_n 3, 1) := dg41_dL_law.2.1
theorem dL_law_581 : decode cL_law 581 = .ok (.iconst 0, 1) := dg41_dL_law.2.2.1
theorem dL_law_582 : decode cL_law 582 = .ok (.laload, 1) := dg41_dL_law.2.2.2.1
theorem dL_law_583 : decode cL_law 583 = .ok (.iload 6, 2) := dg41_dL_law.2.2.2.2.1
theorem dL_law_585 : decode cL_law 585 = .ok (.i2l, 1) := dg41_dL_law.2.2.2.2.2.1
theorem dL_law_586 : decode cL_law 586 = .ok (.lcmp, 1) := dg41_dL_law.2.2.2.2.2.2.1
theorem dL_law_587 : decode cL_law 587 = .ok (.ifCond .eq 5, 3) := dg41_dL_law.2.2.2.2.2.2.2.1
theorem dL_law_590 : decode cL_law 590 = .ok (.iconst 0, 1) := dg41_dL_law.2.2.2.2.2.2.2.2.1
theorem dL_law_591 : decode cL_law 591 = .ok (.ireturn, 1) := dg41_dL_law.2.2.2.2.2.2.2.2.2.1
theorem dL_law_592 : decode cL_law 592 = .ok (.goto 1836, 3) := dg41_dL_law.2.2.2.2.2.2.2.2.2.2.1
theorem dL_law_595 : decode cL_law 595 = .ok (.aload_n 1, 1) := dg41_dL_law.2.2.2.2.2.2.2.2.2.2.2.1
theorem dL_law_596 : decode cL_law 596 = .ok (.aload_n 0, 1) := dg41_dL_law.2.2.2.2.2.2.2.2.2.2.2.2.1
theorem dL_law_597 : decode cL_law 597 = .ok (.iload 4, 2) := dg41_dL_law.2.2.2.2.2.2.2.2.2.2.2.2.2.1
theorem dL_law_599 : decode cL_law 599 = .ok (.iconst 1, 1) := dg41_dL_law.2.2.2.2.2.2.2.2.2.2.2.2.2.2.1
theorem dL_law_600 : decode cL_law 600 = .ok (.iadd, 1) := dg41_dL_law.2.2.2.2.2.2.2.2.2.2.2.2.2.2.2.1
theorem dL_law_601 : decode cL_law 601 = .ok (.iaload, 1) := dg41_dL_law.2.2.2.2.2.2.2.2.2.2.2.2.2.2.2.2.1
theorem dL_law_602 : decode cL_law 602 = .ok (.aload_n 0, 1) := dg41_dL_law.2.2.2.2.2.2.2.2.2.2.2.2.2.2.2.2.2.1
theorem dL_law_603 : decode cL_law 603 = .ok (.iload 4, 2) := dg41_dL_law.2.2.2.2.2.2.2.2.2.2.2.2.2.2.2.2.2.2.1
theorem dL_law_605 : decode cL_law 605 = .ok (.iconst 2, 1) := dg41_dL_law.2.2.2.2.2.2.2.2.2.2.2.2.2.2.2.2.2.2.2.1
theorem dL_law_606 : decode cL_law 606 = .ok (.iadd, 1) := dg41_dL_law.2.2.2.2.2.2.2.2.2.2.2.2.2.2.2.2.2.2.2.2.1
theorem dL_law_607 : decode cL_law 607 = .ok (.iaload, 1) := dg41_dL_law.2.2.2.2.2.2.2.2.2.2.2.2.2.2.2.2.2.2.2.2.2.1
theorem dL_law_608 : decode cL_law 608 = .ok (.aload_n 3, 1) := dg41_dL_law.2.2.2.2.2.2.2.2.2.2.2.2.2.2.2.2.2.2.2.2.2.2.1
theorem dL_law_609 : decode cL_law 609 = .ok (.invokestatic 153, 3) := dg41_dL_law.2.2.2.2.2.2.2.2.2.2.2.2.2.2.2.2.2.2.2.2.2.2.2.1
theorem dL_law_612 : decode cL_law 612 = .ok (.istore 5, 2) := dg41_dL_law.2.2.2.2.2.2.2.2.2.2.2.2.2.2.2.2.2.2.2.2.2.2.2.2.1
theorem dL_law_614 : decode cL_law 614 = .ok (.aload_n 2, 1) := dg41_dL_law.2.2.2.2.2.2.2.2.2.2.2.2.2.2.2.2.2.2.2.2.2.2.2.2.2.1
theorem dL_law_615 : decode cL_law 615 = .ok (.aload_n 0, 1) := dg41_dL_law.2.2.2.2.2.2.2.2.2.2.2.2.2.2.2.2.2.2.2.2.2.2.2.2.2.2.1
theorem dL_law_616 : decode cL_law 616 = .ok (.iload 4, 2) := dg41_dL_law.2.2.2.2.2.2.2.2.2.2.2.2.2.2.2.2.2.2.2.2.2.2.2.2.2.2.2.1
theorem dL_law_618 : decode cL_law 618 = .ok (.iconst 1, 1) := dg41_dL_law.2.2.2.2.2.2.2.2.2.2.2.2.2.2.2.2.2.2.2.2.2.2.2.2.2.2.2.2.1
theorem dL_law_619 : decode cL_law 619 = .ok (.iadd, 1) := dg41_dL_law.2.2.2.2.2.2.2.2.2.2.2.2.2.2.2.2.2.2.2.2.2.2.2.2.2.2.2.2.2.1
theorem dg42_dL_law : Jvm.Free.DS.Facts cL_law 620 [(.iaload, 1), (.aload_n 0, 1), (.iload 4, 2), (.iconst 2, 1), (.iadd, 1), (.iaload, 1), (.invokevirtual 155, 3), (.istore 6, 2), (.aload_n 2, 1), (.invokevirtual 128, 3), (.iload 5, 2), (.if_icmp .eq 5, 3), (.iconst 0, 1), (.ireturn, 1), (.iload 5, 2), (.ifCond .ne 15, 3), (.aload_n 3, 1), (.iconst 0, 1), (.laload, 1), (.iload 6, 2), (.i2l, 1), (.lcmp, 1), (.ifCond .eq 5, 3), (.iconst 0, 1), (.ireturn, 1), (.goto 1768, 3), (.aload_n 1, 1), (.aload_n 0, 1), (.iload 4, 2), (.iconst 1, 1)] := Jvm.Free.DS.facts 620 _ (by decide +kernel) (by decide +kernel)
theorem dL_law_620 : decode cL_law 620 = .ok (.iaload, 1) := dg42_dL_law.1
theorem dL_law_621 : decode cL_law 621 = .ok (.aload_n 0, 1) := dg42_dL_law.2.1
theorem dL_law_622 : decode cL_law 622 = .ok (.iload 4, 2) := dg42_dL_law.2.2.1
theorem dL_law_624 : decode cL_law 624 = .ok (.iconst 2, 1) := dg42_dL_law.2.2.2.1
theorem dL_law_625 : decode cL_law 625 = .ok (.iadd, 1) := dg42_dL_law.2.2.2.2.1
theorem dL_law_626 : decode cL_law 626 = .ok (.iaload, 1) := dg42_dL_law.2.2.2.2.2.1
theorem dL_law_627 : decode cL_law 627 = .ok (.invokevirtual 155, 3) := dg42_dL_law.2.2.2.2.2.2.1
theorem dL_law_630 : decode cL_law 630 = .ok (.istore 6, 2) := dg42_dL_law.2.2.2.2.2.2.2.1
theorem dL_law_632 : decode cL_law 632 = .ok (.aload_n 2, 1) := dg42_dL_law.2.2.2.2.2.2.2.2.1
theorem dL_law_633 : decode cL_law 633 = .ok (.invokevirtual 128, 3) := dg42_dL_law.2.2.2.2.2.2.2.2.2.1
theorem dL_law_636 : decode cL_law 636 = .ok (.iload 5, 2) := dg42_dL_law.2.2.2.2.2.2.2.2.2.2.1
theorem dL_law_638 : decode cL_law 638 = .ok (.if_icmp .eq 5, 3) := dg42_dL_law.2.2.2.2.2.2.2.2.2.2.2.1
theorem dL_law_641 : decode cL_law 641 = .ok (.iconst 0, 1) := dg42_dL_law.2.2.2.2.2.2.2.2.2.2.2.2.1
theorem dL_law_642 : decode cL_law 642 = .ok (.ireturn, 1) := dg42_dL_law.2.2.2.2.2.2.2.2.2.2.2.2.2.1
theorem dL_law_643 : decode cL_law 643 = .ok (.iload 5, 2) := dg42_dL_law.2.2.2.2.2.2.2.2.2.2.2.2.2.2.1
theorem dL_law_645 : decode cL_law 645 = .ok (.ifCond .ne 15, 3) := dg42_dL_law.2.2.2.2.2.2.2.2.2.2.2.2.2.2.2.1
theorem dL_law_648 : decode cL_law 648 = .ok (.aload_n 3, 1) := dg42_dL_law.2.2.2.2.2.2.2.2.2.2.2.2.2.2.2.2.1
theorem dL_law_649 : decode cL_law 649 = .ok (.iconst 0, 1) := dg42_dL_law.2.2.2.2.2.2.2.2.2.2.2.2.2.2.2.2.2.1
theorem dL_law_650 : decode cL_law 650 = .ok (.laload, 1) := dg42_dL_law.2.2.2.2.2.2.2.2.2.2.2.2.2.2.2.2.2.2.1
theorem dL_law_651 : decode cL_law 651 = .ok (.iload 6, 2) := dg42_dL_law.2.2.2.2.2.2.2.2.2.2.2.2.2.2.2.2.2.2.2.1
theorem dL_law_653 : decode cL_law 653 = .ok (.i2l, 1) := dg42_dL_law.2.2.2.2.2.2.2.2.2.2.2.2.2.2.2.2.2.2.2.2.1
theorem dL_law_654 : decode cL_law 654 = .ok (.lcmp, 1) := dg42_dL_law.2.2.2.2.2.2.2.2.2.2.2.2.2.2.2.2.2.2.2.2.2.1
theorem dL_law_655 : decode cL_law 655 = .ok (.ifCond .eq 5, 3) := dg42_dL_law.2.2.2.2.2.2.2.2.2.2.2.2.2.2.2.2.2.2.2.2.2.2.1
theorem dL_law_658 : decode cL_law 658 = .ok (.iconst 0, 1) := dg42_dL_law.2.2.2.2.2.2.2.2.2.2.2.2.2.2.2.2.2.2.2.2.2.2.2.1
theorem dL_law_659 : decode cL_law 659 = .ok (.ireturn, 1) := dg42_dL_law.2.2.2.2.2.2.2.2.2.2.2.2.2.2.2.2.2.2.2.2.2.2.2.2.1
theorem dL_law_660 : decode cL_law 660 = .ok (.goto 1768, 3) := dg42_dL_law.2.2.2.2.2.2.2.2.2.2.2.2.2.2.2.2.2.2.2.2.2.2.2.2.2.1
theorem dL_law_663 : decode cL_law 663 = .ok (.aload_n 1, 1) := dg42_dL_law.2.2.2.2.2.2.2.2.2.2.2.2.2.2.2.2.2.2.2.2.2.2.2.2.2.2.1
theorem dL_law_664 : decode cL_law 664 = .ok (.aload_n 0, 1) := dg42_dL_law.2.2.2.2.2.2.2.2.2.2.2.2.2.2.2.2.2.2.2.2.2.2.2.2.2.2.2.1
theorem dL_law_665 : decode cL_law 665 = .ok (.iload 4, 2) := dg42_dL_law.2.2.2.2.2.2.2.2.2.2.2.2.2.2.2.2.2.2.2.2.2.2.2.2.2.2.2.2.1
theorem dL_law_667 : decode cL_law 667 = .ok (.iconst 1, 1) := dg42_dL_law.2.2.2.2.2.2.2.2.2.2.2.2.2.2.2.2.2.2.2.2.2.2.2.2.2.2.2.2.2.1
theorem dg43_dL_law : Jvm.Free.DS.Facts cL_law 668 [(.iadd, 1), (.iaload, 1), (.aload_n 3, 1), (.invokestatic 156, 3), (.istore 5, 2), (.aload_n 2, 1), (.aload_n 0, 1), (.iload 4, 2), (.iconst 1, 1), (.iadd, 1), (.iaload, 1), (.invokevirtual 158, 3), (.istore 6, 2), (.aload_n 2, 1), (.invokevirtual 128, 3), (.iload 5, 2), (.if_icmp .eq 5, 3), (.iconst 0, 1), (.ireturn, 1), (.iload 5, 2), (.ifCond .ne 15, 3), (.aload_n 3, 1), (.iconst 0, 1), (.laload, 1), (.iload 6, 2), (.i2l, 1), (.lcmp, 1), (.ifCond .eq 5, 3), (.iconst 0, 1), (.ireturn, 1)] := Jvm.Free.DS.facts 668 _ (by decide +kernel) (by decide +kernel)
theorem dL_law_668 : decode cL_law 668 = .ok (.iadd, 1) := dg43_dL_law.1
theorem dL_law_669 : decode cL_law 669 = .ok (.iaload, 1) := dg43_dL_law.2.1
theorem dL_law_670 : decode cL_law 670 = .ok (.aload_n 3, 1) := dg43_dL_law.2.2.1
theorem dL_law_671 : decode cL_law 671 = .ok (.invokestatic 156, 3) := dg43_dL_law.2.2.2.1
theorem dL_law_674 : decode cL_law 674 = .ok (.istore 5, 2) := dg43_dL_law.2.2.2.2.1
theorem dL_law_676 : decode cL_law 676 = .ok (.aload_n 2, 1) := dg43_dL_law.2.2.2.2.2.1
theorem dL_law_677 : decode cL_law 677 = .ok (.aload_n 0, 1) := dg43_dL_law.2.2.2.2.2.2.1
theorem dL_law_678 : decode cL_law 678 = .ok (.iload 4, 2) := dg43_dL_law.2.2.2.2.2.2.2.1
theorem dL_law_680 : decode cL_law 680 = .ok (.iconst 1, 1) := dg43_dL_law.2.2.2.2.2.2.2.2.1
theorem dL_law_681 : decode cL_law 681 = .ok (.iadd, 1) := dg43_dL_law.2.2.2.2.2.2.2.2.2.1
theorem dL_law_682 : decode cL_law 682 = .ok (.iaload, 1) := dg43_dL_law.2.2.2.2.2.2.2.2.2.2.1
theorem dL_law_683 : decode cL_law 683 = .ok (.invokevirtual 158, 3) := dg43_dL_law.2.2.2.2.2.2.2.2.2.2.2.1
theorem dL_law_686 : decode cL_law 686 = .ok (.istore 6, 2) := dg43_dL_law.2.2.2.2.2.2.2.2.2.2.2.2.1
theorem dL_law_688 : decode cL_law 688 = .ok (.aload_n 2, 1) := dg43_dL_law.2.2.2.2.2.2.2.2.2.2.2.2.2.1
theorem dL_law_689 : decode cL_law 689 = .ok (.invokevirtual 128, 3) := dg43_dL_law.2.2.2.2.2.2.2.2.2.2.2.2.2.2.1
theorem dL_law_692 : decode cL_law 692 = .ok (.iload 5, 2) := dg43_dL_law.2.2.2.2.2.2.2.2.2.2.2.2.2.2.2.1
theorem dL_law_694 : decode cL_law 694 = .ok (.if_icmp .eq 5, 3) := dg43_dL_law.2.2.2.2.2.2.2.2.2.2.2.2.2.2.2.2.1
theorem dL_law_697 : decode cL_law 697 = .ok (.iconst 0, 1) := dg43_dL_law.2.2.2.2.2.2.2.2.2.2.2.2.2.2.2.2.2.1
theorem dL_law_698 : decode cL_law 698 = .ok (.ireturn, 1) := dg43_dL_law.2.2.2.2.2.2.2.2.2.2.2.2.2.2.2.2.2.2.1
theorem dL_law_699 : decode cL_law 699 = .ok (.iload 5, 2) := dg43_dL_law.2.2.2.2.2.2.2.2.2.2.2.2.2.2.2.2.2.2.2.1
theorem dL_law_701 : decode cL_law 701 = .ok (.ifCond .ne 15, 3) := dg43_dL_law.2.2.2.2.2.2.2.2.2.2.2.2.2.2.2.2.2.2.2.2.1
theorem dL_law_704 : decode cL_law 704 = .ok (.aload_n 3, 1) := dg43_dL_law.2.2.2.2.2.2.2.2.2.2.2.2.2.2.2.2.2.2.2.2.2.1
theorem dL_law_705 : decode cL_law 705 = .ok (.iconst 0, 1) := dg43_dL_law.2.2.2.2.2.2.2.2.2.2.2.2.2.2.2.2.2.2.2.2.2.2.1
theorem dL_law_706 : decode cL_law 706 = .ok (.laload, 1) := dg43_dL_law.2.2.2.2.2.2.2.2.2.2.2.2.2.2.2.2.2.2.2.2.2.2.2.1
theorem dL_law_707 : decode cL_law 707 = .ok (.iload 6, 2) := dg43_dL_law.2.2.2.2.2.2.2.2.2.2.2.2.2.2.2.2.2.2.2.2.2.2.2.2.1
theorem dL_law_709 : decode cL_law 709 = .ok (.i2l, 1) := dg43_dL_law.2.2.2.2.2.2.2.2.2.2.2.2.2.2.2.2.2.2.2.2.2.2.2.2.2.1
theorem dL_law_710 : decode cL_law 710 = .ok (.lcmp, 1) := dg43_dL_law.2.2.2.2.2.2.2.2.2.2.2.2.2.2.2.2.2.2.2.2.2.2.2.2.2.2.1
theorem dL_law_711 : decode cL_law 711 = .ok (.ifCond .eq 5, 3) := dg43_dL_law.2.2.2.2.2.2.2.2.2.2.2.2.2.2.2.2.2.2.2.2.2.2.2.2.2.2.2.1
theorem dL_law_714 : decode cL_law 714 = .ok (.iconst 0, 1) := dg43_dL_law.2.2.2.2.2.2.2.2.2.2.2.2.2.2.2.2.2.2.2.2.2.2.2.2.2.2.2.2.1
theorem dL_law_715 : decode cL_law 715 = .ok (.ireturn, 1) := dg43_dL_law.2.2.2.2.2.2.2.2.2.2.2.2.2.2.2.2.2.2.2.2.2.2.2.2.2.2.2.2.2.1
theorem dg44_dL_law : Jvm.Free.DS.Facts cL_law 716 [(.goto 1712, 3), (.aload_n 1, 1), (.aload_n 0, 1), (.iload 4, 2), (.iconst 1, 1), (.iadd, 1), (.iaload, 1), (.aload_n 3, 1), (.invokestatic 159, 3), (.istore 5, 2), (.aload_n 2, 1), (.aload_n 0, 1), (.iload 4, 2), (.iconst 1, 1), (.iadd, 1), (.iaload, 1), (.invokevirtual 161, 3), (.istore 6, 2), (.aload_n 2, 1), (.invokevirtual 128, 3), (.iload 5, 2), (.if_icmp .eq 5, 3), (.iconst 0, 1), (.ireturn, 1), (.iload 5, 2), (.ifCond .ne 15, 3), (.aload_n 3, 1), (.iconst 0, 1), (.laload, 1), (.iload 6, 2)] := Jvm.Free.DS.facts 716 _ (by decide +kernel) (by decide +kernel)
theorem dL_law_716 : decode cL_law 716 = .ok (.goto 1712, 3) := dg44_dL_law.1
theorem dL_law_719 : decode cL_law 719 = .ok (.aload_n 1, 1) := dg44_dL_law.2.1
theorem dL_law_720 : decode cL_law 720 = .ok (.aload_n 0, 1) := dg44_dL_law.2.2.1
theorem dL_law_721 : decode cL_law 721 = .ok (.iload 4, 2) := dg44_dL_law.2.2.2.1
theorem dL_law_723 : decode cL_law 723 = .ok (.iconst 1, 1) := dg44_dL_law.2.2.2.2.1
theorem dL_law_724 : decode cL_law 724 = .ok (.iadd, 1) := dg44_dL_law.2.2.2.2.2.1
theorem dL_law_725 : decode cL_law 725 = .ok (.iaload, 1) := dg44_dL_law.2.2.2.2.2.2.1
theorem dL_law_726 : decode cL_law 726 = .ok (.aload_n 3, 1) := dg44_dL_law.2.2.2.2.2.2.2.1
theorem dL_law_727 : decode cL_law 727 = .ok (.invokestatic 159, 3) := dg44_dL_law.2.2.2.2.2.2.2.2.1
theorem dL_law_730 : decode cL_law 730 = .ok (.istore 5, 2) := dg44_dL_law.2.2.2.2.2.2.2.2.2.1
theorem dL_law_732 : decode cL_law 732 = .ok (.aload_n 2, 1) := dg44_dL_law.2.2.2.2.2.2.2.2.2.2.1
theorem dL_law_733 : decode cL_law 733 = .ok (.aload_n 0, 1) := dg44_dL_law.2.2.2.2.2.2.2.2.2.2.2.1
theorem dL_law_734 : decode cL_law 734 = .ok (.iload 4, 2) := dg44_dL_law.2.2.2.2.2.2.2.2.2.2.2.2.1
theorem dL_law_736 : decode cL_law 736 = .ok (.iconst 1, 1) := dg44_dL_law.2.2.2.2.2.2.2.2.2.2.2.2.2.1
theorem dL_law_737 : decode cL_law 737 = .ok (.iadd, 1) := dg44_dL_law.2.2.2.2.2.2.2.2.2.2.2.2.2.2.1
theorem dL_law_738 : decode cL_law 738 = .ok (.iaload, 1) := dg44_dL_law.2.2.2.2.2.2.2.2.2.2.2.2.2.2.2.1
theorem dL_law_739 : decode cL_law 739 = .ok (.invokevirtual 161, 3) := dg44_dL_law.2.2.2.2.2.2.2.2.2.2.2.2.2.2.2.2.1
theorem dL_law_742 : decode cL_law 742 = .ok (.istore 6, 2) := dg44_dL_law.2.2.2.2.2.2.2.2.2.2.2.2.2.2.2.2.2.1
theorem dL_law_744 : decode cL_law 744 = .ok (.aload_n 2, 1) := dg44_dL_law.2.2.2.2.2.2.2.2.2.2.2.2.2.2.2.2.2.2.1
theorem dL_law_745 : decode cL_law 745 = .ok (.invokevirtual 128, 3) := dg44_dL_law.2.2.2.2.2.2.2.2.2.2.2.2.2.2.2.2.2.2.2.1
theorem dL_law_748 : decode cL_law 748 = .ok (.iload 5, 2) := dg44_dL_law.2.2.2.2.2.2.2.2.2.2.2.2.2.2.2.2.2.2.2.2.1
theorem dL_law_750 : decode cL_law 750 = .ok (.if_icmp .eq 5, 3) := dg44_dL_law.2.2.2.2.2.2.2.2.2.2.2.2.2.2.2.2.2.2.2.2.2.1
theorem dL_law_753 : decode cL_law 753 = .ok (.iconst 0, 1) := dg44_dL_law.2.2.2.2.2.2.2.2.2.2.2.2.2.2.2.2.2.2.2.2.2.2.1
theorem dL_law_754 : decode cL_law 754 = .ok (.ireturn, 1) := dg44_dL_law.2.2.2.2.2.2.2.2.2.2.2.2.2.2.2.2.2.2.2.2.2.2.2.1
theorem dL_law_755 : decode cL_law 755 = .ok (.iload 5, 2) := dg44_dL_law.2.2.2.2.2.2.2.2.2.2.2.2.2.2.2.2.2.2.2.2.2.2.2.2.1
theorem dL_law_757 : decode cL_law 757 = .ok (.ifCond .ne 15, 3) := dg44_dL_law.2.2.2.2.2.2.2.2.2.2.2.2.2.2.2.2.2.2.2.2.2.2.2.2.2.1
theorem dL_law_760 : decode cL_law 760 = .ok (.aload_n 3, 1) := dg44_dL_law.2.2.2.2.2.2.2.2.2.2.2.2.2.2.2.2.2.2.2.2.2.2.2.2.2.2.1
theorem dL_law_761 : decode cL_law 761 = .ok (.iconst 0, 1) := dg44_dL_law.2.2.2.2.2.2.2.2.2.2.2.2.2.2.2.2.2.2.2.2.2.2.2.2.2.2.2.1
theorem dL_law_762 : decode cL_law 762 = .ok (.laload, 1) := dg44_dL_law.2.2.2.2.2.2.2.2.2.2.2.2.2.2.2.2.2.2.2.2.2.2.2.2.2.2.2.2.1
theorem dL_law_763 : decode cL_law 763 = .ok (.iload 6, 2) := dg44_dL_law.2.2.2.2.2.2.2.2.2.2.2.2.2.2.2.2.2.2.2.2.2.2.2.2.2.2.2.2.2.1
theorem dg45_dL_law : Jvm.Free.DS.Facts cL_law 765 [(.i2l, 1), (.lcmp, 1), (.ifCond .eq 5, 3), (.iconst 0, 1), (.ireturn, 1), (.goto 1656, 3), (.aload_n 1, 1), (.aload_n 0, 1), (.iload 4, 2), (.iconst 1, 1), (.iadd, 1), (.iaload, 1), (.aload_n 0, 1), (.iload 4, 2), (.iconst 2, 1), (.iadd, 1), (.iaload, 1), (.aload_n 3, 1), (.invokestatic 162, 3), (.istore 5, 2), (.aload_n 2, 1), (.aload_n 0, 1), (.iload 4, 2), (.iconst 1, 1), (.iadd, 1), (.iaload, 1), (.aload_n 0, 1), (.iload 4, 2), (.iconst 2, 1), (.iadd, 1)] := Jvm.Free.DS.facts 765 _ (by decide +kernel) (by decide +kernel)
theorem dL_law_765 : decode cL_law 765 = .ok (.i2l, 1) := dg45_dL_law.1
theorem dL_law_766 : decode cL_law 766 = .ok (.lcmp, 1) := dg45_dL_law.2.1
theorem dL_law_767 : decode cL_law 767 = .ok (.ifCond .eq 5, 3) := dg45_dL_law.2.2.1
theorem dL_law_770 : decode cL_law 770 = .ok (.iconst 0, 1) := dg45_dL_law.2.2.2.1
theorem dL_law_771 : decode cL_law 771 = .ok (.ireturn, 1) := dg45_dL_law.2.2.2.2.1
theorem dL_law_772 : decode cL_law 772 = .ok (.goto 1656, 3) := dg45_dL_law.2.2.2.2.2.1
theorem dL_law_775 : decode cL_law 775 = .ok (.aload_n 1, 1) := dg45_dL_law.2.2.2.2.2.2.1
theorem dL_law_776 : decode cL_law 776 = .ok (.aload_n 0, 1) := dg45_dL_law.2.2.2.2.2.2.2.1
theorem dL_law_777 : decode cL_law 777 = .ok (.iload 4, 2) := dg45_dL_law.2.2.2.2.2.2.2.2.1
theorem dL_law_779 : decode cL_law 779 = .ok (.iconst 1, 1) := dg45_dL_law.2.2.2.2.2.2.2.2.2.1
theorem dL_law_780 : decode cL_law 780 = .ok (.iadd, 1) := dg45_dL_law.2.2.2.2.2.2.2.2.2.2.1
theorem dL_law_781 : decode cL_law 781 = .ok (.iaload, 1) := dg45_dL_law.2.2.2.2.2.2.2.2.2.2.2.1
theorem dL_law_782 : decode cL_law 782 = .ok (.aload_n 0, 1) := dg45_dL_law.2.2.2.2.2.2.2.2.2.2.2.2.1
theorem dL_law_783 : decode cL_law 783 = .ok (.iload 4, 2) := dg45_dL_law.2.2.2.2.2.2.2.2.2.2.2.2.2.1
theorem dL_law_785 : decode cL_law 785 = .ok (.iconst 2, 1) := dg45_dL_law.2.2.2.2.2.2.2.2.2.2.2.2.2.2.1
theorem dL_law_786 : decode cL_law 786 = .ok (.iadd, 1) := dg45_dL_law.2.2.2.2.2.2.2.2.2.2.2.2.2.2.2.1
theorem dL_law_787 : decode cL_law 787 = .ok (.iaload, 1) := dg45_dL_law.2.2.2.2.2.2.2.2.2.2.2.2.2.2.2.2.1
theorem dL_law_788 : decode cL_law 788 = .ok (.aload_n 3, 1) := dg45_dL_law.2.2.2.2.2.2.2.2.2.2.2.2.2.2.2.2.2.1
theorem dL_law_789 : decode cL_law 789 = .ok (.invokestatic 162, 3) := dg45_dL_law.2.2.2.2.2.2.2.2.2.2.2.2.2.2.2.2.2.2.1
theorem dL_law_792 : decode cL_law 792 = .ok (.istore 5, 2) := dg45_dL_law.2.2.2.2.2.2.2.2.2.2.2.2.2.2.2.2.2.2.2.1
theorem dL_law_794 : decode cL_law 794 = .ok (.aload_n 2, 1) := dg45_dL_law.2.2.2.2.2.2.2.2.2.2.2.2.2.2.2.2.2.2.2.2.1
theorem dL_law_795 : decode cL_law 795 = .ok (.aload_n 0, 1) := dg45_dL_law.2.2.2.2.2.2.2.2.2.2.2.2.2.2.2.2.2.2.2.2.2.1
theorem dL_law_796 : decode cL_law 796 = .ok (.iload 4, 2) := dg45_dL_law.2.2.2.2.2.2.2.2.2.2.2.2.2.2.2.2.2.2.2.2.2.2.1
theorem dL_law_798 : decode cL_law 798 = .ok (.iconst 1, 1) := dg45_dL_law.2.2.2.2.2.2.2.2.2.2.2.2.2.2.2.2.2.2.2.2.2.2.2.1
theorem dL_law_799 : decode cL_law 799 = .ok (.iadd, 1) := dg45_dL_law.2.2.2.2.2.2.2.2.2.2.2.2.2.2.2.2.2.2.2.2.2.2.2.2.1
theorem dL_law_800 : decode cL_law 800 = .ok (.iaload, 1) := dg45_dL_law.2.2.2.2.2.2.2.2.2.2.2.2.2.2.2.2.2.2.2.2.2.2.2.2.2.1
theorem dL_law_801 : decode cL_law 801 = .ok (.aload_n 0, 1) := dg45_dL_law.2.2.2.2.2.2.2.2.2.2.2.2.2.2.2.2.2.2.2.2.2.2.2.2.2.2.1
theorem dL_law_802 : decode cL_law 802 = .ok (.iload 4, 2) := dg45_dL_law.2.2.2.2.2.2.2.2.2.2.2.2.2.2.2.2.2.2.2.2.2.2.2.2.2.2.2.1
theorem dL_law_804 : decode cL_law 804 = .ok (.iconst 2, 1) := dg45_dL_law.2.2.2.2.2.2.2.2.2.2.2.2.2.2.2.2.2.2.2.2.2.2.2.2.2.2.2.2.1
theorem dL_law_805 : decode cL_law 805 = .ok (.iadd, 1) := dg45_dL_law.2.2.2.2.2.2.2.2.2.2.2.2.2.2.2.2.2.2.2.2.2.2.2.2.2.2.2.2.2.1
theorem dg46_dL_law : Jvm.Free.DS.Facts cL_law 806 [(.iaload, 1), (.invokevirtual 164, 3), (.istore 6, 2), (.aload_n 2, 1), (.invokevirtual 128, 3), (.iload 5, 2), (.if_icmp .eq 5, 3), (.iconst 0, 1), (.ireturn, 1), (.iload 5, 2), (.ifCond .ne 15, 3), (.aload_n 3, 1), (.iconst 0, 1), (.laload, 1), (.iload 6, 2), (.i2l, 1), (.lcmp, 1), (.ifCond .eq 5, 3), (.iconst 0, 1), (.ireturn, 1), (.goto 1588, 3), (.aload_n 1, 1), (.aload_n 0, 1), (.iload 4, 2), (.iconst 1, 1), (.iadd, 1), (.iaload, 1), (.aload_n 0, 1), (.iload 4, 2), (.iconst 2, 1)] := Jvm.Free.DS.facts 806 _ (by decide +kernel) (by decide +kernel)
theorem dL_law_806 : decode cL_law 806 = .ok (.iaload, 1) := dg46_dL_law.1
theorem dL_law_807 : decode cL_law 807 = .ok (.invokevirtual 164, 3) := dg46_dL_law.2.1
theorem dL_law_810 : decode cL_law 810 = .ok (.istore 6, 2) := dg46_dL_law.2.2.1
theorem dL_law_812 : decode cL_law 812 = .ok (.aload_n 2, 1) := dg46_dL_law.2.2.2.1
theorem dL_law_813 : decode cL_law 813 = .ok (.invokevirtual 128, 3) := dg46_dL_law.2.2.2.2.1
theorem dL_law_816 : decode cL_law 816 = .ok (.iload 5, 2) := dg46_dL_law.2.2.2.2.2.1
theorem dL_law_818 : decode cL_law 818 = .ok (.if_icmp .eq 5, 3) := dg46_dL_law.2.2.2.2.2.2.1
theorem dL_law_821 : decode cL_law 821 = .ok (.iconst 0, 1) := dg46_dL_law.2.2.2.2.2.2.2.1
theorem dL_law_822 : decode cL_law 822 = .ok (.ireturn, 1) := dg46_dL_law.2.2.2.2.2.2.2.2.1
theorem dL_law_823 : decode cL_law 823 = .ok (.iload 5, 2) := dg46_dL_law.2.2.2.2.2.2.2.2.2.1
theorem dL_law_825 : decode cL_law 825 = .ok (.ifCond .ne 15, 3) := dg46_dL_law.2.2.2.2.2.2.2.2.2.2.1
theorem dL_law_828 : decode cL_law 828 = .ok (.aload_n 3, 1) := dg46_dL_law.2.2.2.2.2.2.2.2.2.2.2.1
theorem dL_law_829 : decode cL_law 829 = .ok (.iconst 0, 1) := dg46_dL_law.2.2.2.2.2.2.2.2.2.2.2.2.1
theorem dL_law_830 : decode cL_law 830 = .ok (.laload, 1) := dg46_dL_law.2.2.2.2.2.2.2.2.2.2.2.2.2.1
theorem dL_law_831 : decode cL_law 831 = .ok (.iload 6, 2) := dg46_dL_law.2.2.2.2.2.2.2.2.2.2.2.2.2.2.1
theorem dL_law_833 : decode cL_law 833 = .ok (.i2l, 1) := dg46_dL_law.2.2.2.2.2.2.2.2.2.2.2.2.2.2.2.1
theorem dL_law_834 : decode cL_law 834 = .ok (.lcmp, 1) := dg46_dL_law.2.2.2.2.2.2.2.2.2.2.2.2.2.2.2.2.1
theorem dL_law_835 : decode cL_law 835 = .ok (.ifCond .eq 5, 3) := dg46_dL_law.2.2.2.2.2.2.2.2.2.2.2.2.2.2.2.2.2.1
theorem dL_law_838 : decode cL_law 838 = .ok (.iconst 0, 1) := dg46_dL_law.2.2.2.2.2.2.2.2.2.2.2.2.2.2.2.2.2.2.1
theorem dL_law_839 : decode cL_law 839 = .ok (.ireturn, 1) := dg46_dL_law.2.2.2.2.2.2.2.2.2.2.2.2.2.2.2.2.2.2.2.1
theorem dL_law_840 : decode cL_law 840 = .ok (.goto 1588, 3) := dg46_dL_law.2.2.2.2.2.2.2.2.2.2.2.2.2.2.2.2.2.2.2.2.1
theorem dL_law_843 : decode cL_law 843 = .ok (.aload_n 1, 1) := dg46_dL_law.2.2.2.2.2.2.2.2.2.2.2.2.2.2.2.2.2.2.2.2.2.1
theorem dL_law_844 : decode cL_law 844 = .ok (.aload_n 0, 1) := dg46_dL_law.2.2.2.2.2.2.2.2.2.2.2.2.2.2.2.2.2.2.2.2.2.2.1
theorem dL_law_845 : decode cL_law 845 = .ok (.iload 4, 2) := dg46_dL_law.2.2.2.2.2.2.2.2.2.2.2.2.2.2.2.2.2.2.2.2.2.2.2.1
theorem dL_law_847 : decode cL_law 847 = .ok (.iconst 1, 1) := dg46_dL_law.2.2.2.2.2.2.2.2.2.2.2.2.2.2.2.2.2.2.2.2.2.2.2.2.1
theorem dL_law_848 : decode cL_law 848 = .ok (.iadd, 1) := dg46_dL_law.2.2.2.2.2.2.2.2.2.2.2.2.2.2.2.2.2.2.2.2.2.2.2.2.2.1
theorem dL_law_849 : decode cL_law 849 = .ok (.iaload, 1) := dg46_dL_law.2.2.2.2.2.2.2.2.2.2.2.2.2.2.2.2.2.2.2.2.2.2.2.2.2.2.1
theorem dL_law_850 : decode cL_law 850 = .ok (.aload_n 0, 1) := dg46_dL_law.2.2.2.2.2.2.2.2.2.2.2.2.2.2.2.2.2.2.2.2.2.2.2.2.2.2.2.1
theorem dL_law_851 : decode cL_law 851 = .ok (.iload 4, 2) := dg46_dL_law.2.2.2.2.2.2.2.2.2.2.2.2.2.2.2.2.2.2.2.2.2.2.2.2.2.2.2.2.1
theorem dL_law_853 : decode cL_law 853 = .ok (.iconst 2, 1) := dg46_dL_law.2.2.2.2.2.2.2.2.2.2.2.2.2.2.2.2.2.2.2.2.2.2.2.2.2.2.2.2.2.1
theorem dg47_dL_law : Jvm.Free.DS.Facts cL_law 854 [(.iadd, 1), (.iaload, 1), (.aload_n 3, 1), (.invokestatic 165, 3), (.istore 5, 2), (.aload_n 2, 1), (.aload_n 0, 1), (.iload 4, 2), (.iconst 1, 1), (.iadd, 1), (.iaload, 1), (.aload_n 0, 1), (.iload 4, 2), (.iconst 2, 1), (.iadd, 1), (.iaload, 1), (.invokevirtual 167, 3), (.istore 6, 2), (.aload_n 2, 1), (.invokevirtual 128, 3), (.iload 5, 2), (.if_icmp .eq 5, 3), (.iconst 0, 1), (.ireturn, 1), (.iload 5, 2), (.ifCond .ne 15, 3), (.aload_n 3, 1), (.iconst 0, 1), (.laload, 1), (.iload 6, 2)] := Jvm.Free.DS.facts 854 _ (by decide +kernel) (by decide +kernel)
theorem dL_law_854 : decode cL_law 854 = .ok (.iadd, 1) := dg47_dL_law.1
theorem dL_law_855 : decode cL_law 855 = .ok (.iaload, 1) := dg47_dL_law.2.1
theorem dL_law_856 : decode cL_law 856 = .ok (.aload_n 3, 1) := dg47_dL_law.2.2.1
theorem dL_law_857 : decode cL_law 857 = .ok (.invokestatic 165, 3) := dg47_dL_law.2.2.2.1
theorem dL_law_860 : decode cL_law 860 = .ok (.istore 5, 2) := dg47_dL_law.2.2.2.2.1
theorem dL_law_862 : decode cL_law 862 = .ok (.aload_n 2, 1) := dg47_dL_law.2.2.2.2.2.1
theorem dL_law_863 : decode cL_law 863 = .ok (.aload_n 0, 1) := dg47_dL_law.2.2.2.2.2.2.1
theorem dL_law_864 : decode cL_law 864 = .ok (.iload 4, 2) := dg47_dL_law.2.2.2.2.2.2.2.1
theorem dL_law_866 : decode cL_law 866 = .ok (.iconst 1, 1) := dg47_dL_law.2.2.2.2.2.2.2.2.1
theorem dL_law_867 : decode cL_law 867 = .ok (.iadd, 1) := dg47_dL_law.2.2.2.2.2.2.2.2.2.1
theorem dL_law_868 : decode cL_law 868 = .ok (.iaload, 1) := dg47_dL_law.2.2.2.2.2.2.2.2.2.2.1
theorem dL_law_869 : decode cL_law 869 = .ok (.aload_n 0, 1) := dg47_dL_law.2.2.2.2.2.2.2.2.2.2.2.1
theorem dL_law_870 : decode cL_law 870 = .ok (.iload 4, 2) := dg47_dL_law.2.2.2.2.2.2.2.2.2.2.2.2.1
theorem dL_law_872 : decode cL_law 872 = .ok (.iconst 2, 1) := dg47_dL_law.2.2.2.2.2.2.2.2.2.2.2.2.2.1
theorem dL_law_873 : decode cL_law 873 = .ok (.iadd, 1) := dg47_dL_law.2.2.2.2.2.2.2.2.2.2.2.2.2.2.1
theorem dL_law_874 : decode cL_law 874 = .ok (.iaload, 1) := dg47_dL_law.2.2.2.2.2.2.2.2.2.2.2.2.2.2.2.1
theorem dL_law_875 : decode cL_law 875 = .ok (.invokevirtual 167, 3) := dg47_dL_law.2.2.2.2.2.2.2.2.2.2.2.2.2.2.2.2.1
theorem dL_law_878 : decode cL_law 878 = .ok (.istore 6, 2) := dg47_dL_law.2.2.2.2.2.2.2.2.2.2.2.2.2.2.2.2.2.1
theorem dL_law_880 : decode cL_law 880 = .ok (.aload_n 2, 1) := dg47_dL_law.2.2.2.2.2.2.2.2.2.2.2.2.2.2.2.2.2.2.1
theorem dL_law_881 : decode cL_law 881 = .ok (.invokevirtual 128, 3) := dg47_dL_law.2.2.2.2.2.2.2.2.2.2.2.2.2.2.2.2.2.2.2.1
theorem dL_law_884 : decode cL_law 884 = .ok (.iload 5, 2) := dg47_dL_law.2.2.2.2.2.2.2.2.2.2.2.2.2.2.2.2.2.2.2.2.1
theorem dL_law_886 : decode cL_law 886 = .ok (.if_icmp .eq 5, 3) := dg47_dL_law.2.2.2.2.2.2.2.2.2.2.2.2.2.2.2.2.2.2.2.2.2.1
theorem dL_law_889 : decode cL_law 889 = .ok (.iconst 0, 1) := dg47_dL_law.2.2.2.2.2.2.2.2.2.2.2.2.2.2.2.2.2.2.2.2.2.2.1
theorem dL_law_890 : decode cL_law 890 = .ok (.ireturn, 1) := dg47_dL_law.2.2.2.2.2.2.2.2.2.2.2.2.2.2.2.2.2.2.2.2.2.2.2.1
theorem dL_law_891 : decode cL_law 891 = .ok (.iload 5, 2) := dg47_dL_law.2.2.2.2.2.2.2.2.2.2.2.2.2.2.2.2.2.2.2.2.2.2.2.2.1
theorem dL_law_893 : decode cL_law 893 = .ok (.ifCond .ne 15, 3) := dg47_dL_law.2.2.2.2.2.2.2.2.2.2.2.2.2.2.2.2.2.2.2.2.2.2.2.2.2.1
theorem dL_law_896 : decode cL_law 896 = .ok (.aload_n 3, 1) := dg47_dL_law.2.2.2.2.2.2.2.2.2.2.2.2.2.2.2.2.2.2.2.2.2.2.2.2.2.2.1
theorem dL_law_897 : decode cL_law 897 = .ok (.iconst 0, 1) := dg47_dL_law.2.2.2.2.2.2.2.2.2.2.2.2.2.2.2.2.2.2.2.2.2.2.2.2.2.2.2.1
theorem dL_law_898 : decode cL_law 898 = .ok (.laload, 1) := dg47_dL_law.2.2.2.2.2.2.2.2.2.2.2.2.2.2.2.2.2.2.2.2.2.2.2.2.2.2.2.2.1
theorem dL_law_899 : decode cL_law 899 = .ok (.iload 6, 2) := dg47_dL_law.2.2.2.2.2.2.2.2.2.2.2.2.2.2.2.2.2.2.2.2.2.2.2.2.2.2.2.2.2.1
theorem dg48_dL_law : Jvm.Free.DS.Facts cL_law 901 [(.i2l, 1), (.lcmp, 1), (.ifCond .eq 5, 3), (.iconst 0, 1), (.ireturn, 1), (.goto 1520, 3), (.aload_n 1, 1), (.aload_n 0, 1), (.iload 4, 2), (.iconst 1, 1), (.iadd, 1), (.iaload, 1), (.aload_n 3, 1), (.invokestatic 168, 3), (.istore 5, 2), (.aload_n 2, 1), (.aload_n 0, 1), (.iload 4, 2), (.iconst 1, 1), (.iadd, 1), (.iaload, 1), (.invokevirtual 170, 3), (.istore 6, 2), (.aload_n 2, 1), (.invokevirtual 128, 3), (.iload 5, 2), (.if_icmp .eq 5, 3), (.iconst 0, 1), (.ireturn, 1), (.iload 5, 2)] := Jvm.Free.DS.facts 901 _ (by decide +kernel) (by decide +kernel)
theorem dL_law_901 : decode cL_law 901 = .ok (.i2l, 1) := dg48_dL_law.1
theorem dL_law_902 : decode cL_law 902 = .ok (.lcmp, 1) := dg48_dL_law.2.1
theorem dL_law_903 : decode cL_law 903 = .ok (.ifCond .eq 5, 3) := dg48_dL_law.2.2.1
theorem dL_law_906 : decode cL_law 906 = .ok (.iconst 0, 1) := dg48_dL_law.2.2.2.1
theorem dL_law_907 : decode cL_law 907 = .ok (.ireturn, 1) := dg48_dL_law.2.2.2.2.1
theorem dL_law_908 : decode cL_law 908 = .ok (.goto 1520, 3) := dg48_dL_law.2.2.2.2.2.1
theorem dL_law_911 : decode cL_law 911 = .ok (.aload_n 1, 1) := dg48_dL_law.2.2.2.2.2.2.1
theorem dL_law_912 : decode cL_law 912 = .ok (.aload_n 0, 1) := dg48_dL_law.2.2.2.2.2.2.2.1
theorem dL_law_913 : decode cL_law 913 = .ok (.iload 4, 2) := dg48_dL_law.2.2.2.2.2.2.2.2.1
theorem dL_law_915 : decode cL_law 915 = .ok (.iconst 1, 1) := dg48_dL_law.2.2.2.2.2.2.2.2.2.1
theorem dL_law_916 : decode cL_law 916 = .ok (.iadd, 1) := dg48_dL_law.2.2.2.2.2.2.2.2.2.2.1
theorem dL_law_917 : decode cL_law 917 = .ok (.iaload, 1) := dg48_dL_law.2.2.2.2.2.2.2.2.2.2.2.1
theorem dL_law_918 : decode cL_law 918 = .ok (.aload_n 3, 1) := dg48_dL_law.2.2.2.2.2.2.2.2.2.2.2.2.1
theorem dL_law_919 : decode cL_law 919 = .ok (.invokestatic 168, 3) := dg48_dL_law.2.2.2.2.2.2.2.2.2.2.2.2.2.1
theorem dL_law_922 : decode cL_law 922 = .ok (.istore 5, 2) := dg48_dL_law.2.2.2.2.2.2.2.2.2.2.2.2.2.2.1
theorem dL_law_924 : decode cL_law 924 = .ok (.aload_n 2, 1) := dg48_dL_law.2.2.2.2.2.2.2.2.2.2.2.2.2.2.2.1
theorem dL_law_925 : decode cL_law 925 = .ok (.aload_n 0, 1) := dg48_dL_law.2.2.2.2.2.2.2.2.2.2.2.2.2.2.2.2.1
theorem dL_law_926 : decode cL_law 926 = .ok (.iload 4, 2) := dg48_dL_law.2.2.2.2.2.2.2.2.2.2.2.2.2.2.2.2.2.1
theorem dL_law_928 : decode cL_law 928 = .ok (.iconst 1, 1) := dg48_dL_law.2.2.2.2.2.2.2.2.2.2.2.2.2.2.2.2.2.2.1
theorem dL_law_929 : decode cL_law 929 = .ok (.iadd, 1) := dg48_dL_law.2.2.2.2.2.2.2.2.2.2.2.2.2.2.2.2.2.2.2.1
theorem dL_law_930 : decode cL_law 930 = .ok (.iaload, 1) := dg48_dL_law.2.2.2.2.2.2.2.2.2.2.2.2.2.2.2.2.2.2.2.2.1
theorem dL_law_931 : decode cL_law 931 = .ok (.invokevirtual 170, 3) := dg48_dL_law.2.2.2.2.2.2.2.2.2.2.2.2.2.2.2.2.2.2.2.2.2.1
theorem dL_law_934 : decode cL_law 934 = .ok (.istore 6, 2) := dg48_dL_law.2.2.2.2.2.2.2.2.2.2.2.2.2.2.2.2.2.2.2.2.2.2.1
theorem dL_law_936 : decode cL_law 936 = .ok (.aload_n 2, 1) := dg48_dL_law.2.2.2.2.2.2.2.2.2.2.2.2.2.2.2.2.2.2.2.2.2.2.2.1
theorem dL_law_937 : decode cL_law 937 = .ok (.invokevirtual 128, 3) := dg48_dL_law.2.2.2.2.2.2.2.2.2.2.2.2.2.2.2.2.2.2.2.2.2.2.2.2.1
theorem dL_law_940 : decode cL_law 940 = .ok (.iload 5, 2) := dg48_dL_law.2.2.2.2.2.2.2.2.2.2.2.2.2.2.2.2.2.2.2.2.2.2.2.2.2.1
theorem dL_law_942 : decode cL_law 942 = .ok (.if_icmp .eq 5, 3) := dg48_dL_law.2.2.2.2.2.2.2.2.2.2.2.2.2.2.2.2.2.2.2.2.2.2.2.2.2.2.1
theorem dL_law_945 : decode cL_law 945 = .ok (.iconst 0, 1) := dg48_dL_law.2.2.2.2.2.2.2.2.2.2.2.2.2.2.2.2.2.2.2.2.2.2.2.2.2.2.2.1
theorem dL_law_946 : decode cL_law 946 = .ok (.ireturn, 1) := dg48_dL_law.2.2.2.2.2.2.2.2.2.2.2.2.2.2.2.2.2.2.2.2.2.2.2.2.2.2.2.2.1
theorem dL_law_947 : decode cL_law 947 = .ok (.iload 5, 2) := dg48_dL_law.2.2.2.2.2.2.2.2.2.2.2.2.2.2.2.2.2.2.2.2.2.2.2.2.2.2.2.2.2.1
theorem dg49_dL_law : Jvm.Free.DS.Facts cL_law 949 [(.ifCond .ne 15, 3), (.aload_n 3, 1), (.iconst 0, 1), (.laload, 1), (.iload 6, 2), (.i2l, 1), (.lcmp, 1), (.ifCond .eq 5, 3), (.iconst 0, 1), (.ireturn, 1), (.goto 1464, 3), (.aload_n 1, 1), (.aload_n 0, 1), (.iload 4, 2), (.iconst 1, 1), (.iadd, 1), (.iaload, 1), (.aload_n 0, 1), (.iload 4, 2), (.iconst 2, 1), (.iadd, 1), (.iaload, 1), (.aload_n 3, 1), (.invokestatic 171, 3), (.istore 5, 2), (.aload_n 2, 1), (.aload_n 0, 1), (.iload 4, 2), (.iconst 1, 1), (.iadd, 1)] := Jvm.Free.DS.facts 949 _ (by decide +kernel) (by decide +kernel)
theorem dL_law_949 : decode cL_law 949 = .ok (.ifCond .ne 15, 3) := dg49_dL_law.1
theorem dL_law_952 : decode cL_law 952 = .ok (.aload_n 3, 1) := dg49_dL_law.2.1
theorem dL_law_953 : decode cL_law 953 = .ok (.iconst 0, 1) := dg49_dL_law.2.2.1
theorem dL_law_954 : decode cL_law 954 = .ok (.laload, 1) := dg49_dL_law.2.2.2.1
theorem dL_law_955 : decode cL_law 955 = .ok (.iload 6, 2) := dg49_dL_law.2.2.2.2.1
theorem dL_law_957 : decode cL_law 957 = .ok (.i2l, 1) := dg49_dL_law.2.2.2.2.2.1
theorem dL_law_958 : decode cL_law 958 = .ok (.lcmp, 1) := dg49_dL_law.2.2.2.2.2.2.1
theorem dL_law_959 : decode cL_law 959 = .ok (.ifCond .eq 5, 3) := dg49_dL_law.2.2.2.2.2.2.2.1
theorem dL_law_962 : decode cL_law 962 = .ok (.iconst 0, 1) := dg49_dL_law.2.2.2.2.2.2.2.2.1
theorem dL_law_963 : decode cL_law 963 = .ok (.ireturn, 1) := dg49_dL_law.2.2.2.2.2.2.2.2.2.1
theorem dL_law_964 : decode cL_law 964 = .ok (.goto 1464, 3) := dg49_dL_law.2.2.2.2.2.2.2.2.2.2.1
theorem dL_law_967 : decode cL_law 967 = .ok (.aload_n 1, 1) := dg49_dL_law.2.2.2.2.2.2.2.2.2.2.2.1
theorem dL_law_968 : decode cL_law 968 = .ok (.aload_n 0, 1) := dg49_dL_law.2.2.2.2.2.2.2.2.2.2.2.2.1
theorem dL_law_969 : decode cL_law 969 = .ok (.iload 4, 2) := dg49_dL_law.2.2.2.2.2.2.2.2.2.2.2.2.2.1
theorem dL_law_971 : decode cL_law 971 = .ok (.iconst 1, 1) := dg49_dL_law.2.2.2.2.2.2.2.2.2.2.2.2.2.2.1
theorem dL_law_972 : decode cL_law 972 = .ok (.iadd, 1) := dg49_dL_law.2.2.2.2.2.2.2.2.2.2.2.2.2.2.2.1
theorem dL_law_973 : decode cL_law 973 = .ok (.iaload, 1) := dg49_dL_law.2.2.2.2.2.2.2.2.2.2.2.2.2.2.2.2.1
theorem dL_law_974 : decode cL_law 974 = .ok (.aload_n 0, 1) := dg49_dL_law.2.2.2.2.2.2.2.2.2.2.2.2.2.2.2.2.2.1
theorem dL_law_975 : decode cL_law 975 = .ok (.iload 4, 2) := dg49_dL_law.2.2.2.2.2.2.2.2.2.2.2.2.2.2.2.2.2.2.1
theorem dL_law_977 : decode cL_law 977 = .ok (.iconst 2, 1) := dg49_dL_law.2.2.2.2.2.2.2.2.2.2.2.2.2.2.2.2.2.2.2.1
theorem dL_law_978 : decode cL_law 978 = .ok (.iadd, 1) := dg49_dL_law.2.2.2.2.2.2.2.2.2.2.2.2.2.2.2.2.2.2.2.2.1
theorem dL_law_979 : decode cL_law 979 = .ok (.iaload, 1) := dg49_dL_law.2.2.2.2.2.2.2.2.2.2.2.2.2.2.2.2.2.2.2.2.2.1
theorem dL_law_980 : decode cL_law 980 = .ok (.aload_n 3, 1) := dg49_dL_law.2.2.2.2.2.2.2.2.2.2.2.2.2.2.2.2.2.2.2.2.2.2.1
theorem dL_law_981 : decode cL_law 981 = .ok (.invokestatic 171, 3) := dg49_dL_law.2.2.2.2.2.2.2.2.2.2.2.2.2.2.2.2.2.2.2.2.2.2.2.1
theorem dL_law_984 : decode cL_law 984 = .ok (.istore 5, 2) := dg49_dL_law.2.2.2.2.2.2.2.2.2.2.2.2.2.2.2.2.2.2.2.2.2.2.2.2.1
theorem dL_law_986 : decode cL_law 986 = .ok (.aload_n 2, 1) := dg49_dL_law.2.2.2.2.2.2.2.2.2.2.2.2.2.2.2.2.2.2.2.2.2.2.2.2.2.1
theorem dL_law_987 : decode cL_law 987 = .ok (.aload_n 0, 1) := dg49_dL_law.2.2.2.2.2.2.2.2.2.2.2.2.2.2.2.2.2.2.2.2.2.2.2.2.2.2.1
theorem dL_law_988 : decode cL_law 988 = .ok (.iload 4, 2) := dg49_dL_law.2.2.2.2.2.2.2.2.2.2.2.2.2.2.2.2.2.2.2.2.2.2.2.2.2.2.2.1
theorem dL_law_990 : decode cL_law 990 = .ok (.iconst 1, 1) := dg49_dL_law.2.2.2.2.2.2.2.2.2.2.2.2.2.2.2.2.2.2.2.2.2.2.2.2.2.2.2.2.1
theorem dL_law_991 : decode cL_law 991 = .ok (.iadd, 1) := dg49_dL_law.2.2.2.2.2.2.2.2.2.2.2.2.2.2.2.2.2.2.2.2.2.2.2.2.2.2.2.2.2.1
theorem dg50_dL_law : Jvm.Free.DS.Facts cL_law 992 [(.iaload, 1), (.aload_n 0, 1), (.iload 4, 2), (.iconst 2, 1), (.iadd, 1), (.iaload, 1), (.invokevirtual 173, 3), (.istore 6, 2), (.aload_n 2, 1), (.invokevirtual 128, 3), (.iload 5, 2), (.if_icmp .eq 5, 3), (.iconst 0, 1), (.ireturn, 1), (.iload 5, 2), (.ifCond .ne 15, 3), (.aload_n 3, 1), (.iconst 0, 1), (.laload, 1), (.iload 6, 2), (.i2l, 1), (.lcmp, 1), (.ifCond .eq 5, 3), (.iconst 0, 1), (.ireturn, 1), (.goto 1396, 3), (.aload_n 1, 1), (.aload_n 0, 1), (.iload 4, 2), (.iconst 1, 1)] := Jvm.Free.DS.facts 992 _ (by decide +kernel) (by decide +kernel)
theorem dL_law_992 : decode cL_law 992 = .ok (.iaload, 1) := dg50_dL_law.1
theorem dL_law_993 : decode cL_law 993 = .ok (.aload_n 0, 1) := dg50_dL_law.2.1
theorem dL_law_994 : decode cL_law 994 = .ok (.iload 4, 2) := dg50_dL_law.2.2.1
theorem dL_law_996 : decode cL_law 996 = .ok (.iconst 2, 1) := dg50_dL_law.2.2.2.1
theorem dL_law_997 : decode cL_law 997 = .ok (.iadd, 1) := dg50_dL_law.2.2.2.2.1
theorem dL_law_998 : decode cL_law 998 = .ok (.iaload, 1) := dg50_dL_law.2.2.2.2.2.1
theorem dL_law_999 : decode cL_law 999 = .ok (.invokevirtual 173, 3) := dg50_dL_law.2.2.2.2.2.2.1
theorem dL_law_1002 : decode cL_law 1002 = .ok (.istore 6, 2) := dg50_dL_law.2.2.2.2.2.2.2.1
theorem dL_law_1004 : decode cL_law 1004 = .ok (.aload_n 2, 1) := dg50_dL_law.2.2.2.2.2.2.2.2.1
theorem dL_law_1005 : decode cL_law 1005 = .ok (.invokevirtual 128, 3) := dg50_dL_law.2.2.2.2.2.2.2.2.2.1
theorem dL_law_1008 : decode cL_law 1008 = .ok (.iload 5, 2) := dg50_dL_law.2.2.2.2.2.2.2.2.2.2.1
theorem dL_law_1010 : decode cL_law 1010 = .ok (.if_icmp .eq 5, 3) := dg50_dL_law.2.2.2.2.2.2.2.2.2.2.2.1
theorem dL_law_1013 : decode cL_law 1013 = .ok (.iconst 0, 1) := dg50_dL_law.2.2.2.2.2.2.2.2.2.2.2.2.1
theorem dL_law_1014 : decode cL_law 1014 = .ok (.ireturn, 1) := dg50_dL_law.2.2.2.2.2.2.2.2.2.2.2.2.2.1
theorem dL_law_1015 : decode cL_law 1015 = .ok (.iload 5, 2) := dg50_dL_law.2.2.2.2.2.2.2.2.2.2.2.2.2.2.1
theorem dL_law_1017 : decode cL_law 1017 = .ok (.ifCond .ne 15, 3) := dg50_dL_law.2.2.2.2.2.2.2.2.2.2.2.2.2.2.2.1
theorem dL_law_1020 : decode cL_law 1020 = .ok (.aload_n 3, 1) := dg50_dL_law.2.2.2.2.2.2.2.2.2.2.2.2.2.2.2.2.1
theorem dL_law_1021 : decode cL_law 1021 = .ok (.iconst 0, 1) := dg50_dL_law.2.2.2.2.2.2.2.2.2.2.2.2.2.2.2.2.2.1
theorem dL_law_1022 : decode cL_law 1022 = .ok (.laload, 1) := dg50_dL_law.2.2.2.2.2.2.2.2.2.2.2.2.2.2.2.2.2.2.1
theorem dL_law_1023 : decode cL_law 1023 = .ok (.iload 6, 2) := dg50_dL_law.2.2.2.2.2.2.2.2.2.2.2.2.2.2.2.2.2.2.2.1
theorem dL_law_1025 : decode cL_law 1025 = .ok (.i2l, 1) := dg50_dL_law.2.2.2.2.2.2.2.2.2.2.2.2.2.2.2.2.2.2.2.2.1
theorem dL_law_1026 : decode cL_law 1026 = .ok (.lcmp, 1) := dg50_dL_law.2.2.2.2.2.2.2.2.2.2.2.2.2.2.2.2.2.2.2.2.2.1
theorem dL_law_1027 : decode cL_law 1027 = .ok (.ifCond .eq 5, 3) := dg50_dL_law.2.2.2.2.2.2.2.2.2.2.2.2.2.2.2.2.2.2.2.2.2.2.1
theorem dL_law_1030 : decode cL_law 1030 = .ok (.iconst 0, 1) := dg50_dL_law.2.2.2.2.2.2.2.2.2.2.2.2.2.2.2.2.2.2.2.2.2.2.2.1
theorem dL_law_1031 : decode cL_law 1031 = .ok (.ireturn, 1) := dg50_dL_law.2.2.2.2.2.2.2.2.2.2.2.2.2.2.2.2.2.2.2.2.2.2.2.2.1
theorem dL_law_1032 : decode cL_law 1032 = .ok (.goto 1396, 3) := dg50_dL_law.2.2.2.2.2.2.2.2.2.2.2.2.2.2.2.2.2.2.2.2.2.2.2.2.2.1
theorem dL_law_1035 : decode cL_law 1035 = .ok (.aload_n 1, 1) := dg50_dL_law.2.2.2.2.2.2.2.2.2.2.2.2.2.2.2.2.2.2.2.2.2.2.2.2.2.2.1
theorem dL_law_1036 : decode cL_law 1036 = .ok (.aload_n 0, 1) := dg50_dL_law.2.2.2.2.2.2.2.2.2.2.2.2.2.2.2.2.2.2.2.2.2.2.2.2.2.2.2.1
theorem dL_law_1037 : decode cL_law 1037 = .ok (.iload 4, 2) := dg50_dL_law.2.2.2.2.2.2.2.2.2.2.2.2.2.2.2.2.2.2.2.2.2.2.2.2.2.2.2.2.1
theorem dL_law_1039 : decode cL_law 1039 = .ok (.iconst 1, 1) := dg50_dL_law.2.2.2.2.2.2.2.2.2.2.2.2.2.2.2.2.2.2.2.2.2.2.2.2.2.2.2.2.2.1
theorem dg51_dL_law : Jvm.Free.DS.Facts cL_law 1040 [(.iadd, 1), (.iaload, 1), (.aload_n 0, 1), (.iload 4, 2), (.iconst 2, 1), (.iadd, 1), (.iaload, 1), (.aload_n 3, 1), (.invokestatic 174, 3), (.istore 5, 2), (.aload_n 2, 1), (.aload_n 0, 1), (.iload 4, 2), (.iconst 1, 1), (.iadd, 1), (.iaload, 1), (.aload_n 0, 1), (.iload 4, 2), (.iconst 2, 1), (.iadd, 1), (.iaload, 1), (.invokevirtual 176, 3), (.istore 6, 2), (.aload_n 2, 1), (.invokevirtual 128, 3), (.iload 5, 2), (.if_icmp .eq 5, 3), (.iconst 0, 1), (.ireturn, 1), (.iload 5, 2)] := Jvm.Free.DS.facts 1040 _ (by decide +kernel) (by decide +kernel)
theorem dL_law_1040 : decode cL_law 1040 = .ok (.iadd, 1) := dg51_dL_law.1
theorem dL_law_1041 : decode cL_law 1041 = .ok (.iaload, 1) := dg51_dL_law.2.1
theorem dL_law_1042 : decode cL_law 1042 = .ok (.aload_n 0, 1) := dg51_dL_law.2.2.1
theorem dL_law_1043 : decode cL_law 1043 = .ok (.iload 4, 2) := dg51_dL_law.2.2.2.1
theorem dL_law_1045 : decode cL_law 1045 = .ok (.iconst 2, 1) := dg51_dL_law.2.2.2.2.1
theorem dL_law_1046 : decode cL_law 1046 = .ok (.iadd, 1) := dg51_dL_law.2.2.2.2.2.1
theorem dL_law_1047 : decode cL_law 1047 = .ok (.iaload, 1) := dg51_dL_law.2.2.2.2.2.2.1
theorem dL_law_1048 : decode cL_law 1048 = .ok (.aload_n 3, 1) := dg51_dL_law.2.2.2.2.2.2.2.1
theorem dL_law_1049 : decode cL_law 1049 = .ok (.invokestatic 174, 3) := dg51_dL_law.2.2.2.2.2.2.2.2.1
theorem dL_law_1052 : decode cL_law 1052 = .ok (.istore 5, 2) := dg51_dL_law.2.2.2.2.2.2.2.2.2.1
theorem dL_law_1054 : decode cL_law 1054 = .ok (.aload_n 2, 1) := dg51_dL_law.2.2.2.2.2.2.2.2.2.2.1
theorem dL_law_1055 : decode cL_law 1055 = .ok (.aload_n 0, 1) := dg51_dL_law.2.2.2.2.2.2.2.2.2.2.2.1
theorem dL_law_1056 : decode cL_law 1056 = .ok (.iload 4, 2) := dg51_dL_law.2.2.2.2.2.2.2.2.2.2.2.2.1
theorem dL_law_1058 : decode cL_law 1058 = .ok (.iconst 1, 1) := dg51_dL_law.2.2.2.2.2.2.2.2.2.2.2.2.2.1
theorem dL_law_1059 : decode cL_law 1059 = .ok (.iadd, 1) := dg51_dL_law.2.2.2.2.2.2.2.2.2.2.2.2.2.2.1
theorem dL_law_1060 : decode cL_law 1060 = .ok (.iaload, 1) := dg51_dL_law.2.2.2.2.2.2.2.2.2.2.2.2.2.2.2.1
theorem dL_law_1061 : decode cL_law 1061 = .ok (.aload_n 0, 1) := dg51_dL_law.2.2.2.2.2.2.2.2.2.2.2.2.2.2.2.2.1
theorem dL_law_1062 : decode cL_law 1062 = .ok (.iload 4, 2) := dg51_dL_law.2.2.2.2.2.2.2.2.2.2.2.2.2.2.2.2.2.1
theorem dL_law_1064 : decode cL_law 1064 = .ok (.iconst 2, 1) := dg51_dL_law.2.2.2.2.2.2.2.2.2.2.2.2.2.2.2.2.2.2.1
theorem dL_law_1065 : decode cL_law 1065 = .ok (.iadd, 1) := dg51_dL_law.2.2.2.2.2.2.2.2.2.2.2.2.2.2.2.2.2.2.2.1
theorem dL_law_1066 : decode cL_law 1066 = .ok (.iaload, 1) := dg51_dL_law.2.2.2.2.2.2.2.2.2.2.2.2.2.2.2.2.2.2.2.2.1
theorem dL_law_1067 : decode cL_law 1067 = .ok (.invokevirtual 176, 3) := dg51_dL_law.2.2.2.2.2.2.2.2.2.2.2.2.2.2.2.2.2.2.2.2.2.1
theorem dL_law_1070 : decode cL_law 1070 = .ok (.istore 6, 2) := dg51_dL_law.2.2.2.2.2.2.2.2.2.2.2.2.2.2.2.2.2.2.2.2.2.2.1
theorem dL_law_1072 : decode cL_law 1072 = .ok (.aload_n 2, 1) := dg51_dL_law.2.2.2.2.2.2.2.2.2.2.2.2.2.2.2.2.2.2.2.2.2.2.2.1
theorem dL_law_1073 : decode cL_law 1073 = .ok (.invokevirtual 128, 3) := dg51_dL_law.2.2.2.2.2.2.2.2.2.2.2.2.2.2.2.2.2.2.2.2.2.2.2.2.1
theorem dL_law_1076 : decode cL_law 1076 = .ok (.iload 5, 2) := dg51_dL_law.2.2.2.2.2.2.2.2.2.2.2.2.2.2.2.2.2.2.2.2.2.2.2.2.2.1
theorem dL_law_1078 : decode cL_law 1078 = .ok (.if_icmp .eq 5, 3) := dg51_dL_law.2.2.2.2.2.2.2.2.2.2.2.2.2.2.2.2.2.2.2.2.2.2.2.2.2.2.1
theorem dL_law_1081 : decode cL_law 1081 = .ok (.iconst 0, 1) := dg51_dL_law.2.2.2.2.2.2.2.2.2.2.2.2.2.2.2.2.2.2.2.2.2.2.2.2.2.2.2.1
theorem dL_law_1082 : decode cL_law 1082 = .ok (.ireturn, 1) := dg51_dL_law.2.2.2.2.2.2.2.2.2.2.2.2.2.2.2.2.2.2.2.2.2.2.2.2.2.2.2.2.1
theorem dL_law_1083 : decode cL_law 1083 = .ok (.iload 5, 2) := dg51_dL_law.2.2.2.2.2.2.2.2.2.2.2.2.2.2.2.2.2.2.2.2.2.2.2.2.2.2.2.2.2.1
theorem dg52_dL_law : Jvm.Free.DS.Facts cL_law 1085 [(.ifCond .ne 15, 3), (.aload_n 3, 1), (.iconst 0, 1), (.laload, 1), (.iload 6, 2), (.i2l, 1), (.lcmp, 1), (.ifCond .eq 5, 3), (.iconst 0, 1), (.ireturn, 1), (.goto 1328, 3), (.aload_n 1, 1), (.aload_n 0, 1), (.iload 4, 2), (.iconst 1, 1), (.iadd, 1), (.iaload, 1), (.aload_n 0, 1), (.iload 4, 2), (.iconst 2, 1), (.iadd, 1), (.iaload, 1), (.aload_n 3, 1), (.invokestatic 177, 3), (.istore 5, 2), (.aload_n 2, 1), (.aload_n 0, 1), (.iload 4, 2), (.iconst 1, 1), (.iadd, 1)] := Jvm.Free.DS.facts 1085 _ (by decide +kernel) (by decide +kernel)
theorem dL_law_1085 : decode cL_law 1085 = .ok (.ifCond .ne 15, 3) := dg52_dL_law.1
theorem dL_law_1088 : decode cL_law 1088 = .ok (.aload_n 3, 1) := dg52_dL_law.2.1
theorem dL_law_1089 : decode cL_law 1089 = .ok (.iconst 0, 1) := dg52_dL_law.2.2.1
theorem dL_law_1090 : decode cL_law 1090 = .ok (.laload, 1) := dg52_dL_law.2.2.2.1
theorem dL_law_1091 : decode cL_law 1091 = .ok (.iload 6, 2) := dg52_dL_law.2.2.2.2.1
theorem dL_law_1093 : decode cL_law 1093 = .ok (.i2l, 1) := dg52_dL_law.2.2.2.2.2.1
theorem dL_law_1094 : decode cL_law 1094 = .ok (.lcmp, 1) := dg52_dL_law.2.2.2.2.2.2.1
theorem dL_law_1095 : decode cL_law 1095 = .ok (.ifCond .eq 5, 3) := dg52_dL_law.2.2.2.2.2.2.2.1
theorem dL_law_1098 : decode cL_law 1098 = .ok (.iconst 0, 1) := dg52_dL_law.2.2.2.2.2.2.2.2.1
theorem dL_law_1099 : decode cL_law 1099 = .ok (.ireturn, 1) := dg52_dL_law.2.2.2.2.2.2.2.2.2.1
theorem dL_law_1100 : decode cL_law 1100 = .ok (.goto 1328, 3) := dg52_dL_law.2.2.2.2.2.2.2.2.2.2.1
theorem dL_law_1103 : decode cL_law 1103 = .ok (.aload_n 1, 1) := dg52_dL_law.2.2.2.2.2.2.2.2.2.2.2.1
theorem dL_law_1104 : decode cL_law 1104 = .ok (.aload_n 0, 1) := dg52_dL_law.2.2.2.2.2.2.2.2.2.2.2.2.1
theorem dL_law_1105 : decode cL_law 1105 = .ok (.iload 4, 2) := dg52_dL_law.2.2.2.2.2.2.2.2.2.2.2.2.2.1
theorem dL_law_1107 : decode cL_law 1107 = .ok (.iconst 1, 1) := dg52_dL_law.2.2.2.2.2.2.2.2.2.2.2.2.2.2.1
theorem dL_law_1108 : decode cL_law 1108 = .ok (.iadd, 1) := dg52_dL_law.2.2.2.2.2.2.2.2.2.2.2.2.2.2.2.1
theorem dL_law_1109 : decode cL_law 1109 = .ok (.iaload, 1) := dg52_dL_law.2.2.2.2.2.2.2.2.2.2.2.2.2.2.2.2.1
theorem dL_law_1110 : decode cL_law 1110 = .ok (.aload_n 0, 1) := dg52_dL_law.2.2.2.2.2.2.2.2.2.2.2.2.2.2.2.2.2.1
theorem dL_law_1111 : decode cL_law 1111 = .ok (.iload 4, 2) := dg52_dL_law.2.2.2.2.2.2.2.2.2.2.2.2.2.2.2.2.2.2.1
theorem dL_law_1113 : decode cL_law 1113 = .ok (.iconst 2, 1) := dg52_dL_law.2.2.2.2.2.2.2.2.2.2.2.2.2.2.2.2.2.2.2.1
theorem dL_law_1114 : decode cL_law 1114 = .ok (.iadd, 1) := dg52_dL_law.2.2.2.2.2.2.2.2.2.2.2.2.2.2.2.2.2.2.2.2.1
theorem dL_law_1115 : decode cL_law 1115 = .ok (.iaload, 1) := dg52_dL_law.2.2.2.2.2.2.2.2.2.2.2.2.2.2.2.2.2.2.2.2.2.1
theorem dL_law_1116 : decode cL_law 1116 = .ok (.aload_n 3, 1) := dg52_dL_law.2.2.2.2.2.2.2.2.2.2.2.2.2.2.2.2.2.2.2.2.2.2.1
theorem dL_law_1117 : decode cL_law 1117 = .ok (.invokestatic 177, 3) := dg52_dL_law.2.2.2.2.2.2.2.2.2.2.2.2.2.2.2.2.2.2.2.2.2.2.2.1
theorem dL_law_1120 : decode cL_law 1120 = .ok (.istore 5, 2) := dg52_dL_law.2.2.2.2.2.2.2.2.2.2.2.2.2.2.2.2.2.2.2.2.2.2.2.2.1
theorem dL_law_1122 : decode cL_law 1122 = .ok (.aload_n 2, 1) := dg52_dL_law.2.2.2.2.2.2.2.2.2.2.2.2.2.2.2.2.2.2.2.2.2.2.2.2.2.1
theorem dL_law_1123 : decode cL_law 1123 = .ok (.aload_n 0, 1) := dg52_dL_law.2.2.2.2.2.2.2.2.2.2.2.2.2.2.2.2.2.2.2.2.2.2.2.2.2.2.1
theorem dL_law_1124 : decode cL_law 1124 = .ok (.iload 4, 2) := dg52_dL_law.2.2.2.2.2.2.2.2.2.2.2.2.2.2.2.2.2.2.2.2.2.2.2.2.2.2.2.1
theorem dL_law_1126 : decode cL_law 1126 = .ok (.iconst 1, 1) := dg52_dL_law.2.2.2.2.2.2.2.2.2.2.2.2.2.2.2.2.2.2.2.2.2.2.2.2.2.2.2.2.1
theorem dL_law_1127 : decode cL_law 1127 = .ok (.iadd, 1) := dg52_dL_law.2.2.2.2.2.2.2.2.2.2.2.2.2.2.2.2.2.2.2.2.2.2.2.2.2.2.2.2.2.1
theorem dg53_dL_law : Jvm.Free.DS.Facts cL_law 1128 [(.iaload, 1), (.aload_n 0, 1), (.iload 4, 2), (.iconst 2, 1), (.iadd, 1), (.iaload, 1), (.invokevirtual 179, 3), (.istore 6, 2), (.aload_n 2, 1), (.invokevirtual 128, 3), (.iload 5, 2), (.if_icmp .eq 5, 3), (.iconst 0, 1), (.ireturn, 1), (.iload 5, 2), (.ifCond .ne 15, 3), (.aload_n 3, 1), (.iconst 0, 1), (.laload, 1), (.iload 6, 2), (.i2l, 1), (.lcmp, 1), (.ifCond .eq 5, 3), (.iconst 0, 1), (.ireturn, 1), (.goto 1260, 3), (.aload_n 1, 1), (.aload_n 0, 1), (.iload 4, 2), (.iconst 1, 1)] := Jvm.Free.DS.facts 1128 _ (by decide +kernel) (by decide +kernel)
theorem dL_law_1128 : decode cL_law 1128 = .ok (.iaload, 1) := dg53_dL_law.1
theorem dL_law_1129 : decode cL_law 1129 = .ok (.aload_n 0, 1) := dg53_dL_law.2.1
theorem dL_law_1130 : decode cL_law 1130 = .ok (.iload 4, 2) := dg53_dL_law.2.2.1
theorem dL_law_1132 : decode cL_law 1132 = .ok (.iconst 2, 1) := dg53_dL_law.2.2.2.1
theorem dL_law_1133 : decode cL_law 1133 = .ok (.iadd, 1) := dg53_dL_law.2.2.2.2.1
theorem dL_law_1134 : decode cL_law 1134 = .ok (.iaload, 1) := dg53_dL_law.2.2.2.2.2.1
theorem dL_law_1135 : decode cL_law 1135 = .ok (.invokevirtual 179, 3) := dg53_dL_law.2.2.2.2.2.2.1
theorem dL_law_1138 : decode cL_law 1138 = .ok (.istore 6, 2) := dg53_dL_law.2.2.2.2.2.2.2.1
theorem dL_law_1140 : decode cL_law 1140 = .ok (.aload_n 2, 1) := dg53_dL_law.2.2.2.2.2.2.2.2.1
theorem dL_law_1141 : decode cL_law 1141 = .ok (.invokevirtual 128, 3) := dg53_dL_law.2.2.2.2.2.2.2.2.2.1
theorem dL_law_1144 : decode cL_law 1144 = .ok (.iload 5, 2) := dg53_dL_law.2.2.2.2.2.2.2.2.2.2.1
theorem dL_law_1146 : decode cL_law 1146 = .ok (.if_icmp .eq 5, 3) := dg53_dL_law.2.2.2.2.2.2.2.2.2.2.2.1
theorem dL_law_1149 : decode cL_law 1149 = .ok (.iconst 0, 1) := dg53_dL_law.2.2.2.2.2.2.2.2.2.2.2.2.1
theorem dL_law_1150 : decode cL_law 1150 = .ok (.ireturn, 1) := dg53_dL_law.2.2.2.2.2.2.2.2.2.2.2.2.2.1
theorem dL_law_1151 : decode cL_law 1151 = .ok (.iload 5, 2) := dg53_dL_law.2.2.2.2.2.2.2.2.2.2.2.2.2.2.1
theorem dL_law_1153 : decode cL_law 1153 = .ok (.ifCond .ne 15, 3) := dg53_dL_law.2.2.2.2.2.2.2.2.2.2.2.2.2.2.2.1
theorem dL_law_1156 : decode cL_law 1156 = .ok (.aload_n 3, 1) := dg53_dL_law.2.2.2.2.2.2.2.2.2.2.2.2.2.2.2.2.1
theorem dL_law_1157 : decode cL_law 1157 = .ok (.iconst 0, 1) := dg53_dL_law.2.2.2.2.2.2.2.2.2.2.2.2.2.2.2.2.2.1
theorem dL_law_1158 : decode cL_law 1158 = .ok (.laload, 1) := dg53_dL_law.2.2.2.2.2.2.2.2.2.2.2.2.2.2.2.2.2.2.1
theorem dL_law_1159 : decode cL_law 1159 = .ok (.iload 6, 2) := dg53_dL_law.2.2.2.2.2.2.2.2.2.2.2.2.2.2.2.2.2.2.2.1
theorem dL_law_1161 : decode cL_law 1161 = .ok (.i2l, 1) := dg53_dL_law.2.2.2.2.2.2.2.2.2.2.2.2.2.2.2.2.2.2.2.2.1
theorem dL_law_1162 : decode cL_law 1162 = .ok (.lcmp, 1) := dg53_dL_law.2.2.2.2.2.2.2.2.2.2.2.2.2.2.2.2.2.2.2.2.2.1
theorem dL_law_1163 : decode cL_law 1163 = .ok (.ifCond .eq 5, 3) := dg53_dL_law.2.2.2.2.2.2.2.2.2.2.2.2.2.2.2.2.2.2.2.2.2.2.1
theorem dL_law_1166 : decode cL_law 1166 = .ok (.iconst 0, 1) := dg53_dL_law.2.2.2.2.2.2.2.2.2.2.2.2.2.2.2.2.2.2.2.2.2.2.2.1
theorem dL_law_1167 : decode cL_law 1167 = .ok (.ireturn, 1) := dg53_dL_law.2.2.2.2.2.2.2.2.2.2.2.2.2.2.2.2.2.2.2.2.2.2.2.2.1
theorem dL_law_1168 : decode cL_law 1168 = .ok (.goto 1260, 3) := dg53_dL_law.2.2.2.2.2.2.2.2.2.2.2.2.2.2.2.2.2.2.2.2.2.2.2.2.2.1
theorem dL_law_1171 : decode cL_law 1171 = .ok (.aload_n 1, 1) := dg53_dL_law.2.2.2.2.2.2.2.2.2.2.2.2.2.2.2.2.2.2.2.2.2.2.2.2.2.2.1
theorem dL_law_1172 : decode cL_law 1172 = .ok (.aload_n 0, 1) := dg53_dL_law.2.2.2.2.2.2.2.2.2.2.2.2.2.2.2.2.2.2.2.2.2.2.2.2.2.2.2.1
theorem dL_law_1173 : decode cL_law 1173 = .ok (.iload 4, 2) := dg53_dL_law.2.2.2.2.2.2.2.2.2.2.2.2.2.2.2.2.2.2.2.2.2.2.2.2.2.2.2.2.1
theorem dL_law_1175 : decode cL_law 1175 = .ok (.iconst 1, 1) := dg53_dL_law.2.2.2.2.2.2.2.2.2.2.2.2.2.2.2.2.2.2.2.2.2.2.2.2.2.2.2.2.2.1
theorem dg54_dL_law : Jvm.Free.DS.Facts cL_law 1176 [(.iadd, 1), (.iaload, 1), (.aload_n 0, 1), (.iload 4, 2), (.iconst 2, 1), (.iadd, 1), (.iaload, 1), (.aload_n 3, 1), (.invokestatic 180, 3), (.istore 5, 2), (.aload_n 2, 1), (.aload_n 0, 1), (.iload 4, 2), (.iconst 1, 1), (.iadd, 1), (.iaload, 1), (.aload_n 0, 1), (.iload 4, 2), (.iconst 2, 1), (.iadd, 1), (.iaload, 1), (.invokevirtual 182, 3), (.istore 6, 2), (.aload_n 2, 1), (.invokevirtual 128, 3), (.iload 5, 2), (.if_icmp .eq 5, 3), (.iconst 0, 1), (.ireturn, 1), (.iload 5, 2)] := Jvm.Free.DS.facts 1176 _ (by decide +kernel) (by decide +kernel)
theorem dL_law_1176 : decode cL_law 1176 = .ok (.iadd, 1) := dg54_dL_law.1
theorem dL_law_1177 : decode cL_law 1177 = .ok (.iaload, 1) := dg54_dL_law.2.1
theorem dL_law_1178 : decode cL_law 1178 = .ok (.aload_n 0, 1) := dg54_dL_law.2.2.1
theorem dL_law_1179 : decode cL_law 1179 = .ok (.iload 4, 2) := dg54_dL_law.2.2.2.1
theorem dL_law_1181 : decode cL_law 1181 = .ok (.iconst 2, 1) := dg54_dL_law.2.2.2.2.1
theorem dL_law_1182 : decode cL_law 1182 = .ok (.iadd, 1) := dg54_dL_law.2.2.2.2.2.1
theorem dL_law_1183 : decode cL_law 1183 = .ok (.iaload, 1) := dg54_dL_law.2.2.2.2.2.2.1
theorem dL_law_1184 : decode cL_law 1184 = .ok (.aload_n 3, 1) := dg54_dL_law.2.2.2.2.2.2.2.1
theorem dL_law_1185 : decode cL_law 1185 = .ok (.invokestatic 180, 3) := dg54_dL_law.2.2.2.2.2.2.2.2.1
theorem dL_law_1188 : decode cL_law 1188 = .ok (.istore 5, 2) := dg54_dL_law.2.2.2.2.2.2.2.2.2.1
theorem dL_law_1190 : decode cL_law 1190 = .ok (.aload_n 2, 1) := dg54_dL_law.2.2.2.2.2.2.2.2.2.2.1
theorem dL_law_1191 : decode cL_law 1191 = .ok (.aload_n 0, 1) := dg54_dL_law.2.2.2.2.2.2.2.2.2.2.2.1
theorem dL_law_1192 : decode cL_law 1192 = .ok (.iload 4, 2) := dg54_dL_law.2.2.2.2.2.2.2.2.2.2.2.2.1
theorem dL_law_1194 : decode cL_law 1194 = .ok (.iconst 1, 1) := dg54_dL_law.2.2.2.2.2.2.2.2.2.2.2.2.2.1
theorem dL_law_1195 : decode cL_law 1195 = .ok (.iadd, 1) := dg54_dL_law.2.2.2.2.2.2.2.2.2.2.2.2.2.2.1
theorem dL_law_1196 : decode cL_law 1196 = .ok (.iaload, 1) := dg54_dL_law.2.2.2.2.2.2.2.2.2.2.2.2.2.2.2.1
theorem dL_law_1197 : decode cL_law 1197 = .ok (.aload_n 0, 1) := dg54_dL_law.2.2.2.2.2.2.2.2.2.2.2.2.2.2.2.2.1
theorem dL_law_1198 : decode cL_law 1198 = .ok (.iload 4, 2) := dg54_dL_law.2.2.2.2.2.2.2.2.2.2.2.2.2.2.2.2.2.1
theorem dL_law_1200 : decode cL_law 1200 = .ok (.iconst 2, 1) := dg54_dL_law.2.2.2.2.2.2.2.2.2.2.2.2.2.2.2.2.2.2.1
theorem dL_law_1201 : decode cL_law 1201 = .ok (.iadd, 1) := dg54_dL_law.2.2.2.2.2.2.2.2.2.2.2.2.2.2.2.2.2.2.2.1
theorem dL_law_1202 : decode cL_law 1202 = .ok (.iaload, 1) := dg54_dL_law.2.2.2.2.2.2.2.2.2.2.2.2.2.2.2.2.2.2.2.2.1
theorem dL_law_1203 : decode cL_law 1203 = .ok (.invokevirtual 182, 3) := dg54_dL_law.2.2.2.2.2.2.2.2.2.2.2.2.2.2.2.2.2.2.2.2.2.1
theorem dL_law_1206 : decode cL_law 1206 = .ok (.istore 6, 2) := dg54_dL_law.2.2.2.2.2.2.2.2.2.2.2.2.2.2.2.2.2.2.2.2.2.2.1
theorem dL_law_1208 : decode cL_law 1208 = .ok (.aload_n 2, 1) := dg54_dL_law.2.2.2.2.2.2.2.2.2.2.2.2.2.2.2.2.2.2.2.2.2.2.2.1
theorem dL_law_1209 : decode cL_law 1209 = .ok (.invokevirtual 128, 3) := dg54_dL_law.2.2.2.2.2.2.2.2.2.2.2.2.2.2.2.2.2.2.2.2.2.2.2.2.1
theorem dL_law_1212 : decode cL_law 1212 = .ok (.iload 5, 2) := dg54_dL_law.2.2.2.2.2.2.2.2.2.2.2.2.2.2.2.2.2.2.2.2.2.2.2.2.2.1
theorem dL_law_1214 : decode cL_law 1214 = .ok (.if_icmp .eq 5, 3) := dg54_dL_law.2.2.2.2.2.2.2.2.2.2.2.2.2.2.2.2.2.2.2.2.2.2.2.2.2.2.1
theorem dL_law_1217 : decode cL_law 1217 = .ok (.iconst 0, 1) := dg54_dL_law.2.2.2.2.2.2.2.2.2.2.2.2.2.2.2.2.2.2.2.2.2.2.2.2.2.2.2.1
theorem dL_law_1218 : decode cL_law 1218 = .ok (.ireturn, 1) := dg54_dL_law.2.2.2.2.2.2.2.2.2.2.2.2.2.2.2.2.2.2.2.2.2.2.2.2.2.2.2.2.1
theorem dL_law_1219 : decode cL_law 1219 = .ok (.iload 5, 2) := dg54_dL_law.2.2.2.2.2.2.2.2.2.2.2.2.2.2.2.2.2.2.2.2.2.2.2.2.2.2.2.2.2.1
theorem dg55_dL_law : Jvm.Free.DS.Facts cL_law 1221 [(.ifCond .ne 15, 3), (.aload_n 3, 1), (.iconst 0, 1), (.laload, 1), (.iload 6, 2), (.i2l, 1), (.lcmp, 1), (.ifCond .eq 5, 3), (.iconst 0, 1), (.ireturn, 1), (.goto 1192, 3), (.aload_n 1, 1), (.aload_n 0, 1), (.iload 4, 2), (.iconst 1, 1), (.iadd, 1), (.iaload, 1), (.aload_n 0, 1), (.iload 4, 2), (.iconst 2, 1), (.iadd, 1), (.iaload, 1), (.aload_n 0, 1), (.iload 4, 2), (.iconst 3, 1), (.iadd, 1), (.iaload, 1), (.aload_n 3, 1), (.invokestatic 183, 3), (.istore 5, 2)] := Jvm.Free.DS.facts 1221 _ (by decide +kernel) (by decide +kernel)
theorem dL_law_1221 : decode cL_law 1221 = .ok (.ifCond .ne 15, 3) := dg55_dL_law.1
theorem dL_law_1224 : decode cL_law 1224 = .ok (.aload_n 3, 1) := dg55_dL_law.2.1
theorem dL_law_1225 : decode cL_law 1225 = .ok (.iconst 0, 1) := dg55_dL_law.2.2.1
theorem dL_law_1226 : decode cL_law 1226 = .ok (.laload, 1) := dg55_dL_law.2.2.2.1
theorem dL_law_1227 : decode cL_law 1227 = .ok (.iload 6, 2) := dg55_dL_law.2.2.2.2.1
theorem dL_law_1229 : decode cL_law 1229 = .ok (.i2l, 1) := dg55_dL_law.2.2.2.2.2.1
theorem dL_law_1230 : decode cL_law 1230 = .ok (.lcmp, 1) := dg55_dL_law.2.2.2.2.2.2.1
theorem dL_law_1231 : decode cL_law 1231 = .ok (.ifCond .eq 5, 3) := dg55_dL_law.2.2.2.2.2.2.2.1
theorem dL_law_1234 : decode cL_law 1234 = .ok (.iconst 0, 1) := dg55_dL_law.2.2.2.2.2.2.2.2.1
theorem dL_law_1235 : decode cL_law 1235 = .ok (.ireturn, 1) := dg55_dL_law.2.2.2.2.2.2.2.2.2.1
theorem dL_law_1236 : decode cL_law 1236 = .ok (.goto 1192, 3) := dg55_dL_law.2.2.2.2.2.2.2.2.2.2.1
theorem dL_law_1239 : decode cL_law 1239 = .ok (.aload_n 1, 1) := dg55_dL_law.2.2.2.2.2.2.2.2.2.2.2.1
theorem dL_law_1240 : decode cL_law 1240 = .ok (.aload_n 0, 1) := dg55_dL_law.2.2.2.2.2.2.2.2.2.2.2.2.1
theorem dL_law_1241 : decode cL_law 1241 = .ok (.iload 4, 2) := dg55_dL_law.2.2.2.2.2.2.2.2.2.2.2.2.2.1
theorem dL_law_1243 : decode cL_law 1243 = .ok (.iconst 1, 1) := dg55_dL_law.2.2.2.2.2.2.2.2.2.2.2.2.2.2.1
theorem dL_law_1244 : decode cL_law 1244 = .ok (.iadd, 1) := dg55_dL_law.2.2.2.2.2.2.2.2.2.2.2.2.2.2.2.1
theorem dL_law_1245 : decode cL_law 1245 = .ok (.iaload, 1) := dg55_dL_law.2.2.2.2.2.2.2.2.2.2.2.2.2.2.2.2.1
theorem dL_law_1246 : decode cL_law 1246 = .ok (.aload_n 0, 1) := dg55_dL_law.2.2.2.2.2.2.2.2.2.2.2.2.2.2.2.2.2.1
theorem dL_law_1247 : decode cL_law 1247 = .ok (.iload 4, 2) := dg55_dL_law.2.2.2.2.2.2.2.2.2.2.2.2.2.2.2.2.2.2.1
theorem dL_law_1249 : decode cL_law 1249 = .ok (.iconst 2, 1) := dg55_dL_law.2.2.2.2.2.2.2.2.2.2.2.2.2.2.2.2.2.2.2.1
theorem dL_law_1250 : decode cL_law 1250 = .ok (.iadd, 1) := dg55_dL_law.2.2.2.2.2.2.2.2.2.2.2.2.2.2.2.2.2.2.2.2.1
theorem dL_law_1251 : decode cL_law 1251 = .ok (.iaload, 1) := dg55_dL_law.2.2.2.2.2.2.2.2.2.2.2.2.2.2.2.2.2.2.2.2.2.1
theorem dL_law_1252 : decode cL_law 1252 = .ok (.aload_n 0, 1) := dg55_dL_law.2.2.2.2.2.2.2.2.2.2.2.2.2.2.2.2.2.2.2.2.2.2.1
theorem dL_law_1253 : decode cL_law 1253 = .ok (.iload 4, 2) := dg55_dL_law.2.2.2.2.2.2.2.2.2.2.2.2.2.2.2.2.2.2.2.2.2.2.2.1
theorem dL_law_1255 : decode cL_law 1255 = .ok (.iconst 3, 1) := dg55_dL_law.2.2.2.2.2.2.2.2.2.2.2.2.2.2.2.2.2.2.2.2.2.2.2.2.1
theorem dL_law_1256 : decode cL_law 1256 = .ok (.iadd, 1) := dg55_dL_law.2.2.2.2.2.2.2.2.2.2.2.2.2.2.2.2.2.2.2.2.2.2.2.2.2.1
theorem dL_law_1257 : decode cL_law 1257 = .ok (.iaload, 1) := dg55_dL_law.2.2.2.2.2.2.2.2.2.2.2.2.2.2.2.2.2.2.2.2.2.2.2.2.2.2.1
theorem dL_law_1258 : decode cL_law 1258 = .ok (.aload_n 3, 1) := dg55_dL_law.2.2.2.2.2.2.2.2.2.2.2.2.2.2.2.2.2.2.2.2.2.2.2.2.2.2.2.1
theorem dL_law_1259 : decode cL_law 1259 = .ok (.invokestatic 183, 3) := dg55_dL_law.2.2.2.2.2.2.2.2.2.2.2.2.2.2.2.2.2.2.2.2.2.2.2.2.2.2.2.2.1
theorem dL_law_1262 : decode cL_law 1262 = .ok (.istore 5, 2) := dg55_dL_law.2.2.2.2.2.2.2.2.2.2.2.2.2.2.2.2.2.2.2.2.2.2.2.2.2.2.2.2.2.1
theorem dg56_dL_law : Jvm.Free.DS.Facts cL_law 1264 [(.aload_n 2, 1), (.aload_n 0, 1), (.iload 4, 2), (.iconst 1, 1), (.iadd, 1), (.iaload, 1), (.aload_n 0, 1), (.iload 4, 2), (.iconst 2, 1), (.iadd, 1), (.iaload, 1), (.aload_n 0, 1), (.iload 4, 2), (.iconst 3, 1), (.iadd, 1), (.iaload, 1), (.invokevirtual 186, 3), (.istore 6, 2), (.aload_n 2, 1), (.invokevirtual 128, 3), (.iload 5, 2), (.if_icmp .eq 5, 3), (.iconst 0, 1), (.ireturn, 1), (.iload 5, 2), (.ifCond .ne 15, 3), (.aload_n 3, 1), (.iconst 0, 1), (.laload, 1), (.iload 6, 2)] := Jvm.Free.DS.facts 1264 _ (by decide +kernel) (by decide +kernel)
theorem dL_law_1264 : decode cL_law 1264 = .ok (.aload_n 2, 1) := dg56_dL_law.1
theorem dL_law_1265 : decode cL_law 1265 = .ok (.aload_n 0, 1) := dg56_dL_law.2.1
theorem dL_law_1266 : decode cL_law 1266 = .ok (.iload 4, 2) := dg56_dL_law.2.2.1
theorem dL_law_1268 : decode cL_law 1268 = .ok (.iconst 1, 1) := dg56_dL_law.2.2.2.1
theorem dL_law_1269 : decode cL_law 1269 = .ok (.iadd, 1) := dg56_dL_law.2.2.2.2.1
theorem dL_law_1270 : decode cL_law 1270 = .ok (.iaload, 1) := dg56_dL_law.2.2.2.2.2.1
theorem dL_law_1271 : decode cL_law 1271 = .ok (.aload_n 0, 1) := dg56_dL_law.2.2.2.2.2.2.1
theorem dL_law_1272 : decode cL_law 1272 = .ok (.iload 4, 2) := dg56_dL_law.2.2.2.2.2.2.2.1
theorem dL_law_1274 : decode cL_law 1274 = .ok (.iconst 2, 1) := dg56_dL_law.2.2.2.2.2.2.2.2.1
theorem dL_law_1275 : decode cL_law 1275 = .ok (.iadd, 1) := dg56_dL_law.2.2.2.2.2.2.2.2.2.1
theorem dL_law_1276 : decode cL_law 1276 = .ok (.iaload, 1) := dg56_dL_law.2.2.2.2.2.2.2.2.2.2.1
theorem dL_law_1277 : decode cL_law 1277 = .ok (.aload_n 0, 1) := dg56_dL_law.2.2.2.2.2.2.2.2.2.2.2.1
theorem dL_law_1278 : decode cL_law 1278 = .ok (.iload 4, 2) := dg56_dL_law.2.2.2.2.2.2.2.2.2.2.2.2.1
theorem dL_law_1280 : decode cL_law 1280 = .ok (.iconst 3, 1) := dg56_dL_law.2.2.2.2.2.2.2.2.2.2.2.2.2.1
theorem dL_law_1281 : decode cL_law 1281 = .ok (.iadd, 1) := dg56_dL_law.2.2.2.2.2.2.2.2.2.2.2.2.2.2.1
theorem dL_law_1282 : decode cL_law 1282 = .ok (.iaload, 1) := dg56_dL_law.2.2.2.2.2.2.2.2.2.2.2.2.2.2.2.1
theorem dL_law_1283 : decode cL_law 1283 = .ok (.invokevirtual 186, 3) := dg56_dL_law.2.2.2.2.2.2.2.2.2.2.2.2.2.2.2.2.1
theorem dL_law_1286 : decode cL_law 1286 = .ok (.istore 6, 2) := dg56_dL_law.2.2.2.2.2.2.2.2.2.2.2.2.2.2.2.2.2.1
theorem dL_law_1288 : decode cL_law 1288 = .ok (.aload_n 2, 1) := dg56_dL_law.2.2.2.2.2.2.2.2.2.2.2.2.2.2.2.2.2.2.1
theorem dL_law_1289 : decode cL_law 1289 = .ok (.invokevirtual 128, 3) := dg56_dL_law.2.2.2.2.2.2.2.2.2.2.2.2.2.2.2.2.2.2.2.1
theorem dL_law_1292 : decode cL_law 1292 = .ok (.iload 5, 2) := dg56_dL_law.2.2.2.2.2.2.2.2.2.2.2.2.2.2.2.2.2.2.2.2.1
theorem dL_law_1294 : decode cL_law 1294 = .ok (.if_icmp .eq 5, 3) := dg56_dL_law.2.2.2.2.2.2.2.2.2.2.2.2.2.2.2.2.2.2.2.2.2.1
theorem dL_law_1297 : decode cL_law 1297 = .ok (.iconst 0, 1) := dg56_dL_law.2.2.2.2.2.2.2.2.2.2.2.2.2.2.2.2.2.2.2.2.2.2.1
theorem dL_law_1298 : decode cL_law 1298 = .ok (.ireturn, 1) := dg56_dL_law.2.2.2.2.2.2.2.2.2.2.2.2.2.2.2.2.2.2.2.2.2.2.2.1
theorem dL_law_1299 : decode cL_law 1299 = .ok (.iload 5, 2) := dg56_dL_law.2.2.2.2.2.2.2.2.2.2.2.2.2.2.2.2.2.2.2.2.2.2.2.2.1
theorem dL_law_1301 : decode cL_law 1301 = .ok (.ifCond .ne 15, 3) := dg56_dL_law.2.2.2.2.2.2.2.2.2.2.2.2.2.2.2.2.2.2.2.2.2.2.2.2.2.1
theorem dL_law_1304 : decode cL_law 1304 = .ok (.aload_n 3, 1) := dg56_dL_law.2.2.2.2.2.2.2.2.2.2.2.2.2.2.2.2.2.2.2.2.2.2.2.2.2.2.1
theorem dL_law_1305 : decode cL_law 1305 = .ok (.iconst 0, 1) := dg56_dL_law.2.2.2.2.2.2.2.2.2.2.2.2.2.2.2.2.2.2.2.2.2.2.2.2.2.2.2.1
theorem dL_law_1306 : decode cL_law 1306 = .ok (.laload, 1) := dg56_dL_law.2.2.2.2.2.2.2.2.2.2.2.2.2.2.2.2.2.2.2.2.2.2.2.2.2.2.2.2.1
theorem dL_law_1307 : decode cL_law 1307 = .ok (.iload 6, 2) := dg56_dL_law.2.2.2.2.2.2.2.2.2.2.2.2.2.2.2.2.2.2.2.2.2.2.2.2.2.2.2.2.2.1
theorem dg57_dL_law : Jvm.Free.DS.Facts cL_law 1309 [(.i2l, 1), (.lcmp, 1), (.ifCond .eq 5, 3), (.iconst 0, 1), (.ireturn, 1), (.goto 1112, 3), (.aload_n 1, 1), (.aload_n 0, 1), (.iload 4, 2), (.iconst 1, 1), (.iadd, 1), (.iaload, 1), (.aload_n 0, 1), (.iload 4, 2), (.iconst 2, 1), (.iadd, 1), (.iaload, 1), (.aload_n 3, 1), (.invokestatic 187, 3), (.istore 5, 2), (.aload_n 2, 1), (.aload_n 0, 1), (.iload 4, 2), (.iconst 1, 1), (.iadd, 1), (.iaload, 1), (.aload_n 0, 1), (.iload 4, 2), (.iconst 2, 1), (.iadd, 1)] := Jvm.Free.DS.facts 1309 _ (by decide +kernel) (by decide +kernel)
theorem dL_law_1309 : decode cL_law 1309 = .ok (.i2l, 1) := dg57_dL_law.1
theorem dL_law_1310 : decode cL_law 1310 = .ok (.lcmp, 1) := dg57_dL_law.2.1
theorem dL_law_1311 : decode cL_law 1311 = .ok (.ifCond .eq 5, 3) := dg57_dL_law.2.2.1
theorem dL_law_1314 : decode cL_law 1314 = .ok (.iconst 0, 1) := dg57_dL_law.2.2.2.1
theorem dL_law_1315 : decode cL_law 1315 = .ok (.ireturn, 1) := dg57_dL_law.2.2.2.2.1
theorem dL_law_1316 : decode cL_law 1316 = .ok (.goto 1112, 3) := dg57_dL_law.2.2.2.2.2.1
theorem dL_law_1319 : decode cL_law 1319 = .ok (.aload_n 1, 1) := dg57_dL_law.2.2.2.2.2.2.1
theorem dL_law_1320 : decode cL_law 1320 = .ok (.aload_n 0, 1) := dg57_dL_law.2.2.2.2.2.2.2.1
theorem dL_law_1321 : decode cL_law 1321 = .ok (.iload 4, 2) := dg57_dL_law.2.2.2.2.2.2.2.2.1
theorem dL_law_1323 : decode cL_law 1323 = .ok (.iconst 1, 1) := dg57_dL_law.2.2.2.2.2.2.2.2.2.1
theorem dL_law_1324 : decode cL_law 1324 = .ok (.iadd, 1) := dg57_dL_law.2.2.2.2.2.2.2.2.2.2.1
theorem dL_law_1325 : decode cL_law 1325 = .ok (.iaload, 1) := dg57_dL_law.2.2.2.2.2.2.2.2.2.2.2.1
theorem dL_law_1326 : decode cL_law 1326 = .ok (.aload_n 0, 1) := dg57_dL_law.2.2.2.2.2.2.2.2.2.2.2.2.1
theorem dL_law_1327 : decode cL_law 1327 = .ok (.iload 4, 2) := dg57_dL_law.2.2.2.2.2.2.2.2.2.2.2.2.2.1
theorem dL_law_1329 : decode cL_law 1329 = .ok (.iconst 2, 1) := dg57_dL_law.2.2.2.2.2.2.2.2.2.2.2.2.2.2.1
theorem dL_law_1330 : decode cL_law 1330 = .ok (.iadd, 1) := dg57_dL_law.2.2.2.2.2.2.2.2.2.2.2.2.2.2.2.1
theorem dL_law_1331 : decode cL_law 1331 = .ok (.iaload, 1) := dg57_dL_law.2.2.2.2.2.2.2.2.2.2.2.2.2.2.2.2.1
theorem dL_law_1332 : decode cL_law 1332 = .ok (.aload_n 3, 1) := dg57_dL_law.2.2.2.2.2.2.2.2.2.2.2.2.2.2.2.2.2.1
theorem dL_law_1333 : decode cL_law 1333 = .ok (.invokestatic 187, 3) := dg57_dL_law.2.2.2.2.2.2.2.2.2.2.2.2.2.2.2.2.2.2.1
theorem dL_law_1336 : decode cL_law 1336 = .ok (.istore 5, 2) := dg57_dL_law.2.2.2.2.2.2.2.2.2.2.2.2.2.2.2.2.2.2.2.1
theorem dL_law_1338 : decode cL_law 1338 = .ok (.aload_n 2, 1) := dg57_dL_law.2.2.2.2.2.2.2.2.2.2.2.2.2.2.2.2.2.2.2.2.1
theorem dL_law_1339 : decode cL_law 1339 = .ok (.aload_n 0, 1) := dg57_dL_law.2.2.2.2.2.2.2.2.2.2.2.2.2.2.2.2.2.2.2.2.2.1
theorem dL_law_1340 : decode cL_law 1340 = .ok (.iload 4, 2) := dg57_dL_law.2.2.2.2.2.2.2.2.2.2.2.2.2.2.2.2.2.2.2.2.2.2.1
theorem dL_law_1342 : decode cL_law 1342 = .ok (.iconst 1, 1) := dg57_dL_law.2.2.2.2.2.2.2.2.2.2.2.2.2.2.2.2.2.2.2.2.2.2.2.1
theorem dL_law_1343 : decode cL_law 1343 = .ok (.iadd, 1) := dg57_dL_law.2.2.2.2.2.2.2.2.2.2.2.2.2.2.2.2.2.2.2.2.2.2.2.2.1
theorem dL_law_1344 : decode cL_law 1344 = .ok (.iaload, 1) := dg57_dL_law.2.2.2.2.2.2.2.2.2.2.2.2.2.2.2.2.2.2.2.2.2.2.2.2.2.1
theorem dL_law_1345 : decode cL_law 1345 = .ok (.aload_n 0, 1) := dg57_dL_law.2.2.2.2.2.2.2.2.2.2.2.2.2.2.2.2.2.2.2.2.2.2.2.2.2.2.1
theorem dL_law_1346 : decode cL_law 1346 = .ok (.iload 4, 2) := dg57_dL_law.2.2.2.2.2.2.2.2.2.2.2.2.2.2.2.2.2.2.2.2.2.2.2.2.2.2.2.1
theorem dL_law_1348 : decode cL_law 1348 = .ok (.iconst 2, 1) := dg57_dL_law.2.2.2.2.2.2.2.2.2.2.2.2.2.2.2.2.2.2.2.2.2.2.2.2.2.2.2.2.1
theorem dL_law_1349 : decode cL_law 1349 = .ok (.iadd, 1) := dg57_dL_law.2.2.2.2.2.2.2.2.2.2.2.2.2.2.2.2.2.2.2.2.2.2.2.2.2.2.2.2.2.1
theorem dg58_dL_law : Jvm.Free.DS.Facts cL_law 1350 [(.iaload, 1), (.invokevirtual 189, 3), (.istore 6, 2), (.aload_n 2, 1), (.invokevirtual 128, 3), (.iload 5, 2), (.if_icmp .eq 5, 3), (.iconst 0, 1), (.ireturn, 1), (.iload 5, 2), (.ifCond .ne 15, 3), (.aload_n 3, 1), (.iconst 0, 1), (.laload, 1), (.iload 6, 2), (.i2l, 1), (.lcmp, 1), (.ifCond .eq 5, 3), (.iconst 0, 1), (.ireturn, 1), (.goto 1044, 3), (.aload_n 1, 1), (.aload_n 0, 1), (.iload 4, 2), (.iconst 1, 1), (.iadd, 1), (.iaload, 1), (.aload_n 0, 1), (.iload 4, 2), (.iconst 2, 1)] := Jvm.Free.DS.facts 1350 _ (by decide +kernel) (by decide +kernel)
theorem dL_law_1350 : decode cL_law 1350 = .ok (.iaload, 1) := dg58_dL_law.1
theorem dL_law_1351 : decode cL_law 1351 = .ok (.invokevirtual 189, 3) := dg58_dL_law.2.1
theorem dL_law_1354 : decode cL_law 1354 = .ok (.istore 6, 2) := dg58_dL_law.2.2.1
theorem dL_law_1356 : decode cL_law 1356 = .ok (.aload_n 2, 1) := dg58_dL_law.2.2.2.1
theorem dL_law_1357 : decode cL_law 1357 = .ok (.invokevirtual 128, 3) := dg58_dL_law.2.2.2.2.1
theorem dL_law_1360 : decode cL_law 1360 = .ok (.iload 5, 2) := dg58_dL_law.2.2.2.2.2.1
theorem dL_law_1362 : decode cL_law 1362 = .ok (.if_icmp .eq 5, 3) := dg58_dL_law.2.2.2.2.2.2.1
theorem dL_law_1365 : decode cL_law 1365 = .ok (.iconst 0, 1) := dg58_dL_law.2.2.2.2.2.2.2.1
theorem dL_law_1366 : decode cL_law 1366 = .ok (.ireturn, 1) := dg58_dL_law.2.2.2.2.2.2.2.2.1
theorem dL_law_1367 : decode cL_law 1367 = .ok (.iload 5, 2) := dg58_dL_law.2.2.2.2.2.2.2.2.2.1
theorem dL_law_1369 : decode cL_law 1369 = .ok (.ifCond .ne 15, 3) := dg58_dL_law.2.2.2.2.2.2.2.2.2.2.1
theorem dL_law_1372 : decode cL_law 1372 = .ok (.aload_n 3, 1) := dg58_dL_law.2.2.2.2.2.2.2.2.2.2.2.1
theorem dL_law_1373 : decode cL_law 1373 = .ok (.iconst 0, 1) := dg58_dL_law.2.2.2.2.2.2.2.2.2.2.2.2.1
theorem dL_law_1374 : decode cL_law 1374 = .ok (.laload, 1) := dg58_dL_law.2.2.2.2.2.2.2.2.2.2.2.2.2.1
theorem dL_law_1375 : decode cL_law 1375 = .ok (.iload 6, 2) := dg58_dL_law.2.2.2.2.2.2.2.2.2.2.2.2.2.2.1
theorem dL_law_1377 : decode cL_law 1377 = .ok (.i2l, 1) := dg58_dL_law.2.2.2.2.2.2.2.2.2.2.2.2.2.2.2.1
theorem dL_law_1378 : decode cL_law 1378 = .ok (.lcmp, 1) := dg58_dL_law.2.2.2.2.2.2.2.2.2.2.2.2.2.2.2.2.1
theorem dL_law_1379 : decode cL_law 1379 = .ok (.ifCond .eq 5, 3) := dg58_dL_law.2.2.2.2.2.2.2.2.2.2.2.2.2.2.2.2.2.1
theorem dL_law_1382 : decode cL_law 1382 = .ok (.iconst 0, 1) := dg58_dL_law.2.2.2.2.2.2.2.2.2.2.2.2.2.2.2.2.2.2.1
theorem dL_law_1383 : decode cL_law 1383 = .ok (.ireturn, 1) := dg58_dL_law.2.2.2.2.2.2.2.2.2.2.2.2.2.2.2.2.2.2.2.1
theorem dL_law_1384 : decode cL_law 1384 = .ok (.goto 1044, 3) := dg58_dL_law.2.2.2.2.2.2.2.2.2.2.2.2.2.2.2.2.2.2.2.2.1
theorem dL_law_1387 : decode cL_law 1387 = .ok (.aload_n 1, 1) := dg58_dL_law.2.2.2.2.2.2.2.2.2.2.2.2.2.2.2.2.2.2.2.2.2.1
theorem dL_law_1388 : decode cL_law 1388 = .ok (.aload_n 0, 1) := dg58_dL_law.2.2.2.2.2.2.2.2.2.2.2.2.2.2.2.2.2.2.2.2.2.2.1
theorem dL_law_1389 : decode cL_law 1389 = .ok (.iload 4, 2) := dg58_dL_law.2.2.2.2.2.2.2.2.2.2.2.2.2.2.2.2.2.2.2.2.2.2.2.1
theorem dL_law_1391 : decode cL_law 1391 = .ok (.iconst 1, 1) := dg58_dL_law.2.2.2.2.2.2.2.2.2.2.2.2.2.2.2.2.2.2.2.2.2.2.2.2.1
theorem dL_law_1392 : decode cL_law 1392 = .ok (.iadd, 1) := dg58_dL_law.2.2.2.2.2.2.2.2.2.2.2.2.2.2.2.2.2.2.2.2.2.2.2.2.2.1
theorem dL_law_1393 : decode cL_law 1393 = .ok (.iaload, 1) := dg58_dL_law.2.2.2.2.2.2.2.2.2.2.2.2.2.2.2.2.2.2.2.2.2.2.2.2.2.2.1
theorem dL_law_1394 : decode cL_law 1394 = .ok (.aload_n 0, 1) := dg58_dL_law.2.2.2.2.2.2.2.2.2.2.2.2.2.2.2.2.2.2.2.2.2.2.2.2.2.2.2.1
theorem dL_law_1395 : decode cL_law 1395 = .ok (.iload 4, 2) := dg58_dL_law.2.2.2.2.2.2.2.2.2.2.2.2.2.2.2.2.2.2.2.2.2.2.2.2.2.2.2.2.1
theorem dL_law_1397 : decode cL_law 1397 = .ok (.iconst 2, 1) := dg58_dL_law.2.2.2.2.2.2.2.2.2.2.2.2.2.2.2.2.2.2.2.2.2.2.2.2.2.2.2.2.2.1
theorem dg59_dL_law : Jvm.Free.DS.Facts cL_law 1398 [(.iadd, 1), (.iaload, 1), (.aload_n 0, 1), (.iload 4, 2), (.iconst 3, 1), (.iadd, 1), (.iaload, 1), (.aload_n 3, 1), (.invokestatic 190, 3), (.istore 5, 2), (.aload_n 2, 1), (.aload_n 0, 1), (.iload 4, 2), (.iconst 1, 1), (.iadd, 1), (.iaload, 1), (.aload_n 0, 1), (.iload 4, 2), (.iconst 2, 1), (.iadd, 1), (.iaload, 1), (.aload_n 0, 1), (.iload 4, 2), (.iconst 3, 1), (.iadd, 1), (.iaload, 1), (.invokevirtual 192, 3), (.istore 6, 2), (.aload_n 2, 1), (.invokevirtual 128, 3)] := Jvm.Free.DS.facts 1398 _ (by decide +kernel) (by decide +kernel)
theorem dL_law_1398 : decode cL_law 1398 = .ok (.iadd, 1) := dg59_dL_law.1
theorem dL_law_1399 : decode cL_law 1399 = .ok (.iaload, 1) := dg59_dL_law.2.1
theorem dL_law_1400 : decode cL_law 1400 = .ok (.aload_n 0, 1) := dg59_dL_law.2.2.1
theorem dL_law_1401 : decode cL_law 1401 = .ok (.iload 4, 2) := dg59_dL_law.2.2.2.1
theorem dL_law_1403 : decode cL_law 1403 = .ok (.iconst 3, 1) := dg59_dL_law.2.2.2.2.1
theorem dL_law_1404 : decode cL_law 1404 = .ok (.iadd, 1) := dg59_dL_law.2.2.2.2.2.1
theorem dL_law_1405 : decode cL_law 1405 = .ok (.iaload, 1) := dg59_dL_law.2.2.2.2.2.2.1
theorem dL_law_1406 : decode cL_law 1406 = .ok (.aload_n 3, 1) := dg59_dL_law.2.2.2.2.2.2.2.1
theorem dL_law_1407 : decode cL_law 1407 = .ok (.invokestatic 190, 3) := dg59_dL_law.2.2.2.2.2.2.2.2.1
theorem dL_law_1410 : decode cL_law 1410 = .ok (.istore 5, 2) := dg59_dL_law.2.2.2.2.2.2.2.2.2.1
theorem dL_law_1412 : decode cL_law 1412 = .ok (.aload_n 2, 1) := dg59_dL_law.2.2.2.2.2.2.2.2.2.2.1
theorem dL_law_1413 : decode cL_law 1413 = .ok (.aload_n 0, 1) := dg59_dL_law.2.2.2.2.2.2.2.2.2.2.2.1
theorem dL_law_1414 : decode cL_law 1414 = .ok (.iload 4, 2) := dg59_dL_law.2.2.2.2.2.2.2.2.2.2.2.2.1
theorem dL_law_1416 : decode cL_law 1416 = .ok (.iconst 1, 1) := dg59_dL_law.2.2.2.2.2.2.2.2.2.2.2.2.2.1
theorem dL_law_1417 : decode cL_law 1417 = .ok (.iadd, 1) := dg59_dL_law.2.2.2.2.2.2.2.2.2.2.2.2.2.2.1
theorem dL_law_1418 : decode cL_law 1418 = .ok (.iaload, 1) := dg59_dL_law.2.2.2.2.2.2.2.2.2.2.2.2.2.2.2.1
theorem dL_law_1419 : decode cL_law 1419 = .ok (.aload_n 0, 1) := dg59_dL_law.2.2.2.2.2.2.2.2.2.2.2.2.2.2.2.2.1
theorem dL_law_1420 : decode cL_law 1420 = .ok (.iload 4, 2) := dg59_dL_law.2.2.2.2.2.2.2.2.2.2.2.2.2.2.2.2.2.1
theorem dL_law_1422 : decode cL_law 1422 = .ok (.iconst 2, 1) := dg59_dL_law.2.2.2.2.2.2.2.2.2.2.2.2.2.2.2.2.2.2.1
theorem dL_law_1423 : decode cL_law 1423 = .ok (.iadd, 1) := dg59_dL_law.2.2.2.2.2.2.2.2.2.2.2.2.2.2.2.2.2.2.2.1
theorem dL_law_1424 : decode cL_law 1424 = .ok (.iaload, 1) := dg59_dL_law.2.2.2.2.2.2.2.2.2.2.2.2.2.2.2.2.2.2.2.2.1
theorem dL_law_1425 : decode cL_law 1425 = .ok (.aload_n 0, 1) := dg59_dL_law.2.2.2.2.2.2.2.2.2.2.2.2.2.2.2.2.2.2.2.2.2.1
theorem dL_law_1426 : decode cL_law 1426 = .ok (.iload 4, 2) := dg59_dL_law.2.2.2.2.2.2.2.2.2.2.2.2.2.2.2.2.2.2.2.2.2.2.1
theorem dL_law_1428 : decode cL_law 1428 = .ok (.iconst 3, 1) := dg59_dL_law.2.2.2.2.2.2.2.2.2.2.2.2.2.2.2.2.2.2.2.2.2.2.2.1
theorem dL_law_1429 : decode cL_law 1429 = .ok (.iadd, 1) := dg59_dL_law.2.2.2.2.2.2.2.2.2.2.2.2.2.2.2.2.2.2.2.2.2.2.2.2.1
theorem dL_law_1430 : decode cL_law 1430 = .ok (.iaload, 1) := dg59_dL_law.2.2.2.2.2.2.2.2.2.2.2.2.2.2.2.2.2.2.2.2.2.2.2.2.2.1
theorem dL_law_1431 : decode cL_law 1431 = .ok (.invokevirtual 192, 3) := dg59_dL_law.2.2.2.2.2.2.2.2.2.2.2.2.2.2.2.2.2.2.2.2.2.2.2.2.2.2.1
theorem dL_law_1434 : decode cL_law 1434 = .ok (.istore 6, 2) := dg59_dL_law.2.2.2.2.2.2.2.2.2.2.2.2.2.2.2.2.2.2.2.2.2.2.2.2.2.2.2.1
theorem dL_law_1436 : decode cL_law 1436 = .ok (.aload_n 2, 1) := dg59_dL_law.2.2.2.2.2.2.2.2.2.2.2.2.2.2.2.2.2.2.2.2.2.2.2.2.2.2.2.2.1
theorem dL_law_1437 : decode cL_law 1437 = .ok (.invokevirtual 128, 3) := dg59_dL_law.2.2.2.2.2.2.2.2.2.2.2.2.2.2.2.2.2.2.2.2.2.2.2.2.2.2.2.2.2.1
theorem dg60_dL_law : Jvm.Free.DS.Facts cL_law 1440 [(.iload 5, 2), (.if_icmp .eq 5, 3), (.iconst 0, 1), (.ireturn, 1), (.iload 5, 2), (.ifCond .ne 15, 3), (.aload_n 3, 1), (.iconst 0, 1), (.laload, 1), (.iload 6, 2), (.i2l, 1), (.lcmp, 1), (.ifCond .eq 5, 3), (.iconst 0, 1), (.ireturn, 1), (.goto 964, 3), (.aload_n 1, 1), (.aload_n 0, 1), (.iload 4, 2), (.iconst 1, 1), (.iadd, 1), (.iaload, 1), (.aload_n 0, 1), (.iload 4, 2), (.iconst 2, 1), (.iadd, 1), (.iaload, 1), (.aload_n 3, 1), (.invokestatic 193, 3), (.istore 5, 2)] := Jvm.Free.DS.facts 1440 _ (by decide +kernel) (by decide +kernel)
theorem dL_law_1440 : decode cL_law 1440 = .ok (.iload 5, 2) := dg60_dL_law.1
theorem dL_law_1442 : decode cL_law 1442 = .ok (.if_icmp .eq 5, 3) := dg60_dL_law.2.1
theorem dL_law_1445 : decode cL_law 1445 = .ok (.iconst 0, 1) := dg60_dL_law.2.2.1
theorem dL_law_1446 : decode cL_law 1446 = .ok (.ireturn, 1) := dg60_dL_law.2.2.2.1
theorem dL_law_1447 : decode cL_law 1447 = .ok (.iload 5, 2) := dg60_dL_law.2.2.2.2.1
theorem dL_law_1449 : decode cL_law 1449 = .ok (.ifCond .ne 15, 3) := dg60_dL_law.2.2.2.2.2.1
theorem dL_law_1452 : decode cL_law 1452 = .ok (.aload_n 3, 1) := dg60_dL_law.2.2.2.2.2.2.1
theorem dL_law_1453 : decode cL_law 1453 = .ok (.iconst 0, 1) := dg60_dL_law.2.2.2.2.2.2.2.1
theorem dL_law_1454 : decode cL_law 1454 = .ok (.laload, 1) := dg60_dL_law.2.2.2.2.2.2.2.2.1
theorem dL_law_1455 : decode cL_law 1455 = .ok (.iload 6, 2) := dg60_dL_law.2.2.2.2.2.2.2.2.2.1
theorem dL_law_1457 : decode cL_law 1457 = .ok (.i2l, 1) := dg60_dL_law.2.2.2.2.2.2.2.2.2.2.1
theorem dL_law_1458 : decode cL_law 1458 = .ok (.lcmp, 1) := dg60_dL_law.2.2.2.2.2.2.2.2.2.2.2.1
theorem dL_law_1459 : decode cL_law 1459 = .ok (.ifCond .eq 5, 3) := dg60_dL_law.2.2.2.2.2.2.2.2.2.2.2.2.1
theorem dL_law_1462 : decode cL_law 1462 = .ok (.iconst 0, 1) := dg60_dL_law.2.2.2.2.2.2.2.2.2.2.2.2.2.1
theorem dL_law_1463 : decode cL_law 1463 = .ok (.ireturn, 1) := dg60_dL_law.2.2.2.2.2.2.2.2.2.2.2.2.2.2.1
theorem dL_law_1464 : decode cL_law 1464 = .ok (.goto 964, 3) := dg60_dL_law.2.2.2.2.2.2.2.2.2.2.2.2.2.2.2.1
theorem dL_law_1467 : decode cL_law 1467 = .ok (.aload_n 1, 1) := dg60_dL_law.2.2.2.2.2.2.2.2.2.2.2.2.2.2.2.2.1
theorem dL_law_1468 : decode cL_law 1468 = .ok (.aload_n 0, 1) := dg60_dL_law.2.2.2.2.2.2.2.2.2.2.2.2.2.2.2.2.2.1
theorem dL_law_1469 : decode cL_law 1469 = .ok (.iload 4, 2) := dg60_dL_law.2.2.2.2.2.2.2.2.2.2.2.2.2.2.2.2.2.2.1
theorem dL_law_1471 : decode cL_law 1471 = .ok (.iconst 1, 1) := dg60_dL_law.2.2.2.2.2.2.2.2.2.2.2.2.2.2.2.2.2.2.2.1
theorem dL_law_1472 : decode cL_law 1472 = .ok (.iadd, 1) := dg60_dL_law.2.2.2.2.2.2.2.2.2.2.2.2.2.2.2.2.2.2.2.2.1
theorem dL_law_1473 : decode cL_law 1473 = .ok (.iaload, 1) := dg60_dL_law.2.2.2.2.2.2.2.2.2.2.2.2.2.2.2.2.2.2.2.2.2.1
theorem dL_law_1474 : decode cL_law 1474 = .ok (.aload_n 0, 1) := dg60_dL_law.2.2.2.2.2.2.2.2.2.2.2.2.2.2.2.2.2.2.2.2.2.2.1
theorem dL_law_1475 : decode cL_law 1475 = .ok (.iload 4, 2) := dg60_dL_law.2.2.2.2.2.2.2.2.2.2.2.2.2.2.2.2.2.2.2.2.2.2.2.1
theorem dL_law_1477 : decode cL_law 1477 = .ok (.iconst 2, 1) := dg60_dL_law.2.2.2.2.2.2.2.2.2.2.2.2.2.2.2.2.2.2.2.2.2.2.2.2.1
theorem dL_law_1478 : decode cL_law 1478 = .ok (.iadd, 1) := dg60_dL_law.2.2.2.2.2.2.2.2.2.2.2.2.2.2.2.2.2.2.2.2.2.2.2.2.2.1
theorem dL_law_1479 : decode cL_law 1479 = .ok (.iaload, 1) := dg60_dL_law.2.2.2.2.2.2.2.2.2.2.2.2.2.2.2.2.2.2.2.2.2.2.2.2.2.2.1
theorem dL_law_1480 : decode cL_law 1480 = .ok (.aload_n 3, 1) := dg60_dL_law.2.2.2.2.2.2.2.2.2.2.2.2.2.2.2.2.2.2.2.2.2.2.2.2.2.2.2.1
theorem dL_law_1481 : decode cL_law 1481 = .ok (.invokestatic 193, 3) := dg60_dL_law.2.2.2.2.2.2.2.2.2.2.2.2.2.2.2.2.2.2.2.2.2.2.2.2.2.2.2.2.1
theorem dL_law_1484 : decode cL_law 1484 = .ok (.istore 5, 2) := dg60_dL_law.2.2.2.2.2.2.2.2.2.2.2.2.2.2.2.2.2.2.2.2.2.2.2.2.2.2.2.2.2.1
theorem dg61_dL_law : Jvm.Free.DS.Facts cL_law 1486 [(.aload_n 2, 1), (.aload_n 0, 1), (.iload 4, 2), (.iconst 1, 1), (.iadd, 1), (.iaload, 1), (.aload_n 0, 1), (.iload 4, 2), (.iconst 2, 1), (.iadd, 1), (.iaload, 1), (.invokevirtual 195, 3), (.istore 6, 2), (.aload_n 2, 1), (.invokevirtual 128, 3), (.iload 5, 2), (.if_icmp .eq 5, 3), (.iconst 0, 1), (.ireturn, 1), (.iload 5, 2), (.ifCond .ne 15, 3), (.aload_n 3, 1), (.iconst 0, 1), (.laload, 1), (.iload 6, 2), (.i2l, 1), (.lcmp, 1), (.ifCond .eq 5, 3), (.iconst 0, 1), (.ireturn, 1)] := Jvm.Free.DS.facts 1486 _ (by decide +kernel) (by decide +kernel)
theorem dL_law_1486 : decode cL_law 1486 = .ok (.aload_n 2, 1) := dg61_dL_law.1
theorem dL_law_1487 : decode cL_law 1487 = .ok (.aload_n 0, 1) := dg61_dL_law.2.1
theorem dL_law_1488 : decode cL_law 1488 = .ok (.iload 4, 2) := dg61_dL_law.2.2.1
theorem dL_law_1490 : decode cL_law 1490 = .ok (.iconst 1, 1) := dg61_dL_law.2.2.2.1
theorem dL_law_1491 : decode cL_law 1491 = .ok (.iadd, 1) := dg61_dL_law.2.2.2.2.1
theorem dL_law_1492 : decode cL_law 1492 = .ok (.iaload, 1) := dg61_dL_law.2.2.2.2.2.1
theorem dL_law_1493 : decode cL_law 1493 = .ok (.aload_n 0, 1) := dg61_dL_law.2.2.2.2.2.2.1
theorem dL_law_1494 : decode cL_law 1494 = .ok (.iload 4, 2) := dg61_dL_law.2.2.2.2.2.2.2.1
theorem dL_law_1496 : decode cL_law 1496 = .ok (.iconst 2, 1) := dg61_dL_law.2.2.2.2.2.2.2.2.1
theorem dL_law_1497 : decode cL_law 1497 = .ok (.iadd, 1) := dg61_dL_law.2.2.2.2.2.2.2.2.2.1
theorem dL_law_1498 : decode cL_law 1498 = .ok (.iaload, 1) := dg61_dL_law.2.2.2.2.2.2.2.2.2.2.1
theorem dL_law_1499 : decode cL_law 1499 = .ok (.invokevirtual 195, 3) := dg61_dL_law.2.2.2.2.2.2.2.2.2.2.2.1
theorem dL_law_1502 : decode cL_law 1502 = .ok (.istore 6, 2) := dg61_dL_law.2.2.2.2.2.2.2.2.2.2.2.2.1
theorem dL_law_1504 : decode cL_law 1504 = .ok (.aload_n 2, 1) := dg61_dL_law.2.2.2.2.2.2.2.2.2.2.2.2.2.1
theorem dL_law_1505 : decode cL_law 1505 = .ok (.invokevirtual 128, 3) := dg61_dL_law.2.2.2.2.2.2.2.2.2.2.2.2.2.2.1
theorem dL_law_1508 : decode cL_law 1508 = .ok (.iload 5, 2) := dg61_dL_law.2.2.2.2.2.2.2.2.2.2.2.2.2.2.2.1
theorem dL_law_1510 : decode cL_law 1510 = .ok (.if_icmp .eq 5, 3) := dg61_dL_law.2.2.2.2.2.2.2.2.2.2.2.2.2.2.2.2.1
theorem dL_law_1513 : decode cL_law 1513 = .ok (.iconst 0, 1) := dg61_dL_law.2.2.2.2.2.2.2.2.2.2.2.2.2.2.2.2.2.1
theorem dL_law_1514 : decode cL_law 1514 = .ok (.ireturn, 1) := dg61_dL_law.2.2.2.2.2.2.2.2.2.2.2.2.2.2.2.2.2.2.1
theorem dL_law_1515 : decode cL_law 1515 = .ok (.iload 5, 2) := dg61_dL_law.2.2.2.2.2.2.2.2.2.2.2.2.2.2.2.2.2.2.2.1
theorem dL_law_1517 : decode cL_law 1517 = .ok (.ifCond .ne 15, 3) := dg61_dL_law.2.2.2.2.2.2.2.2.2.2.2.2.2.2.2.2.2.2.2.2.1
theorem dL_law_1520 : decode cL_law 1520 = .ok (.aload_n 3, 1) := dg61_dL_law.2.2.2.2.2.2.2.2.2.2.2.2.2.2.2.2.2.2.2.2.2.1
theorem dL_law_1521 : decode cL_law 1521 = .ok (.iconst 0, 1) := dg61_dL_law.2.2.2.2.2.2.2.2.2.2.2.2.2.2.2.2.2.2.2.2.2.2.1
theorem dL_law_1522 : decode cL_law 1522 = .ok (.laload, 1) := dg61_dL_law.2.2.2.2.2.2.2.2.2.2.2.2.2.2.2.2.2.2.2.2.2.2.2.1
theorem dL_law_1523 : decode cL_law 1523 = .ok (.iload 6, 2) := dg61_dL_law.2.2.2.2.2.2.2.2.2.2.2.2.2.2.2.2.2.2.2.2.2.2.2.2.1
theorem dL_law_1525 : decode cL_law 1525 = .ok (.i2l, 1) := dg61_dL_law.2.2.2.2.2.2.2.2.2.2.2.2.2.2.2.2.2.2.2.2.2.2.2.2.2.1
theorem dL_law_1526 : decode cL_law 1526 = .ok (.lcmp, 1) := dg61_dL_law.2.2.2.2.2.2.2.2.2.2.2.2.2.2.2.2.2.2.2.2.2.2.2.2.2.2.1
theorem dL_law_1527 : decode cL_law 1527 = .ok (.ifCond .eq 5, 3) := dg61_dL_law.2.2.2.2.2.2.2.2.2.2.2.2.2.2.2.2.2.2.2.2.2.2.2.2.2.2.2.1
theorem dL_law_1530 : decode cL_law 1530 = .ok (.iconst 0, 1) := dg61_dL_law.2.2.2.2.2.2.2.2.2.2.2.2.2.2.2.2.2.2.2.2.2.2.2.2.2.2.2.2.1
theorem dL_law_1531 : decode cL_law 1531 = .ok (.ireturn, 1) := dg61_dL_law.2.2.2.2.2.2.2.2.2.2.2.2.2.2.2.2.2.2.2.2.2.2.2.2.2.2.2.2.2.1
theorem dg62_dL_law : Jvm.Free.DS.Facts cL_law 1532 [(.goto 896, 3), (.aload_n 1, 1), (.aload_n 0, 1), (.iload 4, 2), (.iconst 1, 1), (.iadd, 1), (.iaload, 1), (.aload_n 0, 1), (.iload 4, 2), (.iconst 2, 1), (.iadd, 1), (.iaload, 1), (.aload_n 3, 1), (.invokestatic 196, 3), (.istore 5, 2), (.aload_n 2, 1), (.aload_n 0, 1), (.iload 4, 2), (.iconst 1, 1), (.iadd, 1), (.iaload, 1), (.aload_n 0, 1), (.iload 4, 2), (.iconst 2, 1), (.iadd, 1), (.iaload, 1), (.invokevirtual 198, 3), (.istore 6, 2), (.aload_n 2, 1), (.invokevirtual 128, 3)] := Jvm.Free.DS.facts 1532 _ (by decide +kernel) (by decide +kernel)
theorem dL_law_1532 : decode cL_law 1532 = .ok (.goto 896, 3) := dg62_dL_law.1
theorem dL_law_1535 : decode cL_law 1535 = .ok (.aload_n 1, 1) := dg62_dL_law.2.1
theorem dL_law_1536 : decode cL_law 1536 = .ok (.aload_n 0, 1) := dg62_dL_law.2.2.1
theorem dL_law_1537 : decode cL_law 1537 = .ok (.iload 4, 2) := dg62_dL_law.2.2.2.1
theorem dL_law_1539 : decode cL_law 1539 = .ok (.iconst 1, 1) := dg62_dL_law.2.2.2.2.1
theorem dL_law_1540 : decode cL_law 1540 = .ok (.iadd, 1) := dg62_dL_law.2.2.2.2.2.1
theorem dL_law_1541 : decode cL_law 1541 = .ok (.iaload, 1) := dg62_dL_law.2.2.2.2.2.2.1
theorem dL_law_1542 : decode cL_law 1542 = .ok (.aload_n 0, 1) := dg62_dL_law.2.2.2.2.2.2.2.1
theorem dL_law_1543 : decode cL_law 1543 = .ok (.iload 4, 2) := dg62_dL_law.2.2.2.2.2.2.2.2.1
theorem dL_law_1545 : decode cL_law 1545 = .ok (.iconst 2, 1) := dg62_dL_law.2.2.2.2.2.2.2.2.2.1
theorem dL_law_1546 : decode cL_law 1546 = .ok (.iadd, 1) := dg62_dL_law.2.2.2.2.2.2.2.2.2.2.1
theorem dL_law_1547 : decode cL_law 1547 = .ok (.iaload, 1) := dg62_dL_law.2.2.2.2.2.2.2.2.2.2.2.1
theorem dL_law_1548 : decode cL_law 1548 = .ok (.aload_n 3, 1) := dg62_dL_law.2.2.2.2.2.2.2.2.2.2.2.2.1
theorem dL_law_1549 : decode cL_law 1549 = .ok (.invokestatic 196, 3) := dg62_dL_law.2.2.2.2.2.2.2.2.2.2.2.2.2.1
theorem dL_law_1552 : decode cL_law 1552 = .ok (.istore 5, 2) := dg62_dL_law.2.2.2.2.2.2.2.2.2.2.2.2.2.2.1
theorem dL_law_1554 : decode cL_law 1554 = .ok (.aload_n 2, 1) := dg62_dL_law.2.2.2.2.2.2.2.2.2.2.2.2.2.2.2.1
theorem dL_law_1555 : decode cL_law 1555 = .ok (.aload_n 0, 1) := dg62_dL_law.2.2.2.2.2.2.2.2.2.2.2.2.2.2.2.2.1
theorem dL_law_1556 : decode cL_law 1556 = .ok (.iload 4, 2) := dg62_dL_law.2.2.2.2.2.2.2.2.2.2.2.2.2.2.2.2.2.1
theorem dL_law_1558 : decode cL_law 1558 = .ok (.iconst 1, 1) := dg62_dL_law.2.2.2.2.2.2.2.2.2.2.2.2.2.2.2.2.2.2.1
theorem dL_law_1559 : decode cL_law 1559 = .ok (.iadd, 1) := dg62_dL_law.2.2.2.2.2.2.2.2.2.2.2.2.2.2.2.2.2.2.2.1
theorem dL_law_1560 : decode cL_law 1560 = .ok (.iaload, 1) := dg62_dL_law.2.2.2.2.2.2.2.2.2.2.2.2.2.2.2.2.2.2.2.2.1
theorem dL_law_1561 : decode cL_law 1561 = .ok (.aload_n 0, 1) := dg62_dL_law.2.2.2.2.2.2.2.2.2.2.2.2.2.2.2.2.2.2.2.2.2.1
theorem dL_law_1562 : decode cL_law 1562 = .ok (.iload 4, 2) := dg62_dL_law.2.2.2.2.2.2.2.2.2.2.2.2.2.2.2.2.2.2.2.2.2.2.1
theorem dL_law_1564 : decode cL_law 1564 = .ok (.iconst 2, 1) := dg62_dL_law.2.2.2.2.2.2.2.2.2.2.2.2.2.2.2.2.2.2.2.2.2.2.2.1
theorem dL_law_1565 : decode cL_law 1565 = .ok (.iadd, 1) := dg62_dL_law.2.2.2.2.2.2.2.2.2.2.2.2.2.2.2.2.2.2.2.2.2.2.2.2.1
theorem dL_law_1566 : decode cL_law 1566 = .ok (.iaload, 1) := dg62_dL_law.2.2.2.2.2.2.2.2.2.2.2.2.2.2.2.2.2.2.2.2.2.2.2.2.2.1
theorem dL_law_1567 : decode cL_law 1567 = .ok (.invokevirtual 198, 3) := dg62_dL_law.2.2.2.2.2.2.2.2.2.2.2.2.2.2.2.2.2.2.2.2.2.2.2.2.2.2.1
theorem dL_law_1570 : decode cL_law 1570 = .ok (.istore 6, 2) := dg62_dL_law.2.2.2.2.2.2.2.2.2.2.2.2.2.2.2.2.2.2.2.2.2.2.2.2.2.2.2.1
theorem dL_law_1572 : decode cL_law 1572 = .ok (.aload_n 2, 1) := dg62_dL_law.2.2.2.2.2.2.2.2.2.2.2.2.2.2.2.2.2.2.2.2.2.2.2.2.2.2.2.2.1
theorem dL_law_1573 : decode cL_law 1573 = .ok (.invokevirtual 128, 3) := dg62_dL_law.2.2.2.2.2.2.2.2.2.2.2.2.2.2.2.2.2.2.2.2.2.2.2.2.2.2.2.2.2.1
theorem dg63_dL_law : Jvm.Free.DS.Facts cL_law 1576 [(.iload 5, 2), (.if_icmp .eq 5, 3), (.iconst 0, 1), (.ireturn, 1), (.iload 5, 2), (.ifCond .ne 15, 3), (.aload_n 3, 1), (.iconst 0, 1), (.laload, 1), (.iload 6, 2), (.i2l, 1), (.lcmp, 1), (.ifCond .eq 5, 3), (.iconst 0, 1), (.ireturn, 1), (.goto 828, 3), (.aload_n 1, 1), (.aload_n 0, 1), (.iload 4, 2), (.iconst 1, 1), (.iadd, 1), (.iaload, 1), (.aload_n 0, 1), (.iload 4, 2), (.iconst 2, 1), (.iadd, 1), (.iaload, 1), (.aload_n 3, 1), (.invokestatic 199, 3), (.istore 5, 2)] := Jvm.Free.DS.facts 1576 _ (by decide +kernel) (by decide +kernel)
theorem dL_law_1576 : decode cL_law 1576 = .ok (.iload 5, 2) := dg63_dL_law.1
theorem dL_law_1578 : decode cL_law 1578 = .ok (.if_icmp .eq 5, 3) := dg63_dL_law.2.1
theorem dL_law_1581 : decode cL_law 1581 = .ok (.iconst 0, 1) := dg63_dL_law.2.2.1
theorem dL_law_1582 : decode cL_law 1582 = .ok (.ireturn, 1) := dg63_dL_law.2.2.2.1
theorem dL_law_1583 : decode cL_law 1583 = .ok (.iload 5, 2) := dg63_dL_law.2.2.2.2.1
theorem dL_law_1585 : decode cL_law 1585 = .ok (.ifCond .ne 15, 3) := dg63_dL_law.2.2.2.2.2.1
theorem dL_law_1588 : decode cL_law 1588 = .ok (.aload_n 3, 1) := dg63_dL_law.2.2.2.2.2.2.1
theorem dL_law_1589 : decode cL_law 1589 = .ok (.iconst 0, 1) := dg63_dL_law.2.2.2.2.2.2.2.1
theorem dL_law_1590 : decode cL_law 1590 = .ok (.laload, 1) := dg63_dL_law.2.2.2.2.2.2.2.2.1
theorem dL_law_1591 : decode cL_law 1591 = .ok (.iload 6, 2) := dg63_dL_law.2.2.2.2.2.2.2.2.2.1
theorem dL_law_1593 : decode cL_law 1593 = .ok (.i2l, 1) := dg63_dL_law.2.2.2.2.2.2.2.2.2.2.1
theorem dL_law_1594 : decode cL_law 1594 = .ok (.lcmp, 1) := dg63_dL_law.2.2.2.2.2.2.2.2.2.2.2.1
theorem dL_law_1595 : decode cL_law 1595 = .ok (.ifCond .eq 5, 3) := dg63_dL_law.2.2.2.2.2.2.2.2.2.2.2.2.1
theorem dL_law_1598 : decode cL_law 1598 = .ok (.iconst 0, 1) := dg63_dL_law.2.2.2.2.2.2.2.2.2.2.2.2.2.1
theorem dL_law_1599 : decode cL_law 1599 = .ok (.ireturn, 1) := dg63_dL_law.2.2.2.2.2.2.2.2.2.2.2.2.2.2.1
theorem dL_law_1600 : decode cL_law 1600 = .ok (.goto 828, 3) := dg63_dL_law.2.2.2.2.2.2.2.2.2.2.2.2.2.2.2.1
theorem dL_law_1603 : decode cL_law 1603 = .ok (.aload_n 1, 1) := dg63_dL_law.2.2.2.2.2.2.2.2.2.2.2.2.2.2.2.2.1
theorem dL_law_1604 : decode cL_law 1604 = .ok (.aload_n 0, 1) := dg63_dL_law.2.2.2.2.2.2.2.2.2.2.2.2.2.2.2.2.2.1
theorem dL_law_1605 : decode cL_law 1605 = .ok (.iload 4, 2) := dg63_dL_law.2.2.2.2.2.2.2.2.2.2.2.2.2.2.2.2.2.2.1
theorem dL_law_1607 : decode cL_law 1607 = .ok (.iconst 1, 1) := dg63_dL_law.2.2.2.2.2.2.2.2.2.2.2.2.2.2.2.2.2.2.2.1
theorem dL_law_1608 : decode cL_law 1608 = .ok (.iadd, 1) := dg63_dL_law.2.2.2.2.2.2.2.2.2.2.2.2.2.2.2.2.2.2.2.2.1
theorem dL_law_1609 : decode cL_law 1609 = .ok (.iaload, 1) := dg63_dL_law.2.2.2.2.2.2.2.2.2.2.2.2.2.2.2.2.2.2.2.2.2.1
theorem dL_law_1610 : decode cL_law 1610 = .ok (.aload_n 0, 1) := dg63_dL_law.2.2.2.2.2.2.2.2.2.2.2.2.2.2.2.2.2.2.2.2.2.2.1
theorem dL_law_1611 : decode cL_law 1611 = .ok (.iload 4, 2) := dg63_dL_law.2.2.2.2.2.2.2.2.2.2.2.2.2.2.2.2.2.2.2.2.2.2.2.1
theorem dL_law_1613 : decode cL_law 1613 = .ok (.iconst 2, 1) := dg63_dL_law.2.2.2.2.2.2.2.2.2.2.2.2.2.2.2.2.2.2.2.2.2.2.2.2.1
theorem dL_law_1614 : decode cL_law 1614 = .ok (.iadd, 1) := dg63_dL_law.2.2.2.2.2.2.2.2.2.2.2.2.2.2.2.2.2.2.2.2.2.2.2.2.2.1
theorem dL_law_1615 : decode cL_law 1615 = .ok (.iaload, 1) := dg63_dL_law.2.2.2.2.2.2.2.2.2.2.2.2.2.2.2.2.2.2.2.2.2.2.2.2.2.2.1
theorem dL_law_1616 : decode cL_law 1616 = .ok (.aload_n 3, 1) := dg63_dL_law.2.2.2.2.2.2.2.2.2.2.2.2.2.2.2.2.2.2.2.2.2.2.2.2.2.2.2.1
theorem dL_law_1617 : decode cL_law 1617 = .ok (.invokestatic 199, 3) := dg63_dL_law.2.2.2.2.2.2.2.2.2.2.2.2.2.2.2.2.2.2.2.2.2.2.2.2.2.2.2.2.1
theorem dL_law_1620 : decode cL_law 1620 = .ok (.istore 5, 2) := dg63_dL_law.2.2.2.2.2.2.2.2.2.2.2.2.2.2.2.2.2.2.2.2.2.2.2.2.2.2.2.2.2.1
theorem dg64_dL_law : Jvm.Free.DS.Facts cL_law 1622 [(.aload_n 2, 1), (.aload_n 0, 1), (.iload 4, 2), (.iconst 1, 1), (.iadd, 1), (.iaload, 1), (.aload_n 0, 1), (.iload 4, 2), (.iconst 2, 1), (.iadd, 1), (.iaload, 1), (.invokevirtual 201, 3), (.istore 6, 2), (.aload_n 2, 1), (.invokevirtual 128, 3), (.iload 5, 2), (.if_icmp .eq 5, 3), (.iconst 0, 1), (.ireturn, 1), (.iload 5, 2), (.ifCond .ne 15, 3), (.aload_n 3, 1), (.iconst 0, 1), (.laload, 1), (.iload 6, 2), (.i2l, 1), (.lcmp, 1), (.ifCond .eq 5, 3), (.iconst 0, 1), (.ireturn, 1)] := Jvm.Free.DS.facts 1622 _ (by decide +kernel) (by decide +kernel)
theorem dL_law_1622 : decode cL_law 1622 = .ok (.aload_n 2, 1) := dg64_dL_law.1
theorem dL_law_1623 : decode cL_law 1623 = .ok (.aload_n 0, 1) := dg64_dL_law.2.1
theorem dL_law_1624 : decode cL_law 1624 = .ok (.iload 4, 2) := dg64_dL_law.2.2.1
theorem dL_law_1626 : decode cL_law 1626 = .ok (.iconst 1, 1) := dg64_dL_law.2.2.2.1
theorem dL_law_1627 : decode cL_law 1627 = .ok (.iadd, 1) := dg64_dL_law.2.2.2.2.1
theorem dL_law_1628 : decode cL_law 1628 = .ok (.iaload, 1) := dg64_dL_law.2.2.2.2.2.1
theorem dL_law_1629 : decode cL_law 1629 = .ok (.aload_n 0, 1) := dg64_dL_law.2.2.2.2.2.2.1
theorem dL_law_1630 : decode cL_law 1630 = .ok (.iload 4, 2) := dg64_dL_law.2.2.2.2.2.2.2.1
theorem dL_law_1632 : decode cL_law 1632 = .ok (.iconst 2, 1) := dg64_dL_law.2.2.2.2.2.2.2.2.1
theorem dL_law_1633 : decode cL_law 1633 = .ok (.iadd, 1) := dg64_dL_law.2.2.2.2.2.2.2.2.2.1
theorem dL_law_1634 : decode cL_law 1634 = .ok (.iaload, 1) := dg64_dL_law.2.2.2.2.2.2.2.2.2.2.1
theorem dL_law_1635 : decode cL_law 1635 = .ok (.invokevirtual 201, 3) := dg64_dL_law.2.2.2.2.2.2.2.2.2.2.2.1
theorem dL_law_1638 : decode cL_law 1638 = .ok (.istore 6, 2) := dg64_dL_law.2.2.2.2.2.2.2.2.2.2.2.2.1
theorem dL_law_1640 : decode cL_law 1640 = .ok (.aload_n 2, 1) := dg64_dL_law.2.2.2.2.2.2.2.2.2.2.2.2.2.1
theorem dL_law_1641 : decode cL_law 1641 = .ok (.invokevirtual 128, 3) := dg64_dL_law.2.2.2.2.2.2.2.2.2.2.2.2.2.2.1
theorem dL_law_1644 : decode cL_law 1644 = .ok (.iload 5, 2) := dg64_dL_law.2.2.2.2.2.2.2.2.2.2.2.2.2.2.2.1
theorem dL_law_1646 : decode cL_law 1646 = .ok (.if_icmp .eq 5, 3) := dg64_dL_law.2.2.2.2.2.2.2.2.2.2.2.2.2.2.2.2.1
theorem dL_law_1649 : decode cL_law 1649 = .ok (.iconst 0, 1) := dg64_dL_law.2.2.2.2.2.2.2.2.2.2.2.2.2.2.2.2.2.1
theorem dL_law_1650 : decode cL_law 1650 = .ok (.ireturn, 1) := dg64_dL_law.2.2.2.2.2.2.2.2.2.2.2.2.2.2.2.2.2.2.1
theorem dL_law_1651 : decode cL_law 1651 = .ok (.iload 5, 2) := dg64_dL_law.2.2.2.2.2.2.2.2.2.2.2.2.2.2.2.2.2.2.2.1
theorem dL_law_1653 : decode cL_law 1653 = .ok (.ifCond .ne 15, 3) := dg64_dL_law.2.2.2.2.2.2.2.2.2.2.2.2.2.2.2.2.2.2.2.2.1
theorem dL_law_1656 : decode cL_law 1656 = .ok (.aload_n 3, 1) := dg64_dL_law.2.2.2.2.2.2.2.2.2.2.2.2.2.2.2.2.2.2.2.2.2.1
theorem dL_law_1657 : decode cL_law 1657 = .ok (.iconst 0, 1) := dg64_dL_law.2.2.2.2.2.2.2.2.2.2.2.2.2.2.2.2.2.2.2.2.2.2.1
theorem dL_law_1658 : decode cL_law 1658 = .ok (.laload, 1) := dg64_dL_law.2.2.2.2.2.2.2.2.2.2.2.2.2.2.2.2.2.2.2.2.2.2.2.1
theorem dL_law_1659 : decode cL_law 1659 = .ok (.iload 6, 2) := dg64_dL_law.2.2.2.2.2.2.2.2.2.2.2.2.2.2.2.2.2.2.2.2.2.2.2.2.1
theorem dL_law_1661 : decode cL_law 1661 = .ok (.i2l, 1) := dg64_dL_law.2.2.2.2.2.2.2.2.2.2.2.2.2.2.2.2.2.2.2.2.2.2.2.2.2.1
theorem dL_law_1662 : decode cL_law 1662 = .ok (.lcmp, 1) := dg64_dL_law.2.2.2.2.2.2.2.2.2.2.2.2.2.2.2.2.2.2.2.2.2.2.2.2.2.2.1
theorem dL_law_1663 : decode cL_law 1663 = .ok (.ifCond .eq 5, 3) := dg64_dL_law.2.2.2.2.2.2.2.2.2.2.2.2.2.2.2.2.2.2.2.2.2.2.2.2.2.2.2.1
theorem dL_law_1666 : decode cL_law 1666 = .ok (.iconst 0, 1) := dg64_dL_law.2.2.2.2.2.2.2.2.2.2.2.2.2.2.2.2.2.2.2.2.2.2.2.2.2.2.2.2.1
theorem dL_law_1667 : decode cL_law 1667 = .ok (.ireturn, 1) := dg64_dL_law.2.2.2.2.2.2.2.2.2.2.2.2.2.2.2.2.2.2.2.2.2.2.2.2.2.2.2.2.2.1
theorem dg65_dL_law : Jvm.Free.DS.Facts cL_law 1668 [(.goto 760, 3), (.aload_n 1, 1), (.aload_n 0, 1), (.iload 4, 2), (.iconst 1, 1), (.iadd, 1), (.iaload, 1), (.aload_n 3, 1), (.invokestatic 202, 3), (.istore 5, 2), (.aload_n 2, 1), (.aload_n 0, 1), (.iload 4, 2), (.iconst 1, 1), (.iadd, 1), (.iaload, 1), (.invokevirtual 204, 3), (.istore 6, 2), (.aload_n 2, 1), (.invokevirtual 128, 3), (.iload 5, 2), (.if_icmp .eq 5, 3), (.iconst 0, 1), (.ireturn, 1), (.iload 5, 2), (.ifCond .ne 15, 3), (.aload_n 3, 1), (.iconst 0, 1), (.laload, 1), (.iload 6, 2)] := Jvm.Free.DS.facts 1668 _ (by decide +kernel) (by decide +kernel)
theorem dL_law_1668 : decode cL_law 1668 = .ok (.goto 760, 3) := dg65_dL_law.1
theorem dL_law_1671 : decode cL_law 1671 = .ok (.aload_n 1, 1) := dg65_dL_law.2.1
theorem dL_law_1672 : decode cL_law 1672 = .ok (.aload_n 0, 1) := dg65_dL_law.2.2.1
theorem dL_law_1673 : decode cL_law 1673 = .ok (.iload 4, 2) := dg65_dL_law.2.2.2.1
theorem dL_law_1675 : decode cL_law 1675 = .ok (.iconst 1, 1) := dg65_dL_law.2.2.2.2.1
theorem dL_law_1676 : decode cL_law 1676 = .ok (.iadd, 1) := dg65_dL_law.2.2.2.2.2.1
theorem dL_law_1677 : decode cL_law 1677 = .ok (.iaload, 1) := dg65_dL_law.2.2.2.2.2.2.1
theorem dL_law_1678 : decode cL_law 1678 = .ok (.aload_n 3, 1) := dg65_dL_law.2.2.2.2.2.2.2.1
theorem dL_law_1679 : decode cL_law 1679 = .ok (.invokestatic 202, 3) := dg65_dL_law.2.2.2.2.2.2.2.2.1
theorem dL_law_1682 : decode cL_law 1682 = .ok (.istore 5, 2) := dg65_dL_law.2.2.2.2.2.2.2.2.2.1
theorem dL_law_1684 : decode cL_law 1684 = .ok (.aload_n 2, 1) := dg65_dL_law.2.2.2.2.2.2.2.2.2.2.1
theorem dL_law_1685 : decode cL_law 1685 = .ok (.aload_n 0, 1) := dg65_dL_law.2.2.2.2.2.2.2.2.2.2.2.1
theorem dL_law_1686 : decode cL_law 1686 = .ok (.iload 4, 2) := dg65_dL_law.2.2.2.2.2.2.2.2.2.2.2.2.1
theorem dL_law_1688 : decode cL_law 1688 = .ok (.iconst 1, 1) := dg65_dL_law.2.2.2.2.2.2.2.2.2.2.2.2.2.1
theorem dL_law_1689 : decode cL_law 1689 = .ok (.iadd, 1) := dg65_dL_law.2.2.2.2.2.2.2.2.2.2.2.2.2.2.1
theorem dL_law_1690 : decode cL_law 1690 = .ok (.iaload, 1) := dg65_dL_law.2.2.2.2.2.2.2.2.2.2.2.2.2.2.2.1
theorem dL_law_1691 : decode cL_law 1691 = .ok (.invokevirtual 204, 3) := dg65_dL_law.2.2.2.2.2.2.2.2.2.2.2.2.2.2.2.2.1
theorem dL_law_1694 : decode cL_law 1694 = .ok (.istore 6, 2) := dg65_dL_law.2.2.2.2.2.2.2.2.2.2.2.2.2.2.2.2.2.1
theorem dL_law_1696 : decode cL_law 1696 = .ok (.aload_n 2, 1) := dg65_dL_law.2.2.2.2.2.2.2.2.2.2.2.2.2.2.2.2.2.2.1
theorem dL_law_1697 : decode cL_law 1697 = .ok (.invokevirtual 128, 3) := dg65_dL_law.2.2.2.2.2.2.2.2.2.2.2.2.2.2.2.2.2.2.2.1
theorem dL_law_1700 : decode cL_law 1700 = .ok (.iload 5, 2) := dg65_dL_law.2.2.2.2.2.2.2.2.2.2.2.2.2.2.2.2.2.2.2.2.1
theorem dL_law_1702 : decode cL_law 1702 = .ok (.if_icmp .eq 5, 3) := dg65_dL_law.2.2.2.2.2.2.2.2.2.2.2.2.2.2.2.2.2.2.2.2.2.1
theorem dL_law_1705 : decode cL_law 1705 = .ok (.iconst 0, 1) := dg65_dL_law.2.2.2.2.2.2.2.2.2.2.2.2.2.2.2.2.2.2.2.2.2.2.1
theorem dL_law_1706 : decode cL_law 1706 = .ok (.ireturn, 1) := dg65_dL_law.2.2.2.2.2.2.2.2.2.2.2.2.2.2.2.2.2.2.2.2.2.2.2.1
theorem dL_law_1707 : decode cL_law 1707 = .ok (.iload 5, 2) := dg65_dL_law.2.2.2.2.2.2.2.2.2.2.2.2.2.2.2.2.2.2.2.2.2.2.2.2.1
theorem dL_law_1709 : decode cL_law 1709 = .ok (.ifCond .ne 15, 3) := dg65_dL_law.2.2.2.2.2.2.2.2.2.2.2.2.2.2.2.2.2.2.2.2.2.2.2.2.2.1
theorem dL_law_1712 : decode cL_law 1712 = .ok (.aload_n 3, 1) := dg65_dL_law.2.2.2.2.2.2.2.2.2.2.2.2.2.2.2.2.2.2.2.2.2.2.2.2.2.2.1
theorem dL_law_1713 : decode cL_law 1713 = .ok (.iconst 0, 1) := dg65_dL_law.2.2.2.2.2.2.2.2.2.2.2.2.2.2.2.2.2.2.2.2.2.2.2.2.2.2.2.1
theorem dL_law_1714 : decode cL_law 1714 = .ok (.laload, 1) := dg65_dL_law.2.2.2.2.2.2.2.2.2.2.2.2.2.2.2.2.2.2.2.2.2.2.2.2.2.2.2.2.1
theorem dL_law_1715 : decode cL_law 1715 = .ok (.iload 6, 2) := dg65_dL_law.2.2.2.2.2.2.2.2.2.2.2.2.2.2.2.2.2.2.2.2.2.2.2.2.2.2.2.2.2.1
theorem dg66_dL_law : Jvm.Free.DS.Facts cL_law 1717 [(.i2l, 1), (.lcmp, 1), (.ifCond .eq 5, 3), (.iconst 0, 1), (.ireturn, 1), (.goto 704, 3), (.aload_n 1, 1), (.aload_n 0, 1), (.iload 4, 2), (.iconst 1, 1), (.iadd, 1), (.iaload, 1), (.invokevirtual 205, 3), (.aload_n 2, 1), (.aload_n 0, 1), (.iload 4, 2), (.iconst 1, 1), (.iadd, 1), (.iaload, 1), (.invokevirtual 208, 3), (.if_icmp .eq 681, 3), (.iconst 0, 1), (.ireturn, 1), (.aload_n 1, 1), (.aload_n 0, 1), (.iload 4, 2), (.iconst 1, 1), (.iadd, 1), (.iaload, 1), (.aload_n 0, 1)] := Jvm.Free.DS.facts 1717 _ (by decide +kernel) (by decide +kernel)
theorem dL_law_1717 : decode cL_law 1717 = .ok (.i2l, 1) := dg66_dL_law.1
theorem dL_law_1718 : decode cL_law 1718 = .ok (.lcmp, 1) := dg66_dL_law.2.1
theorem dL_law_1719 : decode cL_law 1719 = .ok (.ifCond .eq 5, 3) := dg66_dL_law.2.2.1
theorem dL_law_1722 : decode cL_law 1722 = .ok (.iconst 0, 1) := dg66_dL_law.2.2.2.1
theorem dL_law_1723 : decode cL_law 1723 = .ok (.ireturn, 1) := dg66_dL_law.2.2.2.2.1
theorem dL_law_1724 : decode cL_law 1724 = .ok (.goto 704, 3) := dg66_dL_law.2.2.2.2.2.1
theorem dL_law_1727 : decode cL_law 1727 = .ok (.aload_n 1, 1) := dg66_dL_law.2.2.2.2.2.2.1
theorem dL_law_1728 : decode cL_law 1728 = .ok (.aload_n 0, 1) := dg66_dL_law.2.2.2.2.2.2.2.1
theorem dL_law_1729 : decode cL_law 1729 = .ok (.iload 4, 2) := dg66_dL_law.2.2.2.2.2.2.2.2.1
theorem dL_law_1731 : decode cL_law 1731 = .ok (.iconst 1, 1) := dg66_dL_law.2.2.2.2.2.2.2.2.2.1
theorem dL_law_1732 : decode cL_law 1732 = .ok (.iadd, 1) := dg66_dL_law.2.2.2.2.2.2.2.2.2.2.1
theorem dL_law_1733 : decode cL_law 1733 = .ok (.iaload, 1) := dg66_dL_law.2.2.2.2.2.2.2.2.2.2.2.1
theorem dL_law_1734 : decode cL_law 1734 = .ok (.invokevirtual 205, 3) := dg66_dL_law.2.2.2.2.2.2.2.2.2.2.2.2.1
theorem dL_law_1737 : decode cL_law 1737 = .ok (.aload_n 2, 1) := dg66_dL_law.2.2.2.2.2.2.2.2.2.2.2.2.2.1
theorem dL_law_1738 : decode cL_law 1738 = .ok (.aload_n 0, 1) := dg66_dL_law.2.2.2.2.2.2.2.2.2.2.2.2.2.2.1
theorem dL_law_1739 : decode cL_law 1739 = .ok (.iload 4, 2) := dg66_dL_law.2.2.2.2.2.2.2.2.2.2.2.2.2.2.2.1
theorem dL_law_1741 : decode cL_law 1741 = .ok (.iconst 1, 1) := dg66_dL_law.2.2.2.2.2.2.2.2.2.2.2.2.2.2.2.2.1
theorem dL_law_1742 : decode cL_law 1742 = .ok (.iadd, 1) := dg66_dL_law.2.2.2.2.2.2.2.2.2.2.2.2.2.2.2.2.2.1
theorem dL_law_1743 : decode cL_law 1743 = .ok (.iaload, 1) := dg66_dL_law.2.2.2.2.2.2.2.2.2.2.2.2.2.2.2.2.2.2.1
theorem dL_law_1744 : decode cL_law 1744 = .ok (.invokevirtual 208, 3) := dg66_dL_law.2.2.2.2.2.2.2.2.2.2.2.2.2.2.2.2.2.2.2.1
theorem dL_law_1747 : decode cL_law 1747 = .ok (.if_icmp .eq 681, 3) := dg66_dL_law.2.2.2.2.2.2.2.2.2.2.2.2.2.2.2.2.2.2.2.2.1
theorem dL_law_1750 : decode cL_law 1750 = .ok (.iconst 0, 1) := dg66_dL_law.2.2.2.2.2.2.2.2.2.2.2.2.2.2.2.2.2.2.2.2.2.1
theorem dL_law_1751 : decode cL_law 1751 = .ok (.ireturn, 1) := dg66_dL_law.2.2.2.2.2.2.2.2.2.2.2.2.2.2.2.2.2.2.2.2.2.2.1
theorem dL_law_1752 : decode cL_law 1752 = .ok (.aload_n 1, 1) := dg66_dL_law.2.2.2.2.2.2.2.2.2.2.2.2.2.2.2.2.2.2.2.2.2.2.2.1
theorem dL_law_1753 : decode cL_law 1753 = .ok (.aload_n 0, 1) := dg66_dL_law.2.2.2.2.2.2.2.2.2.2.2.2.2.2.2.2.2.2.2.2.2.2.2.2.1
theorem dL_law_1754 : decode cL_law 1754 = .ok (.iload 4, 2) := dg66_dL_law.2.2.2.2.2.2.2.2.2.2.2.2.2.2.2.2.2.2.2.2.2.2.2.2.2.1
theorem dL_law_1756 : decode cL_law 1756 = .ok (.iconst 1, 1) := dg66_dL_law.2.2.2.2.2.2.2.2.2.2.2.2.2.2.2.2.2.2.2.2.2.2.2.2.2.2.1
theorem dL_law_1757 : decode cL_law 1757 = .ok (.iadd, 1) := dg66_dL_law.2.2.2.2.2.2.2.2.2.2.2.2.2.2.2.2.2.2.2.2.2.2.2.2.2.2.2.1
theorem dL_law_1758 : decode cL_law 1758 = .ok (.iaload, 1) := dg66_dL_law.2.2.2.2.2.2.2.2.2.2.2.2.2.2.2.2.2.2.2.2.2.2.2.2.2.2.2.2.1
theorem dL_law_1759 : decode cL_law 1759 = .ok (.aload_n 0, 1) := dg66_dL_law.2.2.2.2.2.2.2.2.2.2.2.2.2.2.2.2.2.2.2.2.2.2.2.2.2.2.2.2.2.1
theorem dg67_dL_law : Jvm.Free.DS.Facts cL_law 1760 [(.iload 4, 2), (.iconst 2, 1), (.iadd, 1), (.iaload, 1), (.aload_n 3, 1), (.invokestatic 209, 3), (.istore 5, 2), (.aload_n 2, 1), (.aload_n 0, 1), (.iload 4, 2), (.iconst 1, 1), (.iadd, 1), (.iaload, 1), (.aload_n 0, 1), (.iload 4, 2), (.iconst 2, 1), (.iadd, 1), (.iaload, 1), (.invokevirtual 211, 3), (.istore 6, 2), (.aload_n 2, 1), (.invokevirtual 128, 3), (.iload 5, 2), (.if_icmp .eq 5, 3), (.iconst 0, 1), (.ireturn, 1), (.iload 5, 2), (.ifCond .ne 22, 3), (.aload_n 3, 1), (.iconst 0, 1)] := Jvm.Free.DS.facts 1760 _ (by decide +kernel) (by decide +kernel)
theorem dL_law_1760 : decode cL_law 1760 = .ok (.iload 4, 2) := dg67_dL_law.1
theorem dL_law_1762 : decode cL_law 1762 = .ok (.iconst 2, 1) := dg67_dL_law.2.1
theorem dL_law_1763 : decode cL_law 1763 = .ok (.iadd, 1) := dg67_dL_law.2.2.1
theorem dL_law_1764 : decode cL_law 1764 = .ok (.iaload, 1) := dg67_dL_law.2.2.2.1
theorem dL_law_1765 : decode cL_law 1765 = .ok (.aload_n 3, 1) := dg67_dL_law.2.2.2.2.1
theorem dL_law_1766 : decode cL_law 1766 = .ok (.invokestatic 209, 3) := dg67_dL_law.2.2.2.2.2.1
theorem dL_law_1769 : decode cL_law 1769 = .ok (.istore 5, 2) := dg67_dL_law.2.2.2.2.2.2.1
theorem dL_law_1771 : decode cL_law 1771 = .ok (.aload_n 2, 1) := dg67_dL_law.2.2.2.2.2.2.2.1
theorem dL_law_1772 : decode cL_law 1772 = .ok (.aload_n 0, 1) := dg67_dL_law.2.2.2.2.2.2.2.2.1
theorem dL_law_1773 : decode cL_law 1773 = .ok (.iload 4, 2) := dg67_dL_law.2.2.2.2.2.2.2.2.2.1
theorem dL_law_1775 : decode cL_law 1775 = .ok (.iconst 1, 1) := dg67_dL_law.2.2.2.2.2.2.2.2.2.2.1
theorem dL_law_1776 : decode cL_law 1776 = .ok (.iadd, 1) := dg67_dL_law.2.2.2.2.2.2.2.2.2.2.2.1
theorem dL_law_1777 : decode cL_law 1777 = .ok (.iaload, 1) := dg67_dL_law.2.2.2.2.2.2.2.2.2.2.2.2.1
theorem dL_law_1778 : decode cL_law 1778 = .ok (.aload_n 0, 1) := dg67_dL_law.2.2.2.2.2.2.2.2.2.2.2.2.2.1
theorem dL_law_1779 : decode cL_law 1779 = .ok (.iload 4, 2) := dg67_dL_law.2.2.2.2.2.2.2.2.2.2.2.2.2.2.1
theorem dL_law_1781 : decode cL_law 1781 = .ok (.iconst 2, 1) := dg67_dL_law.2.2.2.2.2.2.2.2.2.2.2.2.2.2.2.1
theorem dL_law_1782 : decode cL_law 1782 = .ok (.iadd, 1) := dg67_dL_law.2.2.2.2.2.2.2.2.2.2.2.2.2.2.2.2.1
theorem dL_law_1783 : decode cL_law 1783 = .ok (.iaload, 1) := dg67_dL_law.2.2.2.2.2.2.2.2.2.2.2.2.2.2.2.2.2.1
theorem dL_law_1784 : decode cL_law 1784 = .ok (.invokevirtual 211, 3) := dg67_dL_law.2.2.2.2.2.2.2.2.2.2.2.2.2.2.2.2.2.2.1
theorem dL_law_1787 : decode cL_law 1787 = .ok (.istore 6, 2) := dg67_dL_law.2.2.2.2.2.2.2.2.2.2.2.2.2.2.2.2.2.2.2.1
theorem dL_law_1789 : decode cL_law 1789 = .ok (.aload_n 2, 1) := dg67_dL_law.2.2.2.2.2.2.2.2.2.2.2.2.2.2.2.2.2.2.2.2.1
theorem dL_law_1790 : decode cL_law 1790 = .ok (.invokevirtual 128, 3) := dg67_dL_law.2.2.2.2.2.2.2.2.2.2.2.2.2.2.2.2.2.2.2.2.2.1
theorem dL_law_1793 : decode cL_law 1793 = .ok (.iload 5, 2) := dg67_dL_law.2.2.2.2.2.2.2.2.2.2.2.2.2.2.2.2.2.2.2.2.2.2.1
theorem dL_law_1795 : decode cL_law 1795 = .ok (.if_icmp .eq 5, 3) := dg67_dL_law.2.2.2.2.2.2.2.2.2.2.2.2.2.2.2.2.2.2.2.2.2.2.2.1
theorem dL_law_1798 : decode cL_law 1798 = .ok (.iconst 0, 1) := dg67_dL_law.2.2.2.2.2.2.2.2.2.2.2.2.2.2.2.2.2.2.2.2.2.2.2.2.1
theorem dL_law_1799 : decode cL_law 1799 = .ok (.ireturn, 1) := dg67_dL_law.2.2.2.2.2.2.2.2.2.2.2.2.2.2.2.2.2.2.2.2.2.2.2.2.2.1
theorem dL_law_1800 : decode cL_law 1800 = .ok (.iload 5, 2) := dg67_dL_law.2.2.2.2.2.2.2.2.2.2.2.2.2.2.2.2.2.2.2.2.2.2.2.2.2.2.1
theorem dL_law_1802 : decode cL_law 1802 = .ok (.ifCond .ne 22, 3) := dg67_dL_law.2.2.2.2.2.2.2.2.2.2.2.2.2.2.2.2.2.2.2.2.2.2.2.2.2.2.2.1
theorem dL_law_1805 : decode cL_law 1805 = .ok (.aload_n 3, 1) := dg67_dL_law.2.2.2.2.2.2.2.2.2.2.2.2.2.2.2.2.2.2.2.2.2.2.2.2.2.2.2.2.1
theorem dL_law_1806 : decode cL_law 1806 = .ok (.iconst 0, 1) := dg67_dL_law.2.2.2.2.2.2.2.2.2.2.2.2.2.2.2.2.2.2.2.2.2.2.2.2.2.2.2.2.2.1
theorem dg68_dL_law : Jvm.Free.DS.Facts cL_law 1807 [(.laload, 1), (.iload 6, 2), (.ifCond .eq 7, 3), (.lconst 1, 1), (.goto 4, 3), (.lconst 0, 1), (.lcmp, 1), (.ifCond .eq 5, 3), (.iconst 0, 1), (.ireturn, 1), (.goto 604, 3), (.aload_n 1, 1), (.aload_n 0, 1), (.iload 4, 2), (.iconst 1, 1), (.iadd, 1), (.iaload, 1), (.aload_n 0, 1), (.iload 4, 2), (.iconst 2, 1), (.iadd, 1), (.iaload, 1), (.aload_n 3, 1), (.invokestatic 212, 3), (.istore 5, 2), (.aload_n 2, 1), (.aload_n 0, 1), (.iload 4, 2), (.iconst 1, 1), (.iadd, 1)] := Jvm.Free.DS.facts 1807 _ (by decide +kernel) (by decide +kernel)
theorem dL_law_1807 : decode cL_law 1807 = .ok (.laload, 1) := dg68_dL_law.1
theorem dL_law_1808 : decode cL_law 1808 = .ok (.iload 6, 2) := dg68_dL_law.2.1
theorem dL_law_1810 : decode cL_law 1810 = .ok (.ifCond .eq 7, 3) := dg68_dL_law.2.2.1
theorem dL_law_1813 : decode cL_law 1813 = .ok (.lconst 1, 1) := dg68_dL_law.2.2.2.1
theorem dL_law_1814 : decode cL_law 1814 = .ok (.goto 4, 3) := dg68_dL_law.2.2.2.2.1
theorem dL_law_1817 : decode cL_law 1817 = .ok (.lconst 0, 1) := dg68_dL_law.2.2.2.2.2.1
theorem dL_law_1818 : decode cL_law 1818 = .ok (.lcmp, 1) := dg68_dL_law.2.2.2.2.2.2.1
theorem dL_law_1819 : decode cL_law 1819 = .ok (.ifCond .eq 5, 3) := dg68_dL_law.2.2.2.2.2.2.2.1
theorem dL_law_1822 : decode cL_law 1822 = .ok (.iconst 0, 1) := dg68_dL_law.2.2.2.2.2.2.2.2.1
theorem dL_law_1823 : decode cL_law 1823 = .ok (.ireturn, 1) := dg68_dL_law.2.2.2.2.2.2.2.2.2.1
theorem dL_law_1824 : decode cL_law 1824 = .ok (.goto 604, 3) := dg68_dL_law.2.2.2.2.2.2.2.2.2.2.1
theorem dL_law_1827 : decode cL_law 1827 = .ok (.aload_n 1, 1) := dg68_dL_law.2.2.2.2.2.2.2.2.2.2.2.1
theorem dL_law_1828 : decode cL_law 1828 = .ok (.aload_n 0, 1) := dg68_dL_law.2.2.2.2.2.2.2.2.2.2.2.2.1
theorem dL_law_1829 : decode cL_law 1829 = .ok (.iload 4, 2) := dg68_dL_law.2.2.2.2.2.2.2.2.2.2.2.2.2.1
theorem dL_law_1831 : decode cL_law 1831 = .ok (.iconst 1, 1) := dg68_dL_law.2.2.2.2.2.2.2.2.2.2.2.2.2.2.1
theorem dL_law_1832 : decode cL_law 1832 = .ok (.iadd, 1) := dg68_dL_law.2.2.2.2.2.2.2.2.2.2.2.2.2.2.2.1
theorem dL_law_1833 : decode cL_law 1833 = .ok (.iaload, 1) := dg68_dL_law.2.2.2.2.2.2.2.2.2.2.2.2.2.2.2.2.1
theorem dL_law_1834 : decode cL_law 1834 = .ok (.aload_n 0, 1) := dg68_dL_law.2.2.2.2.2.2.2.2.2.2.2.2.2.2.2.2.2.1
theorem dL_law_1835 : decode cL_law 1835 = .ok (.iload 4, 2) := dg68_dL_law.2.2.2.2.2.2.2.2.2.2.2.2.2.2.2.2.2.2.1
theorem dL_law_1837 : decode cL_law 1837 = .ok (.iconst 2, 1) := dg68_dL_law.2.2.2.2.2.2.2.2.2.2.2.2.2.2.2.2.2.2.2.1
theorem dL_law_1838 : decode cL_law 1838 = .ok (.iadd, 1) := dg68_dL_law.2.2.2.2.2.2.2.2.2.2.2.2.2.2.2.2.2.2.2.2.1
theorem dL_law_1839 : decode cL_law 1839 = .ok (.iaload, 1) := dg68_dL_law.2.2.2.2.2.2.2.2.2.2.2.2.2.2.2.2.2.2.2.2.2.1
theorem dL_law_1840 : decode cL_law 1840 = .ok (.aload_n 3, 1) := dg68_dL_law.2.2.2.2.2.2.2.2.2.2.2.2.2.2.2.2.2.2.2.2.2.2.1
theorem dL_law_1841 : decode cL_law 1841 = .ok (.invokestatic 212, 3) := dg68_dL_law.2.2.2.2.2.2.2.2.2.2.2.2.2.2.2.2.2.2.2.2.2.2.2.1
theorem dL_law_1844 : decode cL_law 1844 = .ok (.istore 5, 2) := dg68_dL_law.2.2.2.2.2.2.2.2.2.2.2.2.2.2.2.2.2.2.2.2.2.2.2.2.1
theorem dL_law_1846 : decode cL_law 1846 = .ok (.aload_n 2, 1) := dg68_dL_law.2.2.2.2.2.2.2.2.2.2.2.2.2.2.2.2.2.2.2.2.2.2.2.2.2.1
theorem dL_law_1847 : decode cL_law 1847 = .ok (.aload_n 0, 1) := dg68_dL_law.2.2.2.2.2.2.2.2.2.2.2.2.2.2.2.2.2.2.2.2.2.2.2.2.2.2.1
theorem dL_law_1848 : decode cL_law 1848 = .ok (.iload 4, 2) := dg68_dL_law.2.2.2.2.2.2.2.2.2.2.2.2.2.2.2.2.2.2.2.2.2.2.2.2.2.2.2.1
theorem dL_law_1850 : decode cL_law 1850 = .ok (.iconst 1, 1) := dg68_dL_law.2.2.2.2.2.2.2.2.2.2.2.2.2.2.2.2.2.2.2.2.2.2.2.2.2.2.2.2.1
theorem dL_law_1851 : decode cL_law 1851 = .ok (.iadd, 1) := dg68_dL_law.2.2.2.2.2.2.2.2.2.2.2.2.2.2.2.2.2.2.2.2.2.2.2.2.2.2.2.2.2.1
theorem dg69_dL_law : Jvm.Free.DS.Facts cL_law 1852 [(.iaload, 1), (.aload_n 0, 1), (.iload 4, 2), (.iconst 2, 1), (.iadd, 1), (.iaload, 1), (.invokevirtual 214, 3), (.istore 6, 2), (.aload_n 2, 1), (.invokevirtual 128, 3), (.iload 5, 2), (.if_icmp .eq 5, 3), (.iconst 0, 1), (.ireturn, 1), (.iload 5, 2), (.ifCond .ne 15, 3), (.aload_n 3, 1), (.iconst 0, 1), (.laload, 1), (.iload 6, 2), (.i2l, 1), (.lcmp, 1), (.ifCond .eq 5, 3), (.iconst 0, 1), (.ireturn, 1), (.goto 536, 3), (.aload_n 1, 1), (.aload_n 0, 1), (.iload 4, 2), (.iconst 1, 1)] := Jvm.Free.DS.facts 1852 _ (by decide +kernel) (by decide +kernel)
theorem dL_law_1852 : decode cL_law 1852 = .ok (.iaload, 1) := dg69_dL_law.1
theorem dL_law_1853 : decode cL_law 1853 = .ok (.aload_n 0, 1) := dg69_dL_law.2.1
theorem dL_law_1854 : decode cL_law 1854 = .ok (.iload 4, 2) := dg69_dL_law.2.2.1
theorem dL_law_1856 : decode cL_law 1856 = .ok (.iconst 2, 1) := dg69_dL_law.2.2.2.1
theorem dL_law_1857 : decode cL_law 1857 = .ok (.iadd, 1) := dg69_dL_law.2.2.2.2.1
theorem dL_law_1858 : decode cL_law 1858 = .ok (.iaload, 1) := dg69_dL_law.2.2.2.2.2.1
theorem dL_law_1859 : decode cL_law 1859 = .ok (.invokevirtual 214, 3) := dg69_dL_law.2.2.2.2.2.2.1
theorem dL_law_1862 : decode cL_law 1862 = .ok (.istore 6, 2) := dg69_dL_law.2.2.2.2.2.2.2.1
theorem dL_law_1864 : decode cL_law 1864 = .ok (.aload_n 2, 1) := dg69_dL_law.2.2.2.2.2.2.2.2.1
theorem dL_law_1865 : decode cL_law 1865 = .ok (.invokevirtual 128, 3) := dg69_dL_law.2.2.2.2.2.2.2.2.2.1
theorem dL_law_1868 : decode cL_law 1868 = .ok (.iload 5, 2) := dg69_dL_law.2.2.2.2.2.2.2.2.2.2.1
theorem dL_law_1870 : decode cL_law 1870 = .ok (.if_icmp .eq 5, 3) := dg69_dL_law.2.2.2.2.2.2.2.2.2.2.2.1
theorem dL_law_1873 : decode cL_law 1873 = .ok (.iconst 0, 1) := dg69_dL_law.2.2.2.2.2.2.2.2.2.2.2.2.1
theorem dL_law_1874 : decode cL_law 1874 = .ok (.ireturn, 1) := dg69_dL_law.2.2.2.2.2.2.2.2.2.2.2.2.2.1
theorem dL_law_1875 : decode cL_law 1875 = .ok (.iload 5, 2) := dg69_dL_law.2.2.2.2.2.2.2.2.2.2.2.2.2.2.1
theorem dL_law_1877 : decode cL_law 1877 = .ok (.ifCond .ne 15, 3) := dg69_dL_law.2.2.2.2.2.2.2.2.2.2.2.2.2.2.2.1
theorem dL_law_1880 : decode cL_law 1880 = .ok (.aload_n 3, 1) := dg69_dL_law.2.2.2.2.2.2.2.2.2.2.2.2.2.2.2.2.1
theorem dL_law_1881 : decode cL_law 1881 = .ok (.iconst 0, 1) := dg69_dL_law.2.2.2.2.2.2.2.2.2.2.2.2.2.2.2.2.2.1
theorem dL_law_1882 : decode cL_law 1882 = .ok (.laload, 1) := dg69_dL_law.2.2.2.2.2.2.2.2.2.2.2.2.2.2.2.2.2.2.1
theorem dL_law_1883 : decode cL_law 1883 = .ok (.iload 6, 2) := dg69_dL_law.2.2.2.2.2.2.2.2.2.2.2.2.2.2.2.2.2.2.2.1
theorem dL_law_1885 : decode cL_law 1885 = .ok (.i2l, 1) := dg69_dL_law.2.2.2.2.2.2.2.2.2.2.2.2.2.2.2.2.2.2.2.2.1
theorem dL_law_1886 : decode cL_law 1886 = .ok (.lcmp, 1) := dg69_dL_law.2.2.2.2.2.2.2.2.2.2.2.2.2.2.2.2.2.2.2.2.2.1
theorem dL_law_1887 : decode cL_law 1887 = .ok (.ifCond .eq 5, 3) := dg69_dL_law.2.2.2.2.2.2.2.2.2.2.2.2.2.2.2.2.2.2.2.2.2.2.1
theorem dL_law_1890 : decode cL_law 1890 = .ok (.iconst 0, 1) := dg69_dL_law.2.2.2.2.2.2.2.2.2.2.2.2.2.2.2.2.2.2.2.2.2.2.2.1
theorem dL_law_1891 : decode cL_law 1891 = .ok (.ireturn, 1) := dg69_dL_law.2.2.2.2.2.2.2.2.2.2.2.2.2.2.2.2.2.2.2.2.2.2.2.2.1
theorem dL_law_1892 : decode cL_law 1892 = .ok (.goto 536, 3) := dg69_dL_law.2.2.2.2.2.2.2.2.2.2.2.2.2.2.2.2.2.2.2.2.2.2.2.2.2.1
theorem dL_law_1895 : decode cL_law 1895 = .ok (.aload_n 1, 1) := dg69_dL_law.2.2.2.2.2.2.2.2.2.2.2.2.2.2.2.2.2.2.2.2.2.2.2.2.2.2.1
theorem dL_law_1896 : decode cL_law 1896 = .ok (.aload_n 0, 1) := dg69_dL_law.2.2.2.2.2.2.2.2.2.2.2.2.2.2.2.2.2.2.2.2.2.2.2.2.2.2.2.1
theorem dL_law_1897 : decode cL_law 1897 = .ok (.iload 4, 2) := dg69_dL_law.2.2.2.2.2.2.2.2.2.2.2.2.2.2.2.2.2.2.2.2.2.2.2.2.2.2.2.2.1
theorem dL_law_1899 : decode cL_law 1899 = .ok (.iconst 1, 1) := dg69_dL_law.2.2.2.2.2.2.2.2.2.2.2.2.2.2.2.2.2.2.2.2.2.2.2.2.2.2.2.2.2.1
theorem dg70_dL_law : Jvm.Free.DS.Facts cL_law 1900 [(.iadd, 1), (.iaload, 1), (.aload_n 0, 1), (.iload 4, 2), (.iconst 2, 1), (.iadd, 1), (.iaload, 1), (.aload_n 0, 1), (.iload 4, 2), (.iconst 3, 1), (.iadd, 1), (.iaload, 1), (.aload_n 3, 1), (.invokestatic 215, 3), (.istore 5, 2), (.aload_n 2, 1), (.aload_n 0, 1), (.iload 4, 2), (.iconst 1, 1), (.iadd, 1), (.iaload, 1), (.aload_n 0, 1), (.iload 4, 2), (.iconst 2, 1), (.iadd, 1), (.iaload, 1), (.aload_n 0, 1), (.iload 4, 2), (.iconst 3, 1), (.iadd, 1)] := Jvm.Free.DS.facts 1900 _ (by decide +kernel) (by decide +kernel)
theorem dL_law_1900 : decode cL_law 1900 = .ok (.iadd, 1) := dg70_dL_law.1
theorem dL_law_1901 : decode cL_law 1901 = .ok (.iaload, 1) := dg70_dL_law.2.1
theorem dL_law_1902 : decode cL_law 1902 = .ok (.aload_n 0, 1) := dg70_dL_law.2.2.1
theorem dL_law_1903 : decode cL_law 1903 = .ok (.iload 4, 2) := dg70_dL_law.2.2.2.1
theorem dL_law_1905 : decode cL_law 1905 = .ok (.iconst 2, 1) := dg70_dL_law.2.2.2.2.1
theorem dL_law_1906 : decode cL_law 1906 = .ok (.iadd, 1) := dg70_dL_law.2.2.2.2.2.1
theorem dL_law_1907 : decode cL_law 1907 = .ok (.iaload, 1) := dg70_dL_law.2.2.2.2.2.2.1
theorem dL_law_1908 : decode cL_law 1908 = .ok (.aload_n 0, 1) := dg70_dL_law.2.2.2.2.2.2.2.1
theorem dL_law_1909 : decode cL_law 1909 = .ok (.iload 4, 2) := dg70_dL_law.2.2.2.2.2.2.2.2.1
theorem dL_law_1911 : decode cL_law 1911 = .ok (.iconst 3, 1) := dg70_dL_law.2.2.2.2.2.2.2.2.2.1
theorem dL_law_1912 : decode cL_law 1912 = .ok (.iadd, 1) := dg70_dL_law.2.2.2.2.2.2.2.2.2.2.1
theorem dL_law_1913 : decode cL_law 1913 = .ok (.iaload, 1) := dg70_dL_law.2.2.2.2.2.2.2.2.2.2.2.1
theorem dL_law_1914 : decode cL_law 1914 = .ok (.aload_n 3, 1) := dg70_dL_law.2.2.2.2.2.2.2.2.2.2.2.2.1
theorem dL_law_1915 : decode cL_law 1915 = .ok (.invokestatic 215, 3) := dg70_dL_law.2.2.2.2.2.2.2.2.2.2.2.2.2.1
theorem dL_law_1918 : decode cL_law 1918 = .ok (.istore 5, 2) := dg70_dL_law.2.2.2.2.2.2.2.2.2.2.2.2.2.2.1
theorem dL_law_1920 : decode cL_law 1920 = .ok (.aload_n 2, 1) := dg70_dL_law.2.2.2.2.2.2.2.2.2.2.2.2.2.2.2.1
theorem dL_law_1921 : decode cL_law 1921 = .ok (.aload_n 0, 1) := dg70_dL_law.2.2.2.2.2.2.2.2.2.2.2.2.2.2.2.2.1
theorem dL_law_1922 : decode cL_law 1922 = .ok (.iload 4, 2) := dg70_dL_law.2.2.2.2.2.2.2.2.2.2.2.2.2.2.2.2.2.1
theorem dL_law_1924 : decode cL_law 1924 = .ok (.iconst 1, 1) := dg70_dL_law.2.2.2.2.2.2.2.2.2.2.2.2.2.2.2.2.2.2.1
theorem dL_law_1925 : decode cL_law 1925 = .ok (.iadd, 1) := dg70_dL_law.2.2.2.2.2.2.2.2.2.2.2.2.2.2.2.2.2.2.2.1
theorem dL_law_1926 : decode cL_law 1926 = .ok (.iaload, 1) := dg70_dL_law.2.2.2.2.2.2.2.2.2.2.2.2.2.2.2.2.2.2.2.2.1
theorem dL_law_1927 : decode cL_law 1927 = .ok (.aload_n 0, 1) := dg70_dL_law.2.2.2.2.2.2.2.2.2.2.2.2.2.2.2.2.2.2.2.2.2.1
theorem dL_law_1928 : decode cL_law 1928 = .ok (.iload 4, 2) := dg70_dL_law.2.2.2.2.2.2.2.2.2.2.2.2.2.2.2.2.2.2.2.2.2.2.1
theorem dL_law_1930 : decode cL_law 1930 = .ok (.iconst 2, 1) := dg70_dL_law.2.2.2.2.2.2.2.2.2.2.2.2.2.2.2.2.2.2.2.2.2.2.2.1
theorem dL_law_1931 : decode cL_law 1931 = .ok (.iadd, 1) := dg70_dL_law.2.2.2.2.2.2.2.2.2.2.2.2.2.2.2.2.2.2.2.2.2.2.2.2.1
theorem dL_law_1932 : decode cL_law 1932 = .ok (.iaload, 1) := dg70_dL_law.2.2.2.2.2.2.2.2.2.2.2.2.2.2.2.2.2.2.2.2.2.2.2.2.2.1
theorem dL_law_1933 : decode cL_law 1933 = .ok (.aload_n 0, 1) := dg70_dL_law.2.2.2.2.2.2.2.2.2.2.2.2.2.2.2.2.2.2.2.2.2.2.2.2.2.2.1
theorem dL_law_1934 : decode cL_law 1934 = .ok (.iload 4, 2) := dg70_dL_law.2.2.2.2.2.2.2.2.2.2.2.2.2.2.2.2.2.2.2.2.2.2.2.2.2.2.2.1
theorem dL_law_1936 : decode cL_law 1936 = .ok (.iconst 3, 1) := dg70_dL_law.2.2.2.2.2.2.2.2.2.2.2.2.2.2.2.2.2.2.2.2.2.2.2.2.2.2.2.2.1
theorem dL_law_1937 : decode cL_law 1937 = .ok (.iadd, 1) := dg70_dL_law.2.2.2.2.2.2.2.2.2.2.2.2.2.2.2.2.2.2.2.2.2.2.2.2.2.2.2.2.2.1
theorem dg71_dL_law : Jvm.Free.DS.Facts cL_law 1938 [(.iaload, 1), (.invokevirtual 217, 3), (.istore 6, 2), (.aload_n 2, 1), (.invokevirtual 128, 3), (.iload 5, 2), (.if_icmp .eq 5, 3), (.iconst 0, 1), (.ireturn, 1), (.iload 5, 2), (.ifCond .ne 15, 3), (.aload_n 3, 1), (.iconst 0, 1), (.laload, 1), (.iload 6, 2), (.i2l, 1), (.lcmp, 1), (.ifCond .eq 5, 3), (.iconst 0, 1), (.ireturn, 1), (.goto 456, 3), (.aload_n 1, 1), (.aload_n 0, 1), (.iload 4, 2), (.iconst 1, 1), (.iadd, 1), (.iaload, 1), (.aload_n 3, 1), (.invokestatic 218, 3), (.istore 5, 2)] := Jvm.Free.DS.facts 1938 _ (by decide +kernel) (by decide +kernel)
theorem dL_law_1938 : decode cL_law 1938 = .ok (.iaload, 1) := dg71_dL_law.1
theorem dL_law_1939 : decode cL_law 1939 = .ok (.invokevirtual 217, 3) := dg71_dL_law.2.1
theorem dL_law_1942 : decode cL_law 1942 = .ok (.istore 6, 2) := dg71_dL_law.2.2.1
theorem dL_law_1944 : decode cL_law 1944 = .ok (.aload_n 2, 1) := dg71_dL_law.2.2.2.1
theorem dL_law_1945 : decode cL_law 1945 = .ok (.invokevirtual 128, 3) := dg71_dL_law.2.2.2.2.1
theorem dL_law_1948 : decode cL_law 1948 = .ok (.iload 5, 2) := dg71_dL_law.2.2.2.2.2.1
theorem dL_law_1950 : decode cL_law 1950 = .ok (.if_icmp .eq 5, 3) := dg71_dL_law.2.2.2.2.2.2.1
theorem dL_law_1953 : decode cL_law 1953 = .ok (.iconst 0, 1) := dg71_dL_law.2.2.2.2.2.2.2.1
theorem dL_law_1954 : decode cL_law 1954 = .ok (.ireturn, 1) := dg71_dL_law.2.2.2.2.2.2.2.2.1
theorem dL_law_1955 : decode cL_law 1955 = .ok (.iload 5, 2) := dg71_dL_law.2.2.2.2.2.2.2.2.2.1
theorem dL_law_1957 : decode cL_law 1957 = .ok (.ifCond .ne 15, 3) := dg71_dL_law.2.2.2.2.2.2.2.2.2.2.1
theorem dL_law_1960 : decode cL_law 1960 = .ok (.aload_n 3, 1) := dg71_dL_law.2.2.2.2.2.2.2.2.2.2.2.1
theorem dL_law_1961 : decode cL_law 1961 = .ok (.iconst 0, 1) := dg71_dL_law.2.2.2.2.2.2.2.2.2.2.2.2.1
theorem dL_law_1962 : decode cL_law 1962 = .ok (.laload, 1) := dg71_dL_law.2.2.2.2.2.2.2.2.2.2.2.2.2.1
theorem dL_law_1963 : decode cL_law 1963 = .ok (.iload 6, 2) := dg71_dL_law.2.2.2.2.2.2.2.2.2.2.2.2.2.2.1
theorem dL_law_1965 : decode cL_law 1965 = .ok (.i2l, 1) := dg71_dL_law.2.2.2.2.2.2.2.2.2.2.2.2.2.2.2.1
theorem dL_law_1966 : decode cL_law 1966 = .ok (.lcmp, 1) := dg71_dL_law.2.2.2.2.2.2.2.2.2.2.2.2.2.2.2.2.1
theorem dL_law_1967 : decode cL_law 1967 = .ok (.ifCond .eq 5, 3) := dg71_dL_law.2.2.2.2.2.2.2.2.2.2.2.2.2.2.2.2.2.1
theorem dL_law_1970 : decode cL_law 1970 = .ok (.iconst 0, 1) := dg71_dL_law.2.2.2.2.2.2.2.2.2.2.2.2.2.2.2.2.2.2.1
theorem dL_law_1971 : decode cL_law 1971 = .ok (.ireturn, 1) := dg71_dL_law.2.2.2.2.2.2.2.2.2.2.2.2.2.2.2.2.2.2.2.1
theorem dL_law_1972 : decode cL_law 1972 = .ok (.goto 456, 3) := dg71_dL_law.2.2.2.2.2.2.2.2.2.2.2.2.2.2.2.2.2.2.2.2.1
theorem dL_law_1975 : decode cL_law 1975 = .ok (.aload_n 1, 1) := dg71_dL_law.2.2.2.2.2.2.2.2.2.2.2.2.2.2.2.2.2.2.2.2.2.1
theorem dL_law_1976 : decode cL_law 1976 = .ok (.aload_n 0, 1) := dg71_dL_law.2.2.2.2.2.2.2.2.2.2.2.2.2.2.2.2.2.2.2.2.2.2.1
theorem dL_law_1977 : decode cL_law 1977 = .ok (.iload 4, 2) := dg71_dL_law.2.2.2.2.2.2.2.2.2.2.2.2.2.2.2.2.2.2.2.2.2.2.2.1
theorem dL_law_1979 : decode cL_law 1979 = .ok (.iconst 1, 1) := dg71_dL_law.2.2.2.2.2.2.2.2.2.2.2.2.2.2.2.2.2.2.2.2.2.2.2.2.1
theorem dL_law_1980 : decode cL_law 1980 = .ok (.iadd, 1) := dg71_dL_law.2.2.2.2.2.2.2.2.2.2.2.2.2.2.2.2.2.2.2.2.2.2.2.2.2.1
theorem dL_law_1981 : decode cL_law 1981 = .ok (.iaload, 1) := dg71_dL_law.2.2.2.2.2.2.2.2.2.2.2.2.2.2.2.2.2.2.2.2.2.2.2.2.2.2.1
theorem dL_law_1982 : decode cL_law 1982 = .ok (.aload_n 3, 1) := dg71_dL_law.2.2.2.2.2.2.2.2.2.2.2.2.2.2.2.2.2.2.2.2.2.2.2.2.2.2.2.1
theorem dL_law_1983 : decode cL_law 1983 = .ok (.invokestatic 218, 3) := dg71_dL_law.2.2.2.2.2.2.2.2.2.2.2.2.2.2.2.2.2.2.2.2.2.2.2.2.2.2.2.2.1
theorem dL_law_1986 : decode cL_law 1986 = .ok (.istore 5, 2) := dg71_dL_law.2.2.2.2.2.2.2.2.2.2.2.2.2.2.2.2.2.2.2.2.2.2.2.2.2.2.2.2.2.1
theorem dg72_dL_law : Jvm.Free.DS.Facts cL_law 1988 [(.aload_n 2, 1), (.aload_n 0, 1), (.iload 4, 2), (.iconst 1, 1), (.iadd, 1), (.iaload, 1), (.invokevirtual 220, 3), (.istore 6, 2), (.aload_n 2, 1), (.invokevirtual 128, 3), (.iload 5, 2), (.if_icmp .eq 5, 3), (.iconst 0, 1), (.ireturn, 1), (.iload 5, 2), (.ifCond .ne 15, 3), (.aload_n 3, 1), (.iconst 0, 1), (.laload, 1), (.iload 6, 2), (.i2l, 1), (.lcmp, 1), (.ifCond .eq 5, 3), (.iconst 0, 1), (.ireturn, 1), (.goto 400, 3), (.aload_n 1, 1), (.aload_n 0, 1), (.iload 4, 2), (.iconst 1, 1)] := Jvm.Free.DS.facts 1988 _ (by decide +kernel) (by decide +kernel)
theorem dL_law_1988 : decode cL_law 1988 = .ok (.aload_n 2, 1) := dg72_dL_law.1
theorem dL_law_1989 : decode cL_law 1989 = .ok (.aload_n 0, 1) := dg72_dL_law.2.1
theorem dL_law_1990 : decode cL_law 1990 = .ok (.iload 4, 2) := dg72_dL_law.2.2.1
theorem dL_law_1992 : decode cL_law 1992 = .ok (.iconst 1, 1) := dg72_dL_law.2.2.2.1
theorem dL_law_1993 : decode cL_law 1993 = .ok (.iadd, 1) := dg72_dL_law.2.2.2.2.1
theorem dL_law_1994 : decode cL_law 1994 = .ok (.iaload, 1) := dg72_dL_law.2.2.2.2.2.1
theorem dL_law_1995 : decode cL_law 1995 = .ok (.invokevirtual 220, 3) := dg72_dL_law.2.2.2.2.2.2.1
theorem dL_law_1998 : decode cL_law 1998 = .ok (.istore 6, 2) := dg72_dL_law.2.2.2.2.2.2.2.1
theorem dL_law_2000 : decode cL_law 2000 = .ok (.aload_n 2, 1) := dg72_dL_law.2.2.2.2.2.2.2.2.1
theorem dL_law_2001 : decode cL_law 2001 = .ok (.invokevirtual 128, 3) := dg72_dL_law.2.2.2.2.2.2.2.2.2.1
theorem dL_law_2004 : decode cL_law 2004 = .ok (.iload 5, 2) := dg72_dL_law.2.2.2.2.2.2.2.2.2.2.1
theorem dL_law_2006 : decode cL_law 2006 = .ok (.if_icmp .eq 5, 3) := dg72_dL_law.2.2.2.2.2.2.2.2.2.2.2.1
theorem dL_law_2009 : decode cL_law 2009 = .ok (.iconst 0, 1) := dg72_dL_law.2.2.2.2.2.2.2.2.2.2.2.2.1
theorem dL_law_2010 : decode cL_law 2010 = .ok (.ireturn, 1) := dg72_dL_law.2.2.2.2.2.2.2.2.2.2.2.2.2.1
theorem dL_law_2011 : decode cL_law 2011 = .ok (.iload 5, 2) := dg72_dL_law.2.2.2.2.2.2.2.2.2.2.2.2.2.2.1
theorem dL_law_2013 : decode cL_law 2013 = .ok (.ifCond .ne 15, 3) := dg72_dL_law.2.2.2.2.2.2.2.2.2.2.2.2.2.2.2.1
theorem dL_law_2016 : decode cL_law 2016 = .ok (.aload_n 3, 1) := dg72_dL_law.2.2.2.2.2.2.2.2.2.2.2.2.2.2.2.2.1
theorem dL_law_2017 : decode cL_law 2017 = .ok (.iconst 0, 1) := dg72_dL_law.2.2.2.2.2.2.2.2.2.2.2.2.2.2.2.2.2.1
theorem dL_law_2018 : decode cL_law 2018 = .ok (.laload, 1) := dg72_dL_law.2.2.2.2.2.2.2.2.2.2.2.2.2.2.2.2.2.2.1
theorem dL_law_2019 : decode cL_law 2019 = .ok (.iload 6, 2) := dg72_dL_law.2.2.2.2.2.2.2.2.2.2.2.2.2.2.2.2.2.2.2.1
theorem dL_law_2021 : decode cL_law 2021 = .ok (.i2l, 1) := dg72_dL_law.2.2.2.2.2.2.2.2.2.2.2.2.2.2.2.2.2.2.2.2.1
theorem dL_law_2022 : decode cL_law 2022 = .ok (.lcmp, 1) := dg72_dL_law.2.2.2.2.2.2.2.2.2.2.2.2.2.2.2.2.2.2.2.2.2.1
theorem dL_law_2023 : decode cL_law 2023 = .ok (.ifCond .eq 5, 3) := dg72_dL_law.2.2.2.2.2.2.2.2.2.2.2.2.2.2.2.2.2.2.2.2.2.2.1
theorem dL_law_2026 : decode cL_law 2026 = .ok (.iconst 0, 1) := dg72_dL_law.2.2.2.2.2.2.2.2.2.2.2.2.2.2.2.2.2.2.2.2.2.2.2.1
theorem dL_law_2027 : decode cL_law 2027 = .ok (.ireturn, 1) := dg72_dL_law.2.2.2.2.2.2.2.2.2.2.2.2.2.2.2.2.2.2.2.2.2.2.2.2.1
theorem dL_law_2028 : decode cL_law 2028 = .ok (.goto 400, 3) := dg72_dL_law.2.2.2.2.2.2.2.2.2.2.2.2.2.2.2.2.2.2.2.2.2.2.2.2.2.1
theorem dL_law_2031 : decode cL_law 2031 = .ok (.aload_n 1, 1) := dg72_dL_law.2.2.2.2.2.2.2.2.2.2.2.2.2.2.2.2.2.2.2.2.2.2.2.2.2.2.1
theorem dL_law_2032 : decode cL_law 2032 = .ok (.aload_n 0, 1) := dg72_dL_law.2.2.2.2.2.2.2.2.2.2.2.2.2.2.2.2.2.2.2.2.2.2.2.2.2.2.2.1
theorem dL_law_2033 : decode cL_law 2033 = .ok (.iload 4, 2) := dg72_dL_law.2.2.2.2.2.2.2.2.2.2.2.2.2.2.2.2.2.2.2.2.2.2.2.2.2.2.2.2.1
theorem dL_law_2035 : decode cL_law 2035 = .ok (.iconst 1, 1) := dg72_dL_law.2.2.2.2.2.2.2.2.2.2.2.2.2.2.2.2.2.2.2.2.2.2.2.2.2.2.2.2.2.1
theorem dg73_dL_law : Jvm.Free.DS.Facts cL_law 2036 [(.iadd, 1), (.iaload, 1), (.aload_n 0, 1), (.iload 4, 2), (.iconst 2, 1), (.iadd, 1), (.iaload, 1), (.aload_n 3, 1), (.invokestatic 221, 3), (.istore 5, 2), (.aload_n 2, 1), (.aload_n 0, 1), (.iload 4, 2), (.iconst 1, 1), (.iadd, 1), (.iaload, 1), (.aload_n 0, 1), (.iload 4, 2), (.iconst 2, 1), (.iadd, 1), (.iaload, 1), (.invokevirtual 223, 3), (.istore 6, 2), (.aload_n 2, 1), (.invokevirtual 128, 3), (.iload 5, 2), (.if_icmp .eq 5, 3), (.iconst 0, 1), (.ireturn, 1), (.iload 5, 2)] := Jvm.Free.DS.facts 2036 _ (by decide +kernel) (by decide +kernel)
theorem dL_law_2036 : decode cL_law 2036 = .ok (.iadd, 1) := dg73_dL_law.1
theorem dL_law_2037 : decode cL_law 2037 = .ok (.iaload, 1) := dg73_dL_law.2.1
theorem dL_law_2038 : decode cL_law 2038 = .ok (.aload_n 0, 1) := dg73_dL_law.2.2.1
theorem dL_law_2039 : decode cL_law 2039 = .ok (.iload 4, 2) := dg73_dL_law.2.2.2.1
theorem dL_law_2041 : decode cL_law 2041 = .ok (.iconst 2, 1) := dg73_dL_law.2.2.2.2.1
theorem dL_law_2042 : decode cL_law 2042 = .ok (.iadd, 1) := dg73_dL_law.2.2.2.2.2.1
theorem dL_law_2043 : decode cL_law 2043 = .ok (.iaload, 1) := dg73_dL_law.2.2.2.2.2.2.1
theorem dL_law_2044 : decode cL_law 2044 = .ok (.aload_n 3, 1) := dg73_dL_law.2.2.2.2.2.2.2.1
theorem dL_law_2045 : decode cL_law 2045 = .ok (.invokestatic 221, 3) := dg73_dL_law.2.2.2.2.2.2.2.2.1
theorem dL_law_2048 : decode cL_law 2048 = .ok (.istore 5, 2) := dg73_dL_law.2.2.2.2.2.2.2.2.2.1
theorem dL_law_2050 : decode cL_law 2050 = .ok (.aload_n 2, 1) := dg73_dL_law.2.2.2.2.2.2.2.2.2.2.1
theorem dL_law_2051 : decode cL_law 2051 = .ok (.aload_n 0, 1) := dg73_dL_law.2.2.2.2.2.2.2.2.2.2.2.1
theorem dL_law_2052 : decode cL_law 2052 = .ok (.iload 4, 2) := dg73_dL_law.2.2.2.2.2.2.2.2.2.2.2.2.1
theorem dL_law_2054 : decode cL_law 2054 = .ok (.iconst 1, 1) := dg73_dL_law.2.2.2.2.2.2.2.2.2.2.2.2.2.1
theorem dL_law_2055 : decode cL_law 2055 = .ok (.iadd, 1) := dg73_dL_law.2.2.2.2.2.2.2.2.2.2.2.2.2.2.1
theorem dL_law_2056 : decode cL_law 2056 = .ok (.iaload, 1) := dg73_dL_law.2.2.2.2.2.2.2.2.2.2.2.2.2.2.2.1
theorem dL_law_2057 : decode cL_law 2057 = .ok (.aload_n 0, 1) := dg73_dL_law.2.2.2.2.2.2.2.2.2.2.2.2.2.2.2.2.1
theorem dL_law_2058 : decode cL_law 2058 = .ok (.iload 4, 2) := dg73_dL_law.2.2.2.2.2.2.2.2.2.2.2.2.2.2.2.2.2.1
theorem dL_law_2060 : decode cL_law 2060 = .ok (.iconst 2, 1) := dg73_dL_law.2.2.2.2.2.2.2.2.2.2.2.2.2.2.2.2.2.2.1
theorem dL_law_2061 : decode cL_law 2061 = .ok (.iadd, 1) := dg73_dL_law.2.2.2.2.2.2.2.2.2.2.2.2.2.2.2.2.2.2.2.1
theorem dL_law_2062 : decode cL_law 2062 = .ok (.iaload, 1) := dg73_dL_law.2.2.2.2.2.2.2.2.2.2.2.2.2.2.2.2.2.2.2.2.1
theorem dL_law_2063 : decode cL_law 2063 = .ok (.invokevirtual 223, 3) := dg73_dL_law.2.2.2.2.2.2.2.2.2.2.2.2.2.2.2.2.2.2.2.2.2.1
theorem dL_law_2066 : decode cL_law 2066 = .ok (.istore 6, 2) := dg73_dL_law.2.2.2.2.2.2.2.2.2.2.2.2.2.2.2.2.2.2.2.2.2.2.1
theorem dL_law_2068 : decode cL_law 2068 = .ok (.aload_n 2, 1) := dg73_dL_law.2.2.2.2.2.2.2.2.2.2.2.2.2.2.2.2.2.2.2.2.2.2.2.1
theorem dL_law_2069 : decode cL_law 2069 = .ok (.invokevirtual 128, 3) := dg73_dL_law.2.2.2.2.2.2.2.2.2.2.2.2.2.2.2.2.2.2.2.2.2.2.2.2.1
theorem dL_law_2072 : decode cL_law 2072 = .ok (.iload 5, 2) := dg73_dL_law.2.2.2.2.2.2.2.2.2.2.2.2.2.2.2.2.2.2.2.2.2.2.2.2.2.1
theorem dL_law_2074 : decode cL_law 2074 = .ok (.if_icmp .eq 5, 3) := dg73_dL_law.2.2.2.2.2.2.2.2.2.2.2.2.2.2.2.2.2.2.2.2.2.2.2.2.2.2.1
theorem dL_law_2077 : decode cL_law 2077 = .ok (.iconst 0, 1) := dg73_dL_law.2.2.2.2.2.2.2.2.2.2.2.2.2.2.2.2.2.2.2.2.2.2.2.2.2.2.2.1
theorem dL_law_2078 : decode cL_law 2078 = .ok (.ireturn, 1) := dg73_dL_law.2.2.2.2.2.2.2.2.2.2.2.2.2.2.2.2.2.2.2.2.2.2.2.2.2.2.2.2.1
theorem dL_law_2079 : decode cL_law 2079 = .ok (.iload 5, 2) := dg73_dL_law.2.2.2.2.2.2.2.2.2.2.2.2.2.2.2.2.2.2.2.2.2.2.2.2.2.2.2.2.2.1
theorem dg74_dL_law : Jvm.Free.DS.Facts cL_law 2081 [(.ifCond .ne 15, 3), (.aload_n 3, 1), (.iconst 0, 1), (.laload, 1), (.iload 6, 2), (.i2l, 1), (.lcmp, 1), (.ifCond .eq 5, 3), (.iconst 0, 1), (.ireturn, 1), (.goto 332, 3), (.aload_n 1, 1), (.aload_n 0, 1), (.iload 4, 2), (.iconst 1, 1), (.iadd, 1), (.iaload, 1), (.aload_n 3, 1), (.invokestatic 224, 3), (.istore 5, 2), (.aload_n 2, 1), (.aload_n 0, 1), (.iload 4, 2), (.iconst 1, 1), (.iadd, 1), (.iaload, 1), (.invokevirtual 226, 3), (.istore 6, 2), (.aload_n 2, 1), (.invokevirtual 128, 3)] := Jvm.Free.DS.facts 2081 _ (by decide +kernel) (by decide +kernel)
theorem dL_law_2081 : decode cL_law 2081 = .ok (.ifCond .ne 15, 3) := dg74_dL_law.1
theorem dL_law_2084 : decode cL_law 2084 = .ok (.aload_n 3, 1) := dg74_dL_law.2.1
theorem dL_law_2085 : decode cL_law 2085 = .ok (.iconst 0, 1) := dg74_dL_law.2.2.1
theorem dL_law_2086 : decode cL_law 2086 = .ok (.laload, 1) := dg74_dL_law.2.2.2.1
theorem dL_law_2087 : decode cL_law 2087 = .ok (.iload 6, 2) := dg74_dL_law.2.2.2.2.1
theorem dL_law_2089 : decode cL_law 2089 = .ok (.i2l, 1) := dg74_dL_law.2.2.2.2.2.1
theorem dL_law_2090 : decode cL_law 2090 = .ok (.lcmp, 1) := dg74_dL_law.2.2.2.2.2.2.1
theorem dL_law_2091 : decode cL_law 2091 = .ok (.ifCond .eq 5, 3) := dg74_dL_law.2.2.2.2.2.2.2.1
theorem dL_law_2094 : decode cL_law 2094 = .ok (.iconst 0, 1) := dg74_dL_law.2.2.2.2.2.2.2.2.1
theorem dL_law_2095 : decode cL_law 2095 = .ok (.ireturn, 1) := dg74_dL_law.2.2.2.2.2.2.2.2.2.1
theorem dL_law_2096 : decode cL_law 2096 = .ok (.goto 332, 3) := dg74_dL_law.2.2.2.2.2.2.2.2.2.2.1
theorem dL_law_2099 : decode cL_law 2099 = .ok (.aload_n 1, 1) := dg74_dL_law.2.2.2.2.2.2.2.2.2.2.2.1
theorem dL_law_2100 : decode cL_law 2100 = .ok (.aload_n 0, 1) := dg74_dL_law.2.2.2.2.2.2.2.2.2.2.2.2.1
theorem dL_law_2101 : decode cL_law 2101 = .ok (.iload 4, 2) := dg74_dL_law.2.2.2.2.2.2.2.2.2.2.2.2.2.1
theorem dL_law_2103 : decode cL_law 2103 = .ok (.iconst 1, 1) := dg74_dL_law.2.2.2.2.2.2.2.2.2.2.2.2.2.2.1
theorem dL_law_2104 : decode cL_law 2104 = .ok (.iadd, 1) := dg74_dL_law.2.2.2.2.2.2.2.2.2.2.2.2.2.2.2.1
theorem dL_law_2105 : decode cL_law 2105 = .ok (.iaload, 1) := dg74_dL_law.2.2.2.2.2.2.2.2.2.2.2.2.2.2.2.2.1
theorem dL_law_2106 : decode cL_law 2106 = .ok (.aload_n 3, 1) := dg74_dL_law.2.2.2.2.2.2.2.2.2.2.2.2.2.2.2.2.2.1
theorem dL_law_2107 : decode cL_law 2107 = .ok (.invokestatic 224, 3) := dg74_dL_law.2.2.2.2.2.2.2.2.2.2.2.2.2.2.2.2.2.2.1
theorem dL_law_2110 : decode cL_law 2110 = .ok (.istore 5, 2) := dg74_dL_law.2.2.2.2.2.2.2.2.2.2.2.2.2.2.2.2.2.2.2.1
theorem dL_law_2112 : decode cL_law 2112 = .ok (.aload_n 2, 1) := dg74_dL_law.2.2.2.2.2.2.2.2.2.2.2.2.2.2.2.2.2.2.2.2.1
theorem dL_law_2113 : decode cL_law 2113 = .ok (.aload_n 0, 1) := dg74_dL_law.2.2.2.2.2.2.2.2.2.2.2.2.2.2.2.2.2.2.2.2.2.1
theorem dL_law_2114 : decode cL_law 2114 = .ok (.iload 4, 2) := dg74_dL_law.2.2.2.2.2.2.2.2.2.2.2.2.2.2.2.2.2.2.2.2.2.2.1
theorem dL_law_2116 : decode cL_law 2116 = .ok (.iconst 1, 1) := dg74_dL_law.2.2.2.2.2.2.2.2.2.2.2.2.2.2.2.2.2.2.2.2.2.2.2.1
theorem dL_law_2117 : decode cL_law 2117 = .ok (.iadd, 1) := dg74_dL_law.2.2.2.2.2.2.2.2.2.2.2.2.2.2.2.2.2.2.2.2.2.2.2.2.1
theorem dL_law_2118 : decode cL_law 2118 = .ok (.iaload, 1) := dg74_dL_law.2.2.2.2.2.2.2.2.2.2.2.2.2.2.2.2.2.2.2.2.2.2.2.2.2.1
theorem dL_law_2119 : decode cL_law 2119 = .ok (.invokevirtual 226, 3) := dg74_dL_law.2.2.2.2.2.2.2.2.2.2.2.2.2.2.2.2.2.2.2.2.2.2.2.2.2.2.1
theorem dL_law_2122 : decode cL_law 2122 = .ok (.istore 6, 2) := dg74_dL_law.2.2.2.2.2.2.2.2.2.2.2.2.2.2.2.2.2.2.2.2.2.2.2.2.2.2.2.1
theorem dL_law_2124 : decode cL_law 2124 = .ok (.aload_n 2, 1) := dg74_dL_law.2.2.2.2.2.2.2.2.2.2.2.2.2.2.2.2.2.2.2.2.2.2.2.2.2.2.2.2.1
theorem dL_law_2125 : decode cL_law 2125 = .ok (.invokevirtual 128, 3) := dg74_dL_law.2.2.2.2.2.2.2.2.2.2.2.2.2.2.2.2.2.2.2.2.2.2.2.2.2.2.2.2.2.1
theorem dg75_dL_law : Jvm.Free.DS.Facts cL_law 2128 [(.iload 5, 2), (.if_icmp .eq 5, 3), (.iconst 0, 1), (.ireturn, 1), (.iload 5, 2), (.ifCond .ne 15, 3), (.aload_n 3, 1), (.iconst 0, 1), (.laload, 1), (.iload 6, 2), (.i2l, 1), (.lcmp, 1), (.ifCond .eq 5, 3), (.iconst 0, 1), (.ireturn, 1), (.goto 276, 3), (.aload_n 1, 1), (.aload_n 0, 1), (.iload 4, 2), (.iconst 1, 1), (.iadd, 1), (.iaload, 1), (.aload_n 3, 1), (.invokestatic 227, 3), (.istore 5, 2), (.aload_n 2, 1), (.aload_n 0, 1), (.iload 4, 2), (.iconst 1, 1), (.iadd, 1)] := Jvm.Free.DS.facts 2128 _ (by decide +kernel) (by decide +kernel)
theorem dL_law_2128 : decode cL_law 2128 = .ok (.iload 5, 2) := dg75_dL_law.1
theorem dL_law_2130 : decode cL_law 2130 = .ok (.if_icmp .eq 5, 3) := dg75_dL_law.2.1
theorem dL_law_2133 : decode cL_law 2133 = .ok (.iconst 0, 1) := dg75_dL_law.2.2.1
theorem dL_law_2134 : decode cL_law 2134 = .ok (.ireturn, 1) := dg75_dL_law.2.2.2.1
theorem dL_law_2135 : decode cL_law 2135 = .ok (.iload 5, 2) := dg75_dL_law.2.2.2.2.1
theorem dL_law_2137 : decode cL_law 2137 = .ok (.ifCond .ne 15, 3) := dg75_dL_law.2.2.2.2.2.1
theorem dL_law_2140 : decode cL_law 2140 = .ok (.aload_n 3, 1) := dg75_dL_law.2.2.2.2.2.2.1
theorem dL_law_2141 : decode cL_law 2141 = .ok (.iconst 0, 1) := dg75_dL_law.2.2.2.2.2.2.2.1
theorem dL_law_2142 : decode cL_law 2142 = .ok (.laload, 1) := dg75_dL_law.2.2.2.2.2.2.2.2.1
theorem dL_law_2143 : decode cL_law 2143 = .ok (.iload 6, 2) := dg75_dL_law.2.2.2.2.2.2.2.2.2.1
theorem dL_law_2145 : decode cL_law 2145 = .ok (.i2l, 1) := dg75_dL_law.2.2.2.2.2.2.2.2.2.2.1
theorem dL_law_2146 : decode cL_law 2146 = .ok (.lcmp, 1) := dg75_dL_law.2.2.2.2.2.2.2.2.2.2.2.1
theorem dL_law_2147 : decode cL_law 2147 = .ok (.ifCond .eq 5, 3) := dg75_dL_law.2.2.2.2.2.2.2.2.2.2.2.2.1
theorem dL_law_2150 : decode cL_law 2150 = .ok (.iconst 0, 1) := dg75_dL_law.2.2.2.2.2.2.2.2.2.2.2.2.2.1
theorem dL_law_2151 : decode cL_law 2151 = .ok (.ireturn, 1) := dg75_dL_law.2.2.2.2.2.2.2.2.2.2.2.2.2.2.1
theorem dL_law_2152 : decode cL_law 2152 = .ok (.goto 276, 3) := dg75_dL_law.2.2.2.2.2.2.2.2.2.2.2.2.2.2.2.1
theorem dL_law_2155 : decode cL_law 2155 = .ok (.aload_n 1, 1) := dg75_dL_law.2.2.2.2.2.2.2.2.2.2.2.2.2.2.2.2.1
theorem dL_law_2156 : decode cL_law 2156 = .ok (.aload_n 0, 1) := dg75_dL_law.2.2.2.2.2.2.2.2.2.2.2.2.2.2.2.2.2.1
theorem dL_law_2157 : decode cL_law 2157 = .ok (.iload 4, 2) := dg75_dL_law.2.2.2.2.2.2.2.2.2.2.2.2.2.2.2.2.2.2.1
theorem dL_law_2159 : decode cL_law 2159 = .ok (.iconst 1, 1) := dg75_dL_law.2.2.2.2.2.2.2.2.2.2.2.2.2.2.2.2.2.2.2.1
theorem dL_law_2160 : decode cL_law 2160 = .ok (.iadd, 1) := dg75_dL_law.2.2.2.2.2.2.2.2.2.2.2.2.2.2.2.2.2.2.2.2.1
theorem dL_law_2161 : decode cL_law 2161 = .ok (.iaload, 1) := dg75_dL_law.2.2.2.2.2.2.2.2.2.2.2.2.2.2.2.2.2.2.2.2.2.1
theorem dL_law_2162 : decode cL_law 2162 = .ok (.aload_n 3, 1) := dg75_dL_law.2.2.2.2.2.2.2.2.2.2.2.2.2.2.2.2.2.2.2.2.2.2.1
theorem dL_law_2163 : decode cL_law 2163 = .ok (.invokestatic 227, 3) := dg75_dL_law.2.2.2.2.2.2.2.2.2.2.2.2.2.2.2.2.2.2.2.2.2.2.2.1
theorem dL_law_2166 : decode cL_law 2166 = .ok (.istore 5, 2) := dg75_dL_law.2.2.2.2.2.2.2.2.2.2.2.2.2.2.2.2.2.2.2.2.2.2.2.2.1
theorem dL_law_2168 : decode cL_law 2168 = .ok (.aload_n 2, 1) := dg75_dL_law.2.2.2.2.2.2.2.2.2.2.2.2.2.2.2.2.2.2.2.2.2.2.2.2.2.1
theorem dL_law_2169 : decode cL_law 2169 = .ok (.aload_n 0, 1) := dg75_dL_law.2.2.2.2.2.2.2.2.2.2.2.2.2.2.2.2.2.2.2.2.2.2.2.2.2.2.1
theorem dL_law_2170 : decode cL_law 2170 = .ok (.iload 4, 2) := dg75_dL_law.2.2.2.2.2.2.2.2.2.2.2.2.2.2.2.2.2.2.2.2.2.2.2.2.2.2.2.1
theorem dL_law_2172 : decode cL_law 2172 = .ok (.iconst 1, 1) := dg75_dL_law.2.2.2.2.2.2.2.2.2.2.2.2.2.2.2.2.2.2.2.2.2.2.2.2.2.2.2.2.1
theorem dL_law_2173 : decode cL_law 2173 = .ok (.iadd, 1) := dg75_dL_law.2.2.2.2.2.2.2.2.2.2.2.2.2.2.2.2.2.2.2.2.2.2.2.2.2.2.2.2.2.1
theorem dg76_dL_law : Jvm.Free.DS.Facts cL_law 2174 [(.iaload, 1), (.invokevirtual 229, 3), (.istore 6, 2), (.aload_n 2, 1), (.invokevirtual 128, 3), (.iload 5, 2), (.if_icmp .eq 5, 3), (.iconst 0, 1), (.ireturn, 1), (.iload 5, 2), (.ifCond .ne 15, 3), (.aload_n 3, 1), (.iconst 0, 1), (.laload, 1), (.iload 6, 2), (.i2l, 1), (.lcmp, 1), (.ifCond .eq 5, 3), (.iconst 0, 1), (.ireturn, 1), (.goto 220, 3), (.aload_n 1, 1), (.aload_n 0, 1), (.iload 4, 2), (.iconst 1, 1), (.iadd, 1), (.iaload, 1), (.aload_n 0, 1), (.iload 4, 2), (.iconst 2, 1)] := Jvm.Free.DS.facts 2174 _ (by decide +kernel) (by decide +kernel)
theorem dL_law_2174 : decode cL_law 2174 = .ok (.iaload, 1) := dg76_dL_law.1
theorem dL_law_2175 : decode cL_law 2175 = .ok (.invokevirtual 229, 3) := dg76_dL_law.2.1
theorem dL_law_2178 : decode cL_law 2178 = .ok (.istore 6, 2) := dg76_dL_law.2.2.1
theorem dL_law_2180 : decode cL_law 2180 = .ok (.aload_n 2, 1) := dg76_dL_law.2.2.2.1
theorem dL_law_2181 : decode cL_law 2181 = .ok (.invokevirtual 128, 3) := dg76_dL_law.2.2.2.2.1
theorem dL_law_2184 : decode cL_law 2184 = .ok (.iload 5, 2) := dg76_dL_law.2.2.2.2.2.1
theorem dL_law_2186 : decode cL_law 2186 = .ok (.if_icmp .eq 5, 3) := dg76_dL_law.2.2.2.2.2.2.1
theorem dL_law_2189 : decode cL_law 2189 = .ok (.iconst 0, 1) := dg76_dL_law.2.2.2.2.2.2.2.1
theorem dL_law_2190 : decode cL_law 2190 = .ok (.ireturn, 1) := dg76_dL_law.2.2.2.2.2.2.2.2.1
theorem dL_law_2191 : decode cL_law 2191 = .ok (.iload 5, 2) := dg76_dL_law.2.2.2.2.2.2.2.2.2.1
theorem dL_law_2193 : decode cL_law 2193 = .ok (.ifCond .ne 15, 3) := dg76_dL_law.2.2.2.2.2.2.2.2.2.2.1
theorem dL_law_2196 : decode cL_law 2196 = .ok (.aload_n 3, 1) := dg76_dL_law.2.2.2.2.2.2.2.2.2.2.2.1
theorem dL_law_2197 : decode cL_law 2197 = .ok (.iconst 0, 1) := dg76_dL_law.2.2.2.2.2.2.2.2.2.2.2.2.1
theorem dL_law_2198 : decode cL_law 2198 = .ok (.laload, 1) := dg76_dL_law.2.2.2.2.2.2.2.2.2.2.2.2.2.1
theorem dL_law_2199 : decode cL_law 2199 = .ok (.iload 6, 2) := dg76_dL_law.2.2.2.2.2.2.2.2.2.2.2.2.2.2.1
theorem dL_law_2201 : decode cL_law 2201 = .ok (.i2l, 1) := dg76_dL_law.2.2.2.2.2.2.2.2.2.2.2.2.2.2.2.1
theorem dL_law_2202 : decode cL_law 2202 = .ok (.lcmp, 1) := dg76_dL_law.2.2.2.2.2.2.2.2.2.2.2.2.2.2.2.2.1
theorem dL_law_2203 : decode cL_law 2203 = .ok (.ifCond .eq 5, 3) := dg76_dL_law.2.2.2.2.2.2.2.2.2.2.2.2.2.2.2.2.2.1
theorem dL_law_2206 : decode cL_law 2206 = .ok (.iconst 0, 1) := dg76_dL_law.2.2.2.2.2.2.2.2.2.2.2.2.2.2.2.2.2.2.1
theorem dL_law_2207 : decode cL_law 2207 = .ok (.ireturn, 1) := dg76_dL_law.2.2.2.2.2.2.2.2.2.2.2.2.2.2.2.2.2.2.2.1
theorem dL_law_2208 : decode cL_law 2208 = .ok (.goto 220, 3) := dg76_dL_law.2.2.2.2.2.2.2.2.2.2.2.2.2.2.2.2.2.2.2.2.1
theorem dL_law_2211 : decode cL_law 2211 = .ok (.aload_n 1, 1) := dg76_dL_law.2.2.2.2.2.2.2.2.2.2.2.2.2.2.2.2.2.2.2.2.2.1
theorem dL_law_2212 : decode cL_law 2212 = .ok (.aload_n 0, 1) := dg76_dL_law.2.2.2.2.2.2.2.2.2.2.2.2.2.2.2.2.2.2.2.2.2.2.1
theorem dL_law_2213 : decode cL_law 2213 = .ok (.iload 4, 2) := dg76_dL_law.2.2.2.2.2.2.2.2.2.2.2.2.2.2.2.2.2.2.2.2.2.2.2.1
theorem dL_law_2215 : decode cL_law 2215 = .ok (.iconst 1, 1) := dg76_dL_law.2.2.2.2.2.2.2.2.2.2.2.2.2.2.2.2.2.2.2.2.2.2.2.2.1
theorem dL_law_2216 : decode cL_law 2216 = .ok (.iadd, 1) := dg76_dL_law.2.2.2.2.2.2.2.2.2.2.2.2.2.2.2.2.2.2.2.2.2.2.2.2.2.1
theorem dL_law_2217 : decode cL_law 2217 = .ok (.iaload, 1) := dg76_dL_law.2.2.2.2.2.2.2.2.2.2.2.2.2.2.2.2.2.2.2.2.2.2.2.2.2.2.1
theorem dL_law_2218 : decode cL_law 2218 = .ok (.aload_n 0, 1) := dg76_dL_law.2.2.2.2.2.2.2.2.2.2.2.2.2.2.2.2.2.2.2.2.2.2.2.2.2.2.2.1
theorem dL_law_2219 : decode cL_law 2219 = .ok (.iload 4, 2) := dg76_dL_law.2.2.2.2.2.2.2.2.2.2.2.2.2.2.2.2.2.2.2.2.2.2.2.2.2.2.2.2.1
theorem dL_law_2221 : decode cL_law 2221 = .ok (.iconst 2, 1) := dg76_dL_law.2.2.2.2.2.2.2.2.2.2.2.2.2.2.2.2.2.2.2.2.2.2.2.2.2.2.2.2.2.1
theorem dg77_dL_law : Jvm.Free.DS.Facts cL_law 2222 [(.iadd, 1), (.iaload, 1), (.aload_n 3, 1), (.invokestatic 230, 3), (.istore 5, 2), (.aload_n 2, 1), (.aload_n 0, 1), (.iload 4, 2), (.iconst 1, 1), (.iadd, 1), (.iaload, 1), (.aload_n 0, 1), (.iload 4, 2), (.iconst 2, 1), (.iadd, 1), (.iaload, 1), (.invokevirtual 232, 3), (.istore 6, 2), (.aload_n 2, 1), (.invokevirtual 128, 3), (.iload 5, 2), (.if_icmp .eq 5, 3), (.iconst 0, 1), (.ireturn, 1), (.iload 5, 2), (.ifCond .ne 15, 3), (.aload_n 3, 1), (.iconst 0, 1), (.laload, 1), (.iload 6, 2)] := Jvm.Free.DS.facts 2222 _ (by decide +kernel) (by decide +kernel)
theorem dL_law_2222 : decode cL_law 2222 = .ok (.iadd, 1) := dg77_dL_law.1
theorem dL_law_2223 : decode cL_law 2223 = .ok (.iaload, 1) := dg77_dL_law.2.1
theorem dL_law_2224 : decode cL_law 2224 = .ok (.aload_n 3, 1) := dg77_dL_law.2.2.1
theorem dL_law_2225 : decode cL_law 2225 = .ok (.invokestatic 230, 3) := dg77_dL_law.2.2.2.1
theorem dL_law_2228 : decode cL_law 2228 = .ok (.istore 5, 2) := dg77_dL_law.2.2.2.2.1
theorem dL_law_2230 : decode cL_law 2230 = .ok (.aload_n 2, 1) := dg77_dL_law.2.2.2.2.2.1
theorem dL_law_2231 : decode cL_law 2231 = .ok (.aload_n 0, 1) := dg77_dL_law.2.2.2.2.2.2.1
theorem dL_law_2232 : decode cL_law 2232 = .ok (.iload 4, 2) := dg77_dL_law.2.2.2.2.2.2.2.1
theorem dL_law_2234 : decode cL_law 2234 = .ok (.iconst 1, 1) := dg77_dL_law.2.2.2.2.2.2.2.2.1
theorem dL_law_2235 : decode cL_law 2235 = .ok (.iadd, 1) := dg77_dL_law.2.2.2.2.2.2.2.2.2.1
theorem dL_law_2236 : decode cL_law 2236 = .ok (.iaload, 1) := dg77_dL_law.2.2.2.2.2.2.2.2.2.2.1
theorem dL_law_2237 : decode cL_law 2237 = .ok (.aload_n 0, 1) := dg77_dL_law.2.2.2.2.2.2.2.2.2.2.2.1
theorem dL_law_2238 : decode cL_law 2238 = .ok (.iload 4, 2) := dg77_dL_law.2.2.2.2.2.2.2.2.2.2.2.2.1
theorem dL_law_2240 : decode cL_law 2240 = .ok (.iconst 2, 1) := dg77_dL_law.2.2.2.2.2.2.2.2.2.2.2.2.2.1
theorem dL_law_2241 : decode cL_law 2241 = .ok (.iadd, 1) := dg77_dL_law.2.2.2.2.2.2.2.2.2.2.2.2.2.2.1
theorem dL_law_2242 : decode cL_law 2242 = .ok (.iaload, 1) := dg77_dL_law.2.2.2.2.2.2.2.2.2.2.2.2.2.2.2.1
theorem dL_law_2243 : decode cL_law 2243 = .ok (.invokevirtual 232, 3) := dg77_dL_law.2.2.2.2.2.2.2.2.2.2.2.2.2.2.2.2.1
theorem dL_law_2246 : decode cL_law 2246 = .ok (.istore 6, 2) := dg77_dL_law.2.2.2.2.2.2.2.2.2.2.2.2.2.2.2.2.2.1
theorem dL_law_2248 : decode cL_law 2248 = .ok (.aload_n 2, 1) := dg77_dL_law.2.2.2.2.2.2.2.2.2.2.2.2.2.2.2.2.2.2.1
theorem dL_law_2249 : decode cL_law 2249 = .ok (.invokevirtual 128, 3) := dg77_dL_law.2.2.2.2.2.2.2.2.2.2.2.2.2.2.2.2.2.2.2.1
theorem dL_law_2252 : decode cL_law 2252 = .ok (.iload 5, 2) := dg77_dL_law.2.2.2.2.2.2.2.2.2.2.2.2.2.2.2.2.2.2.2.2.1
theorem dL_law_2254 : decode cL_law 2254 = .ok (.if_icmp .eq 5, 3) := dg77_dL_law.2.2.2.2.2.2.2.2.2.2.2.2.2.2.2.2.2.2.2.2.2.1
theorem dL_law_2257 : decode cL_law 2257 = .ok (.iconst 0, 1) := dg77_dL_law.2.2.2.2.2.2.2.2.2.2.2.2.2.2.2.2.2.2.2.2.2.2.1
theorem dL_law_2258 : decode cL_law 2258 = .ok (.ireturn, 1) := dg77_dL_law.2.2.2.2.2.2.2.2.2.2.2.2.2.2.2.2.2.2.2.2.2.2.2.1
theorem dL_law_2259 : decode cL_law 2259 = .ok (.iload 5, 2) := dg77_dL_law.2.2.2.2.2.2.2.2.2.2.2.2.2.2.2.2.2.2.2.2.2.2.2.2.1
theorem dL_law_2261 : decode cL_law 2261 = .ok (.ifCond .ne 15, 3) := dg77_dL_law.2.2.2.2.2.2.2.2.2.2.2.2.2.2.2.2.2.2.2.2.2.2.2.2.2.1
theorem dL_law_2264 : decode cL_law 2264 = .ok (.aload_n 3, 1) := dg77_dL_law.2.2.2.2.2.2.2.2.2.2.2.2.2.2.2.2.2.2.2.2.2.2.2.2.2.2.1
theorem dL_law_2265 : decode cL_law 2265 = .ok (.iconst 0, 1) := dg77_dL_law.2.2.2.2.2.2.2.2.2.2.2.2.2.2.2.2.2.2.2.2.2.2.2.2.2.2.2.1
theorem dL_law_2266 : decode cL_law 2266 = .ok (.laload, 1) := dg77_dL_law.2.2.2.2.2.2.2.2.2.2.2.2.2.2.2.2.2.2.2.2.2.2.2.2.2.2.2.2.1
theorem dL_law_2267 : decode cL_law 2267 = .ok (.iload 6, 2) := dg77_dL_law.2.2.2.2.2.2.2.2.2.2.2.2.2.2.2.2.2.2.2.2.2.2.2.2.2.2.2.2.2.1
theorem dg78_dL_law : Jvm.Free.DS.Facts cL_law 2269 [(.i2l, 1), (.lcmp, 1), (.ifCond .eq 5, 3), (.iconst 0, 1), (.ireturn, 1), (.goto 152, 3), (.aload_n 1, 1), (.aload_n 0, 1), (.iload 4, 2), (.iconst 1, 1), (.iadd, 1), (.iaload, 1), (.aload_n 0, 1), (.iload 4, 2), (.iconst 2, 1), (.iadd, 1), (.iaload, 1), (.aload_n 3, 1), (.invokestatic 233, 3), (.istore 5, 2), (.aload_n 2, 1), (.aload_n 0, 1), (.iload 4, 2), (.iconst 1, 1), (.iadd, 1), (.iaload, 1), (.aload_n 0, 1), (.iload 4, 2), (.iconst 2, 1), (.iadd, 1)] := Jvm.Free.DS.facts 2269 _ (by decide +kernel) (by decide +kernel)
theorem dL_law_2269 : decode cL_law 2269 = .ok (.i2l, 1) := dg78_dL_law.1
theorem dL_law_2270 : decode cL_law 2270 = .ok (.lcmp, 1) := dg78_dL_law.2.1
theorem dL_law_2271 : decode cL_law 2271 = .ok (.ifCond .eq 5, 3) := dg78_dL_law.2.2.1
theorem dL_law_2274 : decode cL_law 2274 = .ok (.iconst 0, 1) := dg78_dL_law.2.2.2.1
theorem dL_law_2275 : decode cL_law 2275 = .ok (.ireturn, 1) := dg78_dL_law.2.2.2.2.1
theorem dL_law_2276 : decode cL_law 2276 = .ok (.goto 152, 3) := dg78_dL_law.2.2.2.2.2.1
theorem dL_law_2279 : decode cL_law 2279 = .ok (.aload_n 1, 1) := dg78_dL_law.2.2.2.2.2.2.1
theorem dL_law_2280 : decode cL_law 2280 = .ok (.aload_n 0, 1) := dg78_dL_law.2.2.2.2.2.2.2.1
theorem dL_law_2281 : decode cL_law 2281 = .ok (.iload 4, 2) := dg78_dL_law.2.2.2.2.2.2.2.2.1
theorem dL_law_2283 : decode cL_law 2283 = .ok (.iconst 1, 1) := dg78_dL_law.2.2.2.2.2.2.2.2.2.1
theorem dL_law_2284 : decode cL_law 2284 = .ok (.iadd, 1) := dg78_dL_law.2.2.2.2.2.2.2.2.2.2.1
theorem dL_law_2285 : decode cL_law 2285 = .ok (.iaload, 1) := dg78_dL_law.2.2.2.2.2.2.2.2.2.2.2.1
theorem dL_law_2286 : decode cL_law 2286 = .ok (.aload_n 0, 1) := dg78_dL_law.2.2.2.2.2.2.2.2.2.2.2.2.1
theorem dL_law_2287 : decode cL_law 2287 = .ok (.iload 4, 2) := dg78_dL_law.2.2.2.2.2.2.2.2.2.2.2.2.2.1
theorem dL_law_2289 : decode cL_law 2289 = .ok (.iconst 2, 1) := dg78_dL_law.2.2.2.2.2.2.2.2.2.2.2.2.2.2.1
theorem dL_law_2290 : decode cL_law 2290 = .ok (.iadd, 1) := dg78_dL_law.2.2.2.2.2.2.2.2.2.2.2.2.2.2.2.1
theorem dL_law_2291 : decode cL_law 2291 = .ok (.iaload, 1) := dg78_dL_law.2.2.2.2.2.2.2.2.2.2.2.2.2.2.2.2.1
theorem dL_law_2292 : decode cL_law 2292 = .ok (.aload_n 3, 1) := dg78_dL_law.2.2.2.2.2.2.2.2.2.2.2.2.2.2.2.2.2.1
theorem dL_law_2293 : decode cL_law 2293 = .ok (.invokestatic 233, 3) := dg78_dL_law.2.2.2.2.2.2.2.2.2.2.2.2.2.2.2.2.2.2.1
theorem dL_law_2296 : decode cL_law 2296 = .ok (.istore 5, 2) := dg78_dL_law.2.2.2.2.2.2.2.2.2.2.2.2.2.2.2.2.2.2.2.1
theorem dL_law_2298 : decode cL_law 2298 = .ok (.aload_n 2, 1) := dg78_dL_law.2.2.2.2.2.2.2.2.2.2.2.2.2.2.2.2.2.2.2.2.1
theorem dL_law_2299 : decode cL_law 2299 = .ok (.aload_n 0, 1) := dg78_dL_law.2.2.2.2.2.2.2.2.2.2.2.2.2.2.2.2.2.2.2.2.2.1
theorem dL_law_2300 : decode cL_law 2300 = .ok (.iload 4, 2) := dg78_dL_law.2.2.2.2.2.2.2.2.2.2.2.2.2.2.2.2.2.2.2.2.2.2.1
theorem dL_law_2302 : decode cL_law 2302 = .ok (.iconst 1, 1) := dg78_dL_law.2.2.2.2.2.2.2.2.2.2.2.2.2.2.2.2.2.2.2.2.2.2.2.1
theorem dL_law_2303 : decode cL_law 2303 = .ok (.iadd, 1) := dg78_dL_law.2.2.2.2.2.2.2.2.2.2.2.2.2.2.2.2.2.2.2.2.2.2.2.2.1
theorem dL_law_2304 : decode cL_law 2304 = .ok (.iaload, 1) := dg78_dL_law.2.2.2.2.2.2.2.2.2.2.2.2.2.2.2.2.2.2.2.2.2.2.2.2.2.1
theorem dL_law_2305 : decode cL_law 2305 = .ok (.aload_n 0, 1) := dg78_dL_law.2.2.2.2.2.2.2.2.2.2.2.2.2.2.2.2.2.2.2.2.2.2.2.2.2.2.1
theorem dL_law_2306 : decode cL_law 2306 = .ok (.iload 4, 2) := dg78_dL_law.2.2.2.2.2.2.2.2.2.2.2.2.2.2.2.2.2.2.2.2.2.2.2.2.2.2.2.1
theorem dL_law_2308 : decode cL_law 2308 = .ok (.iconst 2, 1) := dg78_dL_law.2.2.2.2.2.2.2.2.2.2.2.2.2.2.2.2.2.2.2.2.2.2.2.2.2.2.2.2.1
theorem dL_law_2309 : decode cL_law 2309 = .ok (.iadd, 1) := dg78_dL_law.2.2.2.2.2.2.2.2.2.2.2.2.2.2.2.2.2.2.2.2.2.2.2.2.2.2.2.2.2.1
theorem dg79_dL_law : Jvm.Free.DS.Facts cL_law 2310 [(.iaload, 1), (.invokevirtual 235, 3), (.istore 6, 2), (.aload_n 2, 1), (.invokevirtual 128, 3), (.iload 5, 2), (.if_icmp .eq 5, 3), (.iconst 0, 1), (.ireturn, 1), (.iload 5, 2), (.ifCond .ne 15, 3), (.aload_n 3, 1), (.iconst 0, 1), (.laload, 1), (.iload 6, 2), (.i2l, 1), (.lcmp, 1), (.ifCond .eq 5, 3), (.iconst 0, 1), (.ireturn, 1), (.goto 84, 3), (.aload_n 1, 1), (.aload_n 0, 1), (.iload 4, 2), (.iconst 1, 1), (.iadd, 1), (.iaload, 1), (.aload_n 3, 1), (.invokestatic 236, 3), (.istore 5, 2)] := Jvm.Free.DS.facts 2310 _ (by decide +kernel) (by decide +kernel)
theorem dL_law_2310 : decode cL_law 2310 = .ok (.iaload, 1) := dg79_dL_law.1
theorem dL_law_2311 : decode cL_law 2311 = .ok (.invokevirtual 235, 3) := dg79_dL_law.2.1
theorem dL_law_2314 : decode cL_law 2314 = .ok (.istore 6, 2) := dg79_dL_law.2.2.1
theorem dL_law_2316 : decode cL_law 2316 = .ok (.aload_n 2, 1) := dg79_dL_law.2.2.2.1
theorem dL_law_2317 : decode cL_law 2317 = .ok (.invokevirtual 128, 3) := dg79_dL_law.2.2.2.2.1
theorem dL_law_2320 : decode cL_law 2320 = .ok (.iload 5, 2) := dg79_dL_law.2.2.2.2.2.1
theorem dL_law_2322 : decode cL_law 2322 = .ok (.if_icmp .eq 5, 3) := dg79_dL_law.2.2.2.2.2.2.1
theorem dL_law_2325 : decode cL_law 2325 = .ok (.iconst 0, 1) := dg79_dL_law.2.2.2.2.2.2.2.1
theorem dL_law_2326 : decode cL_law 2326 = .ok (.ireturn, 1) := dg79_dL_law.2.2.2.2.2.2.2.2.1
theorem dL_law_2327 : decode cL_law 2327 = .ok (.iload 5, 2) := dg79_dL_law.2.2.2.2.2.2.2.2.2.1
theorem dL_law_2329 : decode cL_law 2329 = .ok (.ifCond .ne 15, 3) := dg79_dL_law.2.2.2.2.2.2.2.2.2.2.1
theorem dL_law_2332 : decode cL_law 2332 = .ok (.aload_n 3, 1) := dg79_dL_law.2.2.2.2.2.2.2.2.2.2.2.1
theorem dL_law_2333 : decode cL_law 2333 = .ok (.iconst 0, 1) := dg79_dL_law.2.2.2.2.2.2.2.2.2.2.2.2.1
theorem dL_law_2334 : decode cL_law 2334 = .ok (.laload, 1) := dg79_dL_law.2.2.2.2.2.2.2.2.2.2.2.2.2.1
theorem dL_law_2335 : decode cL_law 2335 = .ok (.iload 6, 2) := dg79_dL_law.2.2.2.2.2.2.2.2.2.2.2.2.2.2.1
theorem dL_law_2337 : decode cL_law 2337 = .ok (.i2l, 1) := dg79_dL_law.2.2.2.2.2.2.2.2.2.2.2.2.2.2.2.1
theorem dL_law_2338 : decode cL_law 2338 = .ok (.lcmp, 1) := dg79_dL_law.2.2.2.2.2.2.2.2.2.2.2.2.2.2.2.2.1
theorem dL_law_2339 : decode cL_law 2339 = .ok (.ifCond .eq 5, 3) := dg79_dL_law.2.2.2.2.2.2.2.2.2.2.2.2.2.2.2.2.2.1
theorem dL_law_2342 : decode cL_law 2342 = .ok (.iconst 0, 1) := dg79_dL_law.2.2.2.2.2.2.2.2.2.2.2.2.2.2.2.2.2.2.1
theorem dL_law_2343 : decode cL_law 2343 = .ok (.ireturn, 1) := dg79_dL_law.2.2.2.2.2.2.2.2.2.2.2.2.2.2.2.2.2.2.2.1
theorem dL_law_2344 : decode cL_law 2344 = .ok (.goto 84, 3) := dg79_dL_law.2.2.2.2.2.2.2.2.2.2.2.2.2.2.2.2.2.2.2.2.1
theorem dL_law_2347 : decode cL_law 2347 = .ok (.aload_n 1, 1) := dg79_dL_law.2.2.2.2.2.2.2.2.2.2.2.2.2.2.2.2.2.2.2.2.2.1
theorem dL_law_2348 : decode cL_law 2348 = .ok (.aload_n 0, 1) := dg79_dL_law.2.2.2.2.2.2.2.2.2.2.2.2.2.2.2.2.2.2.2.2.2.2.1
theorem dL_law_2349 : decode cL_law 2349 = .ok (.iload 4, 2) := dg79_dL_law.2.2.2.2.2.2.2.2.2.2.2.2.2.2.2.2.2.2.2.2.2.2.2.1
theorem dL_law_2351 : decode cL_law 2351 = .ok (.iconst 1, 1) := dg79_dL_law.2.2.2.2.2.2.2.2.2.2.2.2.2.2.2.2.2.2.2.2.2.2.2.2.1
theorem dL_law_2352 : decode cL_law 2352 = .ok (.iadd, 1) := dg79_dL_law.2.2.2.2.2.2.2.2.2.2.2.2.2.2.2.2.2.2.2.2.2.2.2.2.2.1
theorem dL_law_2353 : decode cL_law 2353 = .ok (.iaload, 1) := dg79_dL_law.2.2.2.2.2.2.2.2.2.2.2.2.2.2.2.2.2.2.2.2.2.2.2.2.2.2.1
theorem dL_law_2354 : decode cL_law 2354 = .ok (.aload_n 3, 1) := dg79_dL_law.2.2.2.2.2.2.2.2.2.2.2.2.2.2.2.2.2.2.2.2.2.2.2.2.2.2.2.1
theorem dL_law_2355 : decode cL_law 2355 = .ok (.invokestatic 236, 3) := dg79_dL_law.2.2.2.2.2.2.2.2.2.2.2.2.2.2.2.2.2.2.2.2.2.2.2.2.2.2.2.2.1
theorem dL_law_2358 : decode cL_law 2358 = .ok (.istore 5, 2) := dg79_dL_law.2.2.2.2.2.2.2.2.2.2.2.2.2.2.2.2.2.2.2.2.2.2.2.2.2.2.2.2.2.1
theorem dg80_dL_law : Jvm.Free.DS.Facts cL_law 2360 [(.aload_n 2, 1), (.aload_n 0, 1), (.iload 4, 2), (.iconst 1, 1), (.iadd, 1), (.iaload, 1), (.invokevirtual 238, 3), (.istore 6, 2), (.aload_n 2, 1), (.invokevirtual 128, 3), (.iload 5, 2), (.if_icmp .eq 5, 3), (.iconst 0, 1), (.ireturn, 1), (.iload 5, 2), (.ifCond .ne 15, 3), (.aload_n 3, 1), (.iconst 0, 1), (.laload, 1), (.iload 6, 2), (.i2l, 1), (.lcmp, 1), (.ifCond .eq 5, 3), (.iconst 0, 1), (.ireturn, 1), (.goto 28, 3), (.aload_n 1, 1), (.aload_n 0, 1), (.iload 4, 2), (.iconst 1, 1)] := Jvm.Free.DS.facts 2360 _ (by decide +kernel) (by decide +kernel)
theorem dL_law_2360 : decode cL_law 2360 = .ok (.aload_n 2, 1) := dg80_dL_law.1
theorem dL_law_2361 : decode cL_law 2361 = .ok (.aload_n 0, 1) := dg80_dL_law.2.1
theorem dL_law_2362 : decode cL_law 2362 = .ok (.iload 4, 2) := dg80_dL_law.2.2.1
theorem dL_law_2364 : decode cL_law 2364 = .ok (.iconst 1, 1) := dg80_dL_law.2.2.2.1
theorem dL_law_2365 : decode cL_law 2365 = .ok (.iadd, 1) := dg80_dL_law.2.2.2.2.1
theorem dL_law_2366 : decode cL_law 2366 = .ok (.iaload, 1) := dg80_dL_law.2.2.2.2.2.1
theorem dL_law_2367 : decode cL_law 2367 = .ok (.invokevirtual 238, 3) := dg80_dL_law.2.2.2.2.2.2.1
theorem dL_law_2370 : decode cL_law 2370 = .ok (.istore 6, 2) := dg80_dL_law.2.2.2.2.2.2.2.1
theorem dL_law_2372 : decode cL_law 2372 = .ok (.aload_n 2, 1) := dg80_dL_law.2.2.2.2.2.2.2.2.1
theorem dL_law_2373 : decode cL_law 2373 = .ok (.invokevirtual 128, 3) := dg80_dL_law.2.2.2.2.2.2.2.2.2.1
theorem dL_law_2376 : decode cL_law 2376 = .ok (.iload 5, 2) := dg80_dL_law.2.2.2.2.2.2.2.2.2.2.1
theorem dL_law_2378 : decode cL_law 2378 = .ok (.if_icmp .eq 5, 3) := dg80_dL_law.2.2.2.2.2.2.2.2.2.2.2.1
theorem dL_law_2381 : decode cL_law 2381 = .ok (.iconst 0, 1) := dg80_dL_law.2.2.2.2.2.2.2.2.2.2.2.2.1
theorem dL_law_2382 : decode cL_law 2382 = .ok (.ireturn, 1) := dg80_dL_law.2.2.2.2.2.2.2.2.2.2.2.2.2.1
theorem dL_law_2383 : decode cL_law 2383 = .ok (.iload 5, 2) := dg80_dL_law.2.2.2.2.2.2.2.2.2.2.2.2.2.2.1
theorem dL_law_2385 : decode cL_law 2385 = .ok (.ifCond .ne 15, 3) := dg80_dL_law.2.2.2.2.2.2.2.2.2.2.2.2.2.2.2.1
theorem dL_law_2388 : decode cL_law 2388 = .ok (.aload_n 3, 1) := dg80_dL_law.2.2.2.2.2.2.2.2.2.2.2.2.2.2.2.2.1
theorem dL_law_2389 : decode cL_law 2389 = .ok (.iconst 0, 1) := dg80_dL_law.2.2.2.2.2.2.2.2.2.2.2.2.2.2.2.2.2.1
theorem dL_law_2390 : decode cL_law 2390 = .ok (.laload, 1) := dg80_dL_law.2.2.2.2.2.2.2.2.2.2.2.2.2.2.2.2.2.2.1
theorem dL_law_2391 : decode cL_law 2391 = .ok (.iload 6, 2) := dg80_dL_law.2.2.2.2.2.2.2.2.2.2.2.2.2.2.2.2.2.2.2.1
theorem dL_law_2393 : decode cL_law 2393 = .ok (.i2l, 1) := dg80_dL_law.2.2.2.2.2.2.2.2.2.2.2.2.2.2.2.2.2.2.2.2.1
theorem dL_law_2394 : decode cL_law 2394 = .ok (.lcmp, 1) := dg80_dL_law.2.2.2.2.2.2.2.2.2.2.2.2.2.2.2.2.2.2.2.2.2.1
theorem dL_law_2395 : decode cL_law 2395 = .ok (.ifCond .eq 5, 3) := dg80_dL_law.2.2.2.2.2.2.2.2.2.2.2.2.2.2.2.2.2.2.2.2.2.2.1
theorem dL_law_2398 : decode cL_law 2398 = .ok (.iconst 0, 1) := dg80_dL_law.2.2.2.2.2.2.2.2.2.2.2.2.2.2.2.2.2.2.2.2.2.2.2.1
theorem dL_law_2399 : decode cL_law 2399 = .ok (.ireturn, 1) := dg80_dL_law.2.2.2.2.2.2.2.2.2.2.2.2.2.2.2.2.2.2.2.2.2.2.2.2.1
theorem dL_law_2400 : decode cL_law 2400 = .ok (.goto 28, 3) := dg80_dL_law.2.2.2.2.2.2.2.2.2.2.2.2.2.2.2.2.2.2.2.2.2.2.2.2.2.1
theorem dL_law_2403 : decode cL_law 2403 = .ok (.aload_n 1, 1) := dg80_dL_law.2.2.2.2.2.2.2.2.2.2.2.2.2.2.2.2.2.2.2.2.2.2.2.2.2.2.1
theorem dL_law_2404 : decode cL_law 2404 = .ok (.aload_n 0, 1) := dg80_dL_law.2.2.2.2.2.2.2.2.2.2.2.2.2.2.2.2.2.2.2.2.2.2.2.2.2.2.2.1
theorem dL_law_2405 : decode cL_law 2405 = .ok (.iload 4, 2) := dg80_dL_law.2.2.2.2.2.2.2.2.2.2.2.2.2.2.2.2.2.2.2.2.2.2.2.2.2.2.2.2.1
theorem dL_law_2407 : decode cL_law 2407 = .ok (.iconst 1, 1) := dg80_dL_law.2.2.2.2.2.2.2.2.2.2.2.2.2.2.2.2.2.2.2.2.2.2.2.2.2.2.2.2.2.1
theorem dg81_dL_law : Jvm.Free.DS.Facts cL_law 2408 [(.iadd, 1), (.iaload, 1), (.invokevirtual 239, 3), (.aload_n 2, 1), (.aload_n 0, 1), (.iload 4, 2), (.iconst 1, 1), (.iadd, 1), (.iaload, 1), (.invokevirtual 242, 3), (.if_icmp .eq 5, 3), (.iconst 0, 1), (.ireturn, 1), (.iinc 4 6, 3), (.goto (-2408), 3), (.iconst 1, 1), (.ireturn, 1)] := Jvm.Free.DS.facts 2408 _ (by decide +kernel) (by decide +kernel)
theorem dL_law_2408 : decode cL_law 2408 = .ok (.iadd, 1) := dg81_dL_law.1
theorem dL_law_2409 : decode cL_law 2409 = .ok (.iaload, 1) := dg81_dL_law.2.1
theorem dL_law_2410 : decode cL_law 2410 = .ok (.invokevirtual 239, 3) := dg81_dL_law.2.2.1
theorem dL_law_2413 : decode cL_law 2413 = .ok (.aload_n 2, 1) := dg81_dL_law.2.2.2.1
theorem dL_law_2414 : decode cL_law 2414 = .ok (.aload_n 0, 1) := dg81_dL_law.2.2.2.2.1
theorem dL_law_2415 : decode cL_law 2415 = .ok (.iload 4, 2) := dg81_dL_law.2.2.2.2.2.1
theorem dL_law_2417 : decode cL_law 2417 = .ok (.iconst 1, 1) := dg81_dL_law.2.2.2.2.2.2.1
theorem dL_law_2418 : decode cL_law 2418 = .ok (.iadd, 1) := dg81_dL_law.2.2.2.2.2.2.2.1
theorem dL_law_2419 : decode cL_law 2419 = .ok (.iaload, 1) := dg81_dL_law.2.2.2.2.2.2.2.2.1
theorem dL_law_2420 : decode cL_law 2420 = .ok (.invokevirtual 242, 3) := dg81_dL_law.2.2.2.2.2.2.2.2.2.1
theorem dL_law_2423 : decode cL_law 2423 = .ok (.if_icmp .eq 5, 3) := dg81_dL_law.2.2.2.2.2.2.2.2.2.2.1
theorem dL_law_2426 : decode cL_law 2426 = .ok (.iconst 0, 1) := dg81_dL_law.2.2.2.2.2.2.2.2.2.2.2.1
theorem dL_law_2427 : decode cL_law 2427 = .ok (.ireturn, 1) := dg81_dL_law.2.2.2.2.2.2.2.2.2.2.2.2.1
theorem dL_law_2428 : decode cL_law 2428 = .ok (.iinc 4 6, 3) := dg81_dL_law.2.2.2.2.2.2.2.2.2.2.2.2.2.1
theorem dL_law_2431 : decode cL_law 2431 = .ok (.goto (-2408), 3) := dg81_dL_law.2.2.2.2.2.2.2.2.2.2.2.2.2.2.1
theorem dL_law_2434 : decode cL_law 2434 = .ok (.iconst 1, 1) := dg81_dL_law.2.2.2.2.2.2.2.2.2.2.2.2.2.2.2.1
theorem dL_law_2435 : decode cL_law 2435 = .ok (.ireturn, 1) := dg81_dL_law.2.2.2.2.2.2.2.2.2.2.2.2.2.2.2.2.1
