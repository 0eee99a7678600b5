theorem dL_tag_0 : decode cL_tag 0 = .ok (.aload_n 2, 1) := by decide +kernel
theorem dL_tag_1 : decode cL_tag 1 = .ok (.iconst 0, 1) := by decide +kernel
theorem dL_tag_2 : decode cL_tag 2 = .ok (.aload_n 0, 1) := by decide +kernel
theorem dL_tag_3 : decode cL_tag 3 = .ok (.iload_n 1, 1) := by decide +kernel
theorem dL_tag_4 : decode cL_tag 4 = .ok (.invokevirtual 7, 3) := by decide +kernel
theorem dL_tag_7 : decode cL_tag 7 = .ok (.i2l, 1) := by decide +kernel
theorem dL_tag_8 : decode cL_tag 8 = .ok (.lastore, 1) := by decide +kernel
theorem dL_tag_9 : decode cL_tag 9 = .ok (.goto 6, 3) := by decide +kernel
theorem dL_tag_12 : decode cL_tag 12 = .ok (.astore_n 3, 1) := by decide +kernel
theorem dL_tag_13 : decode cL_tag 13 = .ok (.iconst 1, 1) := by decide +kernel
theorem dL_tag_14 : decode cL_tag 14 = .ok (.ireturn, 1) := by decide +kernel
theorem dL_tag_15 : decode cL_tag 15 = .ok (.iconst 0, 1) := by decide +kernel
theorem dL_tag_16 : decode cL_tag 16 = .ok (.ireturn, 1) := by decide +kernel
theorem dL_body_0 : decode cL_body 0 = .ok (.aload_n 2, 1) := by decide +kernel
theorem dL_body_1 : decode cL_body 1 = .ok (.iconst 0, 1) := by decide +kernel
theorem dL_body_2 : decode cL_body 2 = .ok (.aload_n 0, 1) := by decide +kernel
theorem dL_body_3 : decode cL_body 3 = .ok (.iload_n 1, 1) := by decide +kernel
theorem dL_body_4 : decode cL_body 4 = .ok (.invokevirtual 15, 3) := by decide +kernel
theorem dL_body_7 : decode cL_body 7 = .ok (.i2l, 1) := by decide +kernel
theorem dL_body_8 : decode cL_body 8 = .ok (.lastore, 1) := by decide +kernel
theorem dL_body_9 : decode cL_body 9 = .ok (.goto 6, 3) := by decide +kernel
theorem dL_body_12 : decode cL_body 12 = .ok (.astore_n 3, 1) := by decide +kernel
theorem dL_body_13 : decode cL_body 13 = .ok (.iconst 1, 1) := by decide +kernel
theorem dL_body_14 : decode cL_body 14 = .ok (.ireturn, 1) := by decide +kernel
theorem dL_body_15 : decode cL_body 15 = .ok (.iconst 0, 1) := by decide +kernel
theorem dL_body_16 : decode cL_body 16 = .ok (.ireturn, 1) := by decide +kernel
theorem dL_bucket_0 : decode cL_bucket 0 = .ok (.aload_n 3, 1) := by decide +kernel
theorem dL_bucket_1 : decode cL_bucket 1 = .ok (.iconst 0, 1) := by decide +kernel
theorem dL_bucket_2 : decode cL_bucket 2 = .ok (.aload_n 0, 1) := by decide +kernel
theorem dL_bucket_3 : decode cL_bucket 3 = .ok (.iload_n 1, 1) := by decide +kernel
theorem dL_bucket_4 : decode cL_bucket 4 = .ok (.iload_n 2, 1) := by decide +kernel
theorem dL_bucket_5 : decode cL_bucket 5 = .ok (.invokevirtual 18, 3) := by decide +kernel
theorem dL_bucket_8 : decode cL_bucket 8 = .ok (.i2l, 1) := by decide +kernel
theorem dL_bucket_9 : decode cL_bucket 9 = .ok (.lastore, 1) := by decide +kernel
theorem dL_bucket_10 : decode cL_bucket 10 = .ok (.goto 7, 3) := by decide +kernel
theorem dL_bucket_13 : decode cL_bucket 13 = .ok (.astore 4, 2) := by decide +kernel
theorem dL_bucket_15 : decode cL_bucket 15 = .ok (.iconst 1, 1) := by decide +kernel
theorem dL_bucket_16 : decode cL_bucket 16 = .ok (.ireturn, 1) := by decide +kernel
theorem dL_bucket_17 : decode cL_bucket 17 = .ok (.iconst 0, 1) := by decide +kernel
theorem dL_bucket_18 : decode cL_bucket 18 = .ok (.ireturn, 1) := by decide +kernel
theorem dL_found_0 : decode cL_found 0 = .ok (.aload_n 2, 1) := by decide +kernel
theorem dL_found_1 : decode cL_found 1 = .ok (.iconst 0, 1) := by decide +kernel
theorem dL_found_2 : decode cL_found 2 = .ok (.aload_n 0, 1) := by decide +kernel
theorem dL_found_3 : decode cL_found 3 = .ok (.iload_n 1, 1) := by decide +kernel
theorem dL_found_4 : decode cL_found 4 = .ok (.invokevirtual 22, 3) := by decide +kernel
theorem dL_found_7 : decode cL_found 7 = .ok (.ifCond .eq 7, 3) := by decide +kernel
theorem dL_found_10 : decode cL_found 10 = .ok (.lconst 1, 1) := by decide +kernel
theorem dL_found_11 : decode cL_found 11 = .ok (.goto 4, 3) := by decide +kernel
theorem dL_found_14 : decode cL_found 14 = .ok (.lconst 0, 1) := by decide +kernel
theorem dL_found_15 : decode cL_found 15 = .ok (.lastore, 1) := by decide +kernel
theorem dL_found_16 : decode cL_found 16 = .ok (.goto 6, 3) := by decide +kernel
theorem dL_found_19 : decode cL_found 19 = .ok (.astore_n 3, 1) := by decide +kernel
theorem dL_found_20 : decode cL_found 20 = .ok (.iconst 1, 1) := by decide +kernel
theorem dL_found_21 : decode cL_found 21 = .ok (.ireturn, 1) := by decide +kernel
theorem dL_found_22 : decode cL_found 22 = .ok (.iconst 0, 1) := by decide +kernel
theorem dL_found_23 : decode cL_found 23 = .ok (.ireturn, 1) := by decide +kernel
theorem dL_place_0 : decode cL_place 0 = .ok (.aload_n 2, 1) := by decide +kernel
theorem dL_place_1 : decode cL_place 1 = .ok (.iconst 0, 1) := by decide +kernel
theorem dL_place_2 : decode cL_place 2 = .ok (.aload_n 0, 1) := by decide +kernel
theorem dL_place_3 : decode cL_place 3 = .ok (.iload_n 1, 1) := by decide +kernel
theorem dL_place_4 : decode cL_place 4 = .ok (.invokevirtual 26, 3) := by decide +kernel
theorem dL_place_7 : decode cL_place 7 = .ok (.i2l, 1) := by decide +kernel
theorem dL_place_8 : decode cL_place 8 = .ok (.lastore, 1) := by decide +kernel
theorem dL_place_9 : decode cL_place 9 = .ok (.goto 6, 3) := by decide +kernel
theorem dL_place_12 : decode cL_place 12 = .ok (.astore_n 3, 1) := by decide +kernel
theorem dL_place_13 : decode cL_place 13 = .ok (.iconst 1, 1) := by decide +kernel
theorem dL_place_14 : decode cL_place 14 = .ok (.ireturn, 1) := by decide +kernel
theorem dL_place_15 : decode cL_place 15 = .ok (.iconst 0, 1) := by decide +kernel
theorem dL_place_16 : decode cL_place 16 = .ok (.ireturn, 1) := by decide +kernel
theorem dL_present_0 : decode cL_present 0 = .ok (.aload_n 2, 1) := by decide +kernel
theorem dL_present_1 : decode cL_present 1 = .ok (.iconst 0, 1) := by decide +kernel
theorem dL_present_2 : decode cL_present 2 = .ok (.aload_n 0, 1) := by decide +kernel
theorem dL_present_3 : decode cL_present 3 = .ok (.iload_n 1, 1) := by decide +kernel
theorem dL_present_4 : decode cL_present 4 = .ok (.invokevirtual 29, 3) := by decide +kernel
theorem dL_present_7 : decode cL_present 7 = .ok (.i2l, 1) := by decide +kernel
theorem dL_present_8 : decode cL_present 8 = .ok (.lastore, 1) := by decide +kernel
theorem dL_present_9 : decode cL_present 9 = .ok (.goto 6, 3) := by decide +kernel
theorem dL_present_12 : decode cL_present 12 = .ok (.astore_n 3, 1) := by decide +kernel
theorem dL_present_13 : decode cL_present 13 = .ok (.iconst 1, 1) := by decide +kernel
theorem dL_present_14 : decode cL_present 14 = .ok (.ireturn, 1) := by decide +kernel
theorem dL_present_15 : decode cL_present 15 = .ok (.iconst 0, 1) := by decide +kernel
theorem dL_present_16 : decode cL_present 16 = .ok (.ireturn, 1) := by decide +kernel
theorem dL_add_0 : decode cL_add 0 = .ok (.aload_n 2, 1) := by decide +kernel
theorem dL_add_1 : decode cL_add 1 = .ok (.iconst 0, 1) := by decide +kernel
theorem dL_add_2 : decode cL_add 2 = .ok (.aload_n 0, 1) := by decide +kernel
theorem dL_add_3 : decode cL_add 3 = .ok (.iload_n 1, 1) := by decide +kernel
theorem dL_add_4 : decode cL_add 4 = .ok (.invokevirtual 34, 3) := by decide +kernel
theorem dL_add_7 : decode cL_add 7 = .ok (.i2l, 1) := by decide +kernel
theorem dL_add_8 : decode cL_add 8 = .ok (.lastore, 1) := by decide +kernel
theorem dL_add_9 : decode cL_add 9 = .ok (.goto 9, 3) := by decide +kernel
theorem dL_add_12 : decode cL_add 12 = .ok (.astore_n 3, 1) := by decide +kernel
theorem dL_add_13 : decode cL_add 13 = .ok (.iconst 1, 1) := by decide +kernel
theorem dL_add_14 : decode cL_add 14 = .ok (.ireturn, 1) := by decide +kernel
theorem dL_add_15 : decode cL_add 15 = .ok (.astore_n 3, 1) := by decide +kernel
theorem dL_add_16 : decode cL_add 16 = .ok (.iconst 2, 1) := by decide +kernel
theorem dL_add_17 : decode cL_add 17 = .ok (.ireturn, 1) := by decide +kernel
theorem dL_add_18 : decode cL_add 18 = .ok (.iconst 0, 1) := by decide +kernel
theorem dL_add_19 : decode cL_add 19 = .ok (.ireturn, 1) := by decide +kernel
theorem dL_addShortest_0 : decode cL_addShortest 0 = .ok (.aload_n 2, 1) := by decide +kernel
theorem dL_addShortest_1 : decode cL_addShortest 1 = .ok (.iconst 0, 1) := by decide +kernel
theorem dL_addShortest_2 : decode cL_addShortest 2 = .ok (.aload_n 0, 1) := by decide +kernel
theorem dL_addShortest_3 : decode cL_addShortest 3 = .ok (.iload_n 1, 1) := by decide +kernel
theorem dL_addShortest_4 : decode cL_addShortest 4 = .ok (.invokevirtual 39, 3) := by decide +kernel
theorem dL_addShortest_7 : decode cL_addShortest 7 = .ok (.i2l, 1) := by decide +kernel
theorem dL_addShortest_8 : decode cL_addShortest 8 = .ok (.lastore, 1) := by decide +kernel
theorem dL_addShortest_9 : decode cL_addShortest 9 = .ok (.goto 9, 3) := by decide +kernel
theorem dL_addShortest_12 : decode cL_addShortest 12 = .ok (.astore_n 3, 1) := by decide +kernel
theorem dL_addShortest_13 : decode cL_addShortest 13 = .ok (.iconst 1, 1) := by decide +kernel
theorem dL_addShortest_14 : decode cL_addShortest 14 = .ok (.ireturn, 1) := by decide +kernel
theorem dL_addShortest_15 : decode cL_addShortest 15 = .ok (.astore_n 3, 1) := by decide +kernel
theorem dL_addShortest_16 : decode cL_addShortest 16 = .ok (.iconst 2, 1) := by decide +kernel
theorem dL_addShortest_17 : decode cL_addShortest 17 = .ok (.ireturn, 1) := by decide +kernel
theorem dL_addShortest_18 : decode cL_addShortest 18 = .ok (.iconst 0, 1) := by decide +kernel
theorem dL_addShortest_19 : decode cL_addShortest 19 = .ok (.ireturn, 1) := by decide +kernel
theorem dL_delete_0 : decode cL_delete 0 = .ok (.aload_n 2, 1) := by decide +kernel
theorem dL_delete_1 : decode cL_delete 1 = .ok (.iconst 0, 1) := by decide +kernel
theorem dL_delete_2 : decode cL_delete 2 = .ok (.aload_n 0, 1) := by decide +kernel
theorem dL_delete_3 : decode cL_delete 3 = .ok (.iload_n 1, 1) := by decide +kernel
theorem dL_delete_4 : decode cL_delete 4 = .ok (.invokevirtual 42, 3) := by decide +kernel
theorem dL_delete_7 : decode cL_delete 7 = .ok (.i2l, 1) := by decide +kernel
theorem dL_delete_8 : decode cL_delete 8 = .ok (.lastore, 1) := by decide +kernel
theorem dL_delete_9 : decode cL_delete 9 = .ok (.goto 9, 3) := by decide +kernel
theorem dL_delete_12 : decode cL_delete 12 = .ok (.astore_n 3, 1) := by decide +kernel
theorem dL_delete_13 : decode cL_delete 13 = .ok (.iconst 1, 1) := by decide +kernel
theorem dL_delete_14 : decode cL_delete 14 = .ok (.ireturn, 1) := by decide +kernel
theorem dL_delete_15 : decode cL_delete 15 = .ok (.astore_n 3, 1) := by decide +kernel
theorem dL_delete_16 : decode cL_delete 16 = .ok (.iconst 2, 1) := by decide +kernel
theorem dL_delete_17 : decode cL_delete 17 = .ok (.ireturn, 1) := by decide +kernel
theorem dL_delete_18 : decode cL_delete 18 = .ok (.iconst 0, 1) := by decide +kernel
theorem dL_delete_19 : decode cL_delete 19 = .ok (.ireturn, 1) := by decide +kernel
theorem dL_grow_0 : decode cL_grow 0 = .ok (.aload_n 1, 1) := by decide +kernel
theorem dL_grow_1 : decode cL_grow 1 = .ok (.iconst 0, 1) := by decide +kernel
theorem dL_grow_2 : decode cL_grow 2 = .ok (.aload_n 0, 1) := by decide +kernel
theorem dL_grow_3 : decode cL_grow 3 = .ok (.invokevirtual 45, 3) := by decide +kernel
theorem dL_grow_6 : decode cL_grow 6 = .ok (.i2l, 1) := by decide +kernel
theorem dL_grow_7 : decode cL_grow 7 = .ok (.lastore, 1) := by decide +kernel
theorem dL_grow_8 : decode cL_grow 8 = .ok (.goto 6, 3) := by decide +kernel
theorem dL_grow_11 : decode cL_grow 11 = .ok (.astore_n 2, 1) := by decide +kernel
theorem dL_grow_12 : decode cL_grow 12 = .ok (.iconst 1, 1) := by decide +kernel
theorem dL_grow_13 : decode cL_grow 13 = .ok (.ireturn, 1) := by decide +kernel
theorem dL_grow_14 : decode cL_grow 14 = .ok (.iconst 0, 1) := by decide +kernel
theorem dL_grow_15 : decode cL_grow 15 = .ok (.ireturn, 1) := by decide +kernel
theorem dL_rebuild_0 : decode cL_rebuild 0 = .ok (.aload 5, 2) := by decide +kernel
theorem dL_rebuild_2 : decode cL_rebuild 2 = .ok (.iconst 0, 1) := by decide +kernel
theorem dL_rebuild_3 : decode cL_rebuild 3 = .ok (.aload_n 0, 1) := by decide +kernel
theorem dL_rebuild_4 : decode cL_rebuild 4 = .ok (.iload_n 1, 1) := by decide +kernel
theorem dL_rebuild_5 : decode cL_rebuild 5 = .ok (.iload_n 2, 1) := by decide +kernel
theorem dL_rebuild_6 : decode cL_rebuild 6 = .ok (.iload_n 3, 1) := by decide +kernel
theorem dL_rebuild_7 : decode cL_rebuild 7 = .ok (.iload 4, 2) := by decide +kernel
theorem dL_rebuild_9 : decode cL_rebuild 9 = .ok (.invokevirtual 49, 3) := by decide +kernel
theorem dL_rebuild_12 : decode cL_rebuild 12 = .ok (.i2l, 1) := by decide +kernel
theorem dL_rebuild_13 : decode cL_rebuild 13 = .ok (.lastore, 1) := by decide +kernel
theorem dL_rebuild_14 : decode cL_rebuild 14 = .ok (.goto 11, 3) := by decide +kernel
theorem dL_rebuild_17 : decode cL_rebuild 17 = .ok (.astore 6, 2) := by decide +kernel
theorem dL_rebuild_19 : decode cL_rebuild 19 = .ok (.iconst 1, 1) := by decide +kernel
theorem dL_rebuild_20 : decode cL_rebuild 20 = .ok (.ireturn, 1) := by decide +kernel
theorem dL_rebuild_21 : decode cL_rebuild 21 = .ok (.astore 6, 2) := by decide +kernel
theorem dL_rebuild_23 : decode cL_rebuild 23 = .ok (.iconst 2, 1) := by decide +kernel
theorem dL_rebuild_24 : decode cL_rebuild 24 = .ok (.ireturn, 1) := by decide +kernel
theorem dL_rebuild_25 : decode cL_rebuild 25 = .ok (.iconst 0, 1) := by decide +kernel
theorem dL_rebuild_26 : decode cL_rebuild 26 = .ok (.ireturn, 1) := by decide +kernel
theorem dL_setLimit_0 : decode cL_setLimit 0 = .ok (.aload_n 2, 1) := by decide +kernel
theorem dL_setLimit_1 : decode cL_setLimit 1 = .ok (.iconst 0, 1) := by decide +kernel
theorem dL_setLimit_2 : decode cL_setLimit 2 = .ok (.aload_n 0, 1) := by decide +kernel
theorem dL_setLimit_3 : decode cL_setLimit 3 = .ok (.iload_n 1, 1) := by decide +kernel
theorem dL_setLimit_4 : decode cL_setLimit 4 = .ok (.invokevirtual 53, 3) := by decide +kernel
theorem dL_setLimit_7 : decode cL_setLimit 7 = .ok (.i2l, 1) := by decide +kernel
theorem dL_setLimit_8 : decode cL_setLimit 8 = .ok (.lastore, 1) := by decide +kernel
theorem dL_setLimit_9 : decode cL_setLimit 9 = .ok (.goto 6, 3) := by decide +kernel
theorem dL_setLimit_12 : decode cL_setLimit 12 = .ok (.astore_n 3, 1) := by decide +kernel
theorem dL_setLimit_13 : decode cL_setLimit 13 = .ok (.iconst 1, 1) := by decide +kernel
theorem dL_setLimit_14 : decode cL_setLimit 14 = .ok (.ireturn, 1) := by decide +kernel
theorem dL_setLimit_15 : decode cL_setLimit 15 = .ok (.iconst 0, 1) := by decide +kernel
theorem dL_setLimit_16 : decode cL_setLimit 16 = .ok (.ireturn, 1) := by decide +kernel
theorem dL_setLength_0 : decode cL_setLength 0 = .ok (.aload_n 2, 1) := by decide +kernel
theorem dL_setLength_1 : decode cL_setLength 1 = .ok (.iconst 0, 1) := by decide +kernel
theorem dL_setLength_2 : decode cL_setLength 2 = .ok (.aload_n 0, 1) := by decide +kernel
theorem dL_setLength_3 : decode cL_setLength 3 = .ok (.iload_n 1, 1) := by decide +kernel
theorem dL_setLength_4 : decode cL_setLength 4 = .ok (.invokevirtual 56, 3) := by decide +kernel
theorem dL_setLength_7 : decode cL_setLength 7 = .ok (.i2l, 1) := by decide +kernel
theorem dL_setLength_8 : decode cL_setLength 8 = .ok (.lastore, 1) := by decide +kernel
theorem dL_setLength_9 : decode cL_setLength 9 = .ok (.goto 6, 3) := by decide +kernel
theorem dL_setLength_12 : decode cL_setLength 12 = .ok (.astore_n 3, 1) := by decide +kernel
theorem dL_setLength_13 : decode cL_setLength 13 = .ok (.iconst 1, 1) := by decide +kernel
theorem dL_setLength_14 : decode cL_setLength 14 = .ok (.ireturn, 1) := by decide +kernel
theorem dL_setLength_15 : decode cL_setLength 15 = .ok (.iconst 0, 1) := by decide +kernel
theorem dL_setLength_16 : decode cL_setLength 16 = .ok (.ireturn, 1) := by decide +kernel
theorem dL_info_0 : decode cL_info 0 = .ok (.aload_n 2, 1) := by decide +kernel
theorem dL_info_1 : decode cL_info 1 = .ok (.iconst 0, 1) := by decide +kernel
theorem dL_info_2 : decode cL_info 2 = .ok (.aload_n 0, 1) := by decide +kernel
theorem dL_info_3 : decode cL_info 3 = .ok (.iload_n 1, 1) := by decide +kernel
theorem dL_info_4 : decode cL_info 4 = .ok (.invokevirtual 59, 3) := by decide +kernel
theorem dL_info_7 : decode cL_info 7 = .ok (.i2l, 1) := by decide +kernel
theorem dL_info_8 : decode cL_info 8 = .ok (.lastore, 1) := by decide +kernel
theorem dL_info_9 : decode cL_info 9 = .ok (.goto 6, 3) := by decide +kernel
theorem dL_info_12 : decode cL_info 12 = .ok (.astore_n 3, 1) := by decide +kernel
theorem dL_info_13 : decode cL_info 13 = .ok (.iconst 1, 1) := by decide +kernel
theorem dL_info_14 : decode cL_info 14 = .ok (.ireturn, 1) := by decide +kernel
theorem dL_info_15 : decode cL_info 15 = .ok (.iconst 0, 1) := by decide +kernel
theorem dL_info_16 : decode cL_info 16 = .ok (.ireturn, 1) := by decide +kernel
theorem dL_slot_0 : decode cL_slot 0 = .ok (.aload 4, 2) := by decide +kernel
theorem dL_slot_2 : decode cL_slot 2 = .ok (.iconst 0, 1) := by decide +kernel
theorem dL_slot_3 : decode cL_slot 3 = .ok (.aload_n 0, 1) := by decide +kernel
theorem dL_slot_4 : decode cL_slot 4 = .ok (.iload_n 1, 1) := by decide +kernel
theorem dL_slot_5 : decode cL_slot 5 = .ok (.iload_n 2, 1) := by decide +kernel
theorem dL_slot_6 : decode cL_slot 6 = .ok (.iload_n 3, 1) := by decide +kernel
theorem dL_slot_7 : decode cL_slot 7 = .ok (.invokevirtual 62, 3) := by decide +kernel
theorem dL_slot_10 : decode cL_slot 10 = .ok (.i2l, 1) := by decide +kernel
theorem dL_slot_11 : decode cL_slot 11 = .ok (.lastore, 1) := by decide +kernel
theorem dL_slot_12 : decode cL_slot 12 = .ok (.goto 11, 3) := by decide +kernel
theorem dL_slot_15 : decode cL_slot 15 = .ok (.astore 5, 2) := by decide +kernel
theorem dL_slot_17 : decode cL_slot 17 = .ok (.iconst 1, 1) := by decide +kernel
theorem dL_slot_18 : decode cL_slot 18 = .ok (.ireturn, 1) := by decide +kernel
theorem dL_slot_19 : decode cL_slot 19 = .ok (.astore 5, 2) := by decide +kernel
theorem dL_slot_21 : decode cL_slot 21 = .ok (.iconst 2, 1) := by decide +kernel
theorem dL_slot_22 : decode cL_slot 22 = .ok (.ireturn, 1) := by decide +kernel
theorem dL_slot_23 : decode cL_slot 23 = .ok (.iconst 0, 1) := by decide +kernel
theorem dL_slot_24 : decode cL_slot 24 = .ok (.ireturn, 1) := by decide +kernel
theorem dL_stashed_0 : decode cL_stashed 0 = .ok (.aload_n 3, 1) := by decide +kernel
theorem dL_stashed_1 : decode cL_stashed 1 = .ok (.iconst 0, 1) := by decide +kernel
theorem dL_stashed_2 : decode cL_stashed 2 = .ok (.aload_n 0, 1) := by decide +kernel
theorem dL_stashed_3 : decode cL_stashed 3 = .ok (.iload_n 1, 1) := by decide +kernel
theorem dL_stashed_4 : decode cL_stashed 4 = .ok (.iload_n 2, 1) := by decide +kernel
theorem dL_stashed_5 : decode cL_stashed 5 = .ok (.invokevirtual 66, 3) := by decide +kernel
theorem dL_stashed_8 : decode cL_stashed 8 = .ok (.i2l, 1) := by decide +kernel
theorem dL_stashed_9 : decode cL_stashed 9 = .ok (.lastore, 1) := by decide +kernel
theorem dL_stashed_10 : decode cL_stashed 10 = .ok (.goto 11, 3) := by decide +kernel
theorem dL_stashed_13 : decode cL_stashed 13 = .ok (.astore 4, 2) := by decide +kernel
theorem dL_stashed_15 : decode cL_stashed 15 = .ok (.iconst 1, 1) := by decide +kernel
theorem dL_stashed_16 : decode cL_stashed 16 = .ok (.ireturn, 1) := by decide +kernel
theorem dL_stashed_17 : decode cL_stashed 17 = .ok (.astore 4, 2) := by decide +kernel
theorem dL_stashed_19 : decode cL_stashed 19 = .ok (.iconst 2, 1) := by decide +kernel
theorem dL_stashed_20 : decode cL_stashed 20 = .ok (.ireturn, 1) := by decide +kernel
theorem dL_stashed_21 : decode cL_stashed 21 = .ok (.iconst 0, 1) := by decide +kernel
theorem dL_stashed_22 : decode cL_stashed 22 = .ok (.ireturn, 1) := by decide +kernel
theorem dL_filled_0 : decode cL_filled 0 = .ok (.aload_n 2, 1) := by decide +kernel
theorem dL_filled_1 : decode cL_filled 1 = .ok (.iconst 0, 1) := by decide +kernel
theorem dL_filled_2 : decode cL_filled 2 = .ok (.aload_n 0, 1) := by decide +kernel
theorem dL_filled_3 : decode cL_filled 3 = .ok (.iload_n 1, 1) := by decide +kernel
theorem dL_filled_4 : decode cL_filled 4 = .ok (.invokevirtual 70, 3) := by decide +kernel
theorem dL_filled_7 : decode cL_filled 7 = .ok (.i2l, 1) := by decide +kernel
theorem dL_filled_8 : decode cL_filled 8 = .ok (.lastore, 1) := by decide +kernel
theorem dL_filled_9 : decode cL_filled 9 = .ok (.goto 6, 3) := by decide +kernel
theorem dL_filled_12 : decode cL_filled 12 = .ok (.astore_n 3, 1) := by decide +kernel
theorem dL_filled_13 : decode cL_filled 13 = .ok (.iconst 1, 1) := by decide +kernel
theorem dL_filled_14 : decode cL_filled 14 = .ok (.ireturn, 1) := by decide +kernel
theorem dL_filled_15 : decode cL_filled 15 = .ok (.iconst 0, 1) := by decide +kernel
theorem dL_filled_16 : decode cL_filled 16 = .ok (.ireturn, 1) := by decide +kernel
theorem dL_walk_0 : decode cL_walk 0 = .ok (.aload_n 2, 1) := by decide +kernel
theorem dL_walk_1 : decode cL_walk 1 = .ok (.iconst 0, 1) := by decide +kernel
theorem dL_walk_2 : decode cL_walk 2 = .ok (.aload_n 0, 1) := by decide +kernel
theorem dL_walk_3 : decode cL_walk 3 = .ok (.iload_n 1, 1) := by decide +kernel
theorem dL_walk_4 : decode cL_walk 4 = .ok (.invokevirtual 73, 3) := by decide +kernel
theorem dL_walk_7 : decode cL_walk 7 = .ok (.i2l, 1) := by decide +kernel
theorem dL_walk_8 : decode cL_walk 8 = .ok (.lastore, 1) := by decide +kernel
theorem dL_walk_9 : decode cL_walk 9 = .ok (.goto 6, 3) := by decide +kernel
theorem dL_walk_12 : decode cL_walk 12 = .ok (.astore_n 3, 1) := by decide +kernel
theorem dL_walk_13 : decode cL_walk 13 = .ok (.iconst 1, 1) := by decide +kernel
theorem dL_walk_14 : decode cL_walk 14 = .ok (.ireturn, 1) := by decide +kernel
theorem dL_walk_15 : decode cL_walk 15 = .ok (.iconst 0, 1) := by decide +kernel
theorem dL_walk_16 : decode cL_walk 16 = .ok (.ireturn, 1) := by decide +kernel
theorem dL_walkStep_0 : decode cL_walkStep 0 = .ok (.aload 4, 2) := by decide +kernel
theorem dL_walkStep_2 : decode cL_walkStep 2 = .ok (.iconst 0, 1) := by decide +kernel
theorem dL_walkStep_3 : decode cL_walkStep 3 = .ok (.aload_n 0, 1) := by decide +kernel
theorem dL_walkStep_4 : decode cL_walkStep 4 = .ok (.iload_n 1, 1) := by decide +kernel
theorem dL_walkStep_5 : decode cL_walkStep 5 = .ok (.iload_n 2, 1) := by decide +kernel
theorem dL_walkStep_6 : decode cL_walkStep 6 = .ok (.iload_n 3, 1) := by decide +kernel
theorem dL_walkStep_7 : decode cL_walkStep 7 = .ok (.invokevirtual 76, 3) := by decide +kernel
theorem dL_walkStep_10 : decode cL_walkStep 10 = .ok (.i2l, 1) := by decide +kernel
theorem dL_walkStep_11 : decode cL_walkStep 11 = .ok (.lastore, 1) := by decide +kernel
theorem dL_walkStep_12 : decode cL_walkStep 12 = .ok (.goto 7, 3) := by decide +kernel
theorem dL_walkStep_15 : decode cL_walkStep 15 = .ok (.astore 5, 2) := by decide +kernel
theorem dL_walkStep_17 : decode cL_walkStep 17 = .ok (.iconst 1, 1) := by decide +kernel
theorem dL_walkStep_18 : decode cL_walkStep 18 = .ok (.ireturn, 1) := by decide +kernel
theorem dL_walkStep_19 : decode cL_walkStep 19 = .ok (.iconst 0, 1) := by decide +kernel
theorem dL_walkStep_20 : decode cL_walkStep 20 = .ok (.ireturn, 1) := by decide +kernel
theorem dL_leastMoves_0 : decode cL_leastMoves 0 = .ok (.aload_n 2, 1) := by decide +kernel
theorem dL_leastMoves_1 : decode cL_leastMoves 1 = .ok (.iconst 0, 1) := by decide +kernel
theorem dL_leastMoves_2 : decode cL_leastMoves 2 = .ok (.aload_n 0, 1) := by decide +kernel
theorem dL_leastMoves_3 : decode cL_leastMoves 3 = .ok (.iload_n 1, 1) := by decide +kernel
theorem dL_leastMoves_4 : decode cL_leastMoves 4 = .ok (.invokevirtual 80, 3) := by decide +kernel
theorem dL_leastMoves_7 : decode cL_leastMoves 7 = .ok (.i2l, 1) := by decide +kernel
theorem dL_leastMoves_8 : decode cL_leastMoves 8 = .ok (.lastore, 1) := by decide +kernel
theorem dL_leastMoves_9 : decode cL_leastMoves 9 = .ok (.goto 6, 3) := by decide +kernel
theorem dL_leastMoves_12 : decode cL_leastMoves 12 = .ok (.astore_n 3, 1) := by decide +kernel
theorem dL_leastMoves_13 : decode cL_leastMoves 13 = .ok (.iconst 1, 1) := by decide +kernel
theorem dL_leastMoves_14 : decode cL_leastMoves 14 = .ok (.ireturn, 1) := by decide +kernel
theorem dL_leastMoves_15 : decode cL_leastMoves 15 = .ok (.iconst 0, 1) := by decide +kernel
theorem dL_leastMoves_16 : decode cL_leastMoves 16 = .ok (.ireturn, 1) := by decide +kernel
theorem dL_roomFor_0 : decode cL_roomFor 0 = .ok (.aload_n 3, 1) := by decide +kernel
theorem dL_roomFor_1 : decode cL_roomFor 1 = .ok (.iconst 0, 1) := by decide +kernel
theorem dL_roomFor_2 : decode cL_roomFor 2 = .ok (.aload_n 0, 1) := by decide +kernel
theorem dL_roomFor_3 : decode cL_roomFor 3 = .ok (.iload_n 1, 1) := by decide +kernel
theorem dL_roomFor_4 : decode cL_roomFor 4 = .ok (.iload_n 2, 1) := by decide +kernel
theorem dL_roomFor_5 : decode cL_roomFor 5 = .ok (.invokevirtual 83, 3) := by decide +kernel
theorem dL_roomFor_8 : decode cL_roomFor 8 = .ok (.i2l, 1) := by decide +kernel
theorem dL_roomFor_9 : decode cL_roomFor 9 = .ok (.lastore, 1) := by decide +kernel
theorem dL_roomFor_10 : decode cL_roomFor 10 = .ok (.goto 7, 3) := by decide +kernel
theorem dL_roomFor_13 : decode cL_roomFor 13 = .ok (.astore 4, 2) := by decide +kernel
theorem dL_roomFor_15 : decode cL_roomFor 15 = .ok (.iconst 1, 1) := by decide +kernel
theorem dL_roomFor_16 : decode cL_roomFor 16 = .ok (.ireturn, 1) := by decide +kernel
theorem dL_roomFor_17 : decode cL_roomFor 17 = .ok (.iconst 0, 1) := by decide +kernel
theorem dL_roomFor_18 : decode cL_roomFor 18 = .ok (.ireturn, 1) := by decide +kernel
theorem dL_falseKeys_0 : decode cL_falseKeys 0 = .ok (.aload_n 3, 1) := by decide +kernel
theorem dL_falseKeys_1 : decode cL_falseKeys 1 = .ok (.iconst 0, 1) := by decide +kernel
theorem dL_falseKeys_2 : decode cL_falseKeys 2 = .ok (.aload_n 0, 1) := by decide +kernel
theorem dL_falseKeys_3 : decode cL_falseKeys 3 = .ok (.iload_n 1, 1) := by decide +kernel
theorem dL_falseKeys_4 : decode cL_falseKeys 4 = .ok (.iload_n 2, 1) := by decide +kernel
theorem dL_falseKeys_5 : decode cL_falseKeys 5 = .ok (.invokevirtual 86, 3) := by decide +kernel
theorem dL_falseKeys_8 : decode cL_falseKeys 8 = .ok (.i2l, 1) := by decide +kernel
theorem dL_falseKeys_9 : decode cL_falseKeys 9 = .ok (.lastore, 1) := by decide +kernel
theorem dL_falseKeys_10 : decode cL_falseKeys 10 = .ok (.goto 7, 3) := by decide +kernel
theorem dL_falseKeys_13 : decode cL_falseKeys 13 = .ok (.astore 4, 2) := by decide +kernel
theorem dL_falseKeys_15 : decode cL_falseKeys 15 = .ok (.iconst 1, 1) := by decide +kernel
theorem dL_falseKeys_16 : decode cL_falseKeys 16 = .ok (.ireturn, 1) := by decide +kernel
theorem dL_falseKeys_17 : decode cL_falseKeys 17 = .ok (.iconst 0, 1) := by decide +kernel
theorem dL_falseKeys_18 : decode cL_falseKeys 18 = .ok (.ireturn, 1) := by decide +kernel
theorem dL_blamed_0 : decode cL_blamed 0 = .ok (.aload_n 3, 1) := by decide +kernel
theorem dL_blamed_1 : decode cL_blamed 1 = .ok (.iconst 0, 1) := by decide +kernel
theorem dL_blamed_2 : decode cL_blamed 2 = .ok (.aload_n 0, 1) := by decide +kernel
theorem dL_blamed_3 : decode cL_blamed 3 = .ok (.iload_n 1, 1) := by decide +kernel
theorem dL_blamed_4 : decode cL_blamed 4 = .ok (.iload_n 2, 1) := by decide +kernel
theorem dL_blamed_5 : decode cL_blamed 5 = .ok (.invokevirtual 89, 3) := by decide +kernel
theorem dL_blamed_8 : decode cL_blamed 8 = .ok (.i2l, 1) := by decide +kernel
theorem dL_blamed_9 : decode cL_blamed 9 = .ok (.lastore, 1) := by decide +kernel
theorem dL_blamed_10 : decode cL_blamed 10 = .ok (.goto 7, 3) := by decide +kernel
theorem dL_blamed_13 : decode cL_blamed 13 = .ok (.astore 4, 2) := by decide +kernel
theorem dL_blamed_15 : decode cL_blamed 15 = .ok (.iconst 1, 1) := by decide +kernel
theorem dL_blamed_16 : decode cL_blamed 16 = .ok (.ireturn, 1) := by decide +kernel
theorem dL_blamed_17 : decode cL_blamed 17 = .ok (.iconst 0, 1) := by decide +kernel
theorem dL_blamed_18 : decode cL_blamed 18 = .ok (.ireturn, 1) := by decide +kernel
theorem dL_bestSeed_0 : decode cL_bestSeed 0 = .ok (.aload_n 2, 1) := by decide +kernel
theorem dL_bestSeed_1 : decode cL_bestSeed 1 = .ok (.iconst 0, 1) := by decide +kernel
theorem dL_bestSeed_2 : decode cL_bestSeed 2 = .ok (.aload_n 0, 1) := by decide +kernel
theorem dL_bestSeed_3 : decode cL_bestSeed 3 = .ok (.iload_n 1, 1) := by decide +kernel
theorem dL_bestSeed_4 : decode cL_bestSeed 4 = .ok (.invokevirtual 92, 3) := by decide +kernel
theorem dL_bestSeed_7 : decode cL_bestSeed 7 = .ok (.i2l, 1) := by decide +kernel
theorem dL_bestSeed_8 : decode cL_bestSeed 8 = .ok (.lastore, 1) := by decide +kernel
theorem dL_bestSeed_9 : decode cL_bestSeed 9 = .ok (.goto 6, 3) := by decide +kernel
theorem dL_bestSeed_12 : decode cL_bestSeed 12 = .ok (.astore_n 3, 1) := by decide +kernel
theorem dL_bestSeed_13 : decode cL_bestSeed 13 = .ok (.iconst 1, 1) := by decide +kernel
theorem dL_bestSeed_14 : decode cL_bestSeed 14 = .ok (.ireturn, 1) := by decide +kernel
theorem dL_bestSeed_15 : decode cL_bestSeed 15 = .ok (.iconst 0, 1) := by decide +kernel
theorem dL_bestSeed_16 : decode cL_bestSeed 16 = .ok (.ireturn, 1) := by decide +kernel
theorem dL_leastBits_0 : decode cL_leastBits 0 = .ok (.aload_n 3, 1) := by decide +kernel
theorem dL_leastBits_1 : decode cL_leastBits 1 = .ok (.iconst 0, 1) := by decide +kernel
theorem dL_leastBits_2 : decode cL_leastBits 2 = .ok (.aload_n 0, 1) := by decide +kernel
theorem dL_leastBits_3 : decode cL_leastBits 3 = .ok (.iload_n 1, 1) := by decide +kernel
theorem dL_leastBits_4 : decode cL_leastBits 4 = .ok (.iload_n 2, 1) := by decide +kernel
theorem dL_leastBits_5 : decode cL_leastBits 5 = .ok (.invokevirtual 95, 3) := by decide +kernel
theorem dL_leastBits_8 : decode cL_leastBits 8 = .ok (.i2l, 1) := by decide +kernel
theorem dL_leastBits_9 : decode cL_leastBits 9 = .ok (.lastore, 1) := by decide +kernel
theorem dL_leastBits_10 : decode cL_leastBits 10 = .ok (.goto 7, 3) := by decide +kernel
theorem dL_leastBits_13 : decode cL_leastBits 13 = .ok (.astore 4, 2) := by decide +kernel
theorem dL_leastBits_15 : decode cL_leastBits 15 = .ok (.iconst 1, 1) := by decide +kernel
theorem dL_leastBits_16 : decode cL_leastBits 16 = .ok (.ireturn, 1) := by decide +kernel
theorem dL_leastBits_17 : decode cL_leastBits 17 = .ok (.iconst 0, 1) := by decide +kernel
theorem dL_leastBits_18 : decode cL_leastBits 18 = .ok (.ireturn, 1) := by decide +kernel
theorem dL_couldFit_0 : decode cL_couldFit 0 = .ok (.aload 4, 2) := by decide +kernel
theorem dL_couldFit_2 : decode cL_couldFit 2 = .ok (.iconst 0, 1) := by decide +kernel
theorem dL_couldFit_3 : decode cL_couldFit 3 = .ok (.aload_n 0, 1) := by decide +kernel
theorem dL_couldFit_4 : decode cL_couldFit 4 = .ok (.iload_n 1, 1) := by decide +kernel
theorem dL_couldFit_5 : decode cL_couldFit 5 = .ok (.iload_n 2, 1) := by decide +kernel
theorem dL_couldFit_6 : decode cL_couldFit 6 = .ok (.iload_n 3, 1) := by decide +kernel
theorem dL_couldFit_7 : decode cL_couldFit 7 = .ok (.invokevirtual 98, 3) := by decide +kernel
theorem dL_couldFit_10 : decode cL_couldFit 10 = .ok (.ifCond .eq 7, 3) := by decide +kernel
theorem dL_couldFit_13 : decode cL_couldFit 13 = .ok (.lconst 1, 1) := by decide +kernel
theorem dL_couldFit_14 : decode cL_couldFit 14 = .ok (.goto 4, 3) := by decide +kernel
theorem dL_couldFit_17 : decode cL_couldFit 17 = .ok (.lconst 0, 1) := by decide +kernel
theorem dL_couldFit_18 : decode cL_couldFit 18 = .ok (.lastore, 1) := by decide +kernel
theorem dL_couldFit_19 : decode cL_couldFit 19 = .ok (.goto 7, 3) := by decide +kernel
theorem dL_couldFit_22 : decode cL_couldFit 22 = .ok (.astore 5, 2) := by decide +kernel
theorem dL_couldFit_24 : decode cL_couldFit 24 = .ok (.iconst 1, 1) := by decide +kernel
theorem dL_couldFit_25 : decode cL_couldFit 25 = .ok (.ireturn, 1) := by decide +kernel
theorem dL_couldFit_26 : decode cL_couldFit 26 = .ok (.iconst 0, 1) := by decide +kernel
theorem dL_couldFit_27 : decode cL_couldFit 27 = .ok (.ireturn, 1) := by decide +kernel
theorem dL_append_0 : decode cL_append 0 = .ok (.aload_n 2, 1) := by decide +kernel
theorem dL_append_1 : decode cL_append 1 = .ok (.iconst 0, 1) := by decide +kernel
theorem dL_append_2 : decode cL_append 2 = .ok (.aload_n 0, 1) := by decide +kernel
theorem dL_append_3 : decode cL_append 3 = .ok (.iload_n 1, 1) := by decide +kernel
theorem dL_append_4 : decode cL_append 4 = .ok (.invokevirtual 102, 3) := by decide +kernel
theorem dL_append_7 : decode cL_append 7 = .ok (.i2l, 1) := by decide +kernel
theorem dL_append_8 : decode cL_append 8 = .ok (.lastore, 1) := by decide +kernel
theorem dL_append_9 : decode cL_append 9 = .ok (.goto 9, 3) := by decide +kernel
theorem dL_append_12 : decode cL_append 12 = .ok (.astore_n 3, 1) := by decide +kernel
theorem dL_append_13 : decode cL_append 13 = .ok (.iconst 1, 1) := by decide +kernel
theorem dL_append_14 : decode cL_append 14 = .ok (.ireturn, 1) := by decide +kernel
theorem dL_append_15 : decode cL_append 15 = .ok (.astore_n 3, 1) := by decide +kernel
theorem dL_append_16 : decode cL_append 16 = .ok (.iconst 2, 1) := by decide +kernel
theorem dL_append_17 : decode cL_append 17 = .ok (.ireturn, 1) := by decide +kernel
theorem dL_append_18 : decode cL_append 18 = .ok (.iconst 0, 1) := by decide +kernel
theorem dL_append_19 : decode cL_append 19 = .ok (.ireturn, 1) := by decide +kernel
theorem dL_undo_0 : decode cL_undo 0 = .ok (.aload_n 1, 1) := by decide +kernel
theorem dL_undo_1 : decode cL_undo 1 = .ok (.iconst 0, 1) := by decide +kernel
theorem dL_undo_2 : decode cL_undo 2 = .ok (.aload_n 0, 1) := by decide +kernel
theorem dL_undo_3 : decode cL_undo 3 = .ok (.invokevirtual 105, 3) := by decide +kernel
theorem dL_undo_6 : decode cL_undo 6 = .ok (.i2l, 1) := by decide +kernel
theorem dL_undo_7 : decode cL_undo 7 = .ok (.lastore, 1) := by decide +kernel
theorem dL_undo_8 : decode cL_undo 8 = .ok (.goto 6, 3) := by decide +kernel
theorem dL_undo_11 : decode cL_undo 11 = .ok (.astore_n 2, 1) := by decide +kernel
theorem dL_undo_12 : decode cL_undo 12 = .ok (.iconst 1, 1) := by decide +kernel
theorem dL_undo_13 : decode cL_undo 13 = .ok (.ireturn, 1) := by decide +kernel
theorem dL_undo_14 : decode cL_undo 14 = .ok (.iconst 0, 1) := by decide +kernel
theorem dL_undo_15 : decode cL_undo 15 = .ok (.ireturn, 1) := by decide +kernel
