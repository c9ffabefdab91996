theorem inr_1 : ∀ w ∈ wsL_law_r1, w ∈ wsL_law := fun _ h => List.mem_append_left _ (List.mem_append_left _ (List.mem_append_left _ (List.mem_append_left _ (List.mem_append_left _ (List.mem_append_left _ (List.mem_append_left _ (List.mem_append_left _ (List.mem_append_left _ h))))))))
theorem inr_2 : ∀ w ∈ wsL_law_r2, w ∈ wsL_law := fun _ h => List.mem_append_left _ (List.mem_append_left _ (List.mem_append_left _ (List.mem_append_left _ (List.mem_append_left _ (List.mem_append_left _ (List.mem_append_left _ (List.mem_append_left _ (List.mem_append_right _ (List.mem_append_left _ h)))))))))
theorem inr_3 : ∀ w ∈ wsL_law_r3, w ∈ wsL_law := fun _ h => List.mem_append_left _ (List.mem_append_left _ (List.mem_append_left _ (List.mem_append_left _ (List.mem_append_left _ (List.mem_append_left _ (List.mem_append_left _ (List.mem_append_left _ (List.mem_append_right _ (List.mem_append_right _ (List.mem_append_left _ h))))))))))
theorem inr_4 : ∀ w ∈ wsL_law_r4, w ∈ wsL_law := fun _ h => List.mem_append_left _ (List.mem_append_left _ (List.mem_append_left _ (List.mem_append_left _ (List.mem_append_left _ (List.mem_append_left _ (List.mem_append_left _ (List.mem_append_left _ (List.mem_append_right _ (List.mem_append_right _ (List.mem_append_right _ (List.mem_append_left _ h)))))))))))
theorem inr_5 : ∀ w ∈ wsL_law_r5, w ∈ wsL_law := fun _ h => List.mem_append_left _ (List.mem_append_left _ (List.mem_append_left _ (List.mem_append_left _ (List.mem_append_left _ (List.mem_append_left _ (List.mem_append_left _ (List.mem_append_left _ (List.mem_append_right _ (List.mem_append_right _ (List.mem_append_right _ (List.mem_append_right _ (List.mem_append_left _ h))))))))))))
theorem inr_6 : ∀ w ∈ wsL_law_r6, w ∈ wsL_law := fun _ h => List.mem_append_left _ (List.mem_append_left _ (List.mem_append_left _ (List.mem_append_left _ (List.mem_append_left _ (List.mem_append_left _ (List.mem_append_left _ (List.mem_append_left _ (List.mem_append_right _ (List.mem_append_right _ (List.mem_append_right _ (List.mem_append_right _ (List.mem_append_right _ (List.mem_append_left _ h)))))))))))))
theorem inr_7 : ∀ w ∈ wsL_law_r7, w ∈ wsL_law := fun _ h => List.mem_append_left _ (List.mem_append_left _ (List.mem_append_left _ (List.mem_append_left _ (List.mem_append_left _ (List.mem_append_left _ (List.mem_append_left _ (List.mem_append_left _ (List.mem_append_right _ (List.mem_append_right _ (List.mem_append_right _ (List.mem_append_right _ (List.mem_append_right _ (List.mem_append_right _ (List.mem_append_left _ h))))))))))))))
theorem inr_8 : ∀ w ∈ wsL_law_r8, w ∈ wsL_law := fun _ h => List.mem_append_left _ (List.mem_append_left _ (List.mem_append_left _ (List.mem_append_left _ (List.mem_append_left _ (List.mem_append_left _ (List.mem_append_left _ (List.mem_append_left _ (List.mem_append_right _ (List.mem_append_right _ (List.mem_append_right _ (List.mem_append_right _ (List.mem_append_right _ (List.mem_append_right _ (List.mem_append_right _ (List.mem_append_left _ h)))))))))))))))
theorem inr_9 : ∀ w ∈ wsL_law_r9, w ∈ wsL_law := fun _ h => List.mem_append_left _ (List.mem_append_left _ (List.mem_append_left _ (List.mem_append_left _ (List.mem_append_left _ (List.mem_append_left _ (List.mem_append_left _ (List.mem_append_left _ (List.mem_append_right _ (List.mem_append_right _ (List.mem_append_right _ (List.mem_append_right _ (List.mem_append_right _ (List.mem_append_right _ (List.mem_append_right _ (List.mem_append_right _ (List.mem_append_left _ h))))))))))))))))
theorem inr_10 : ∀ w ∈ wsL_law_r10, w ∈ wsL_law := fun _ h => List.mem_append_left _ (List.mem_append_left _ (List.mem_append_left _ (List.mem_append_left _ (List.mem_append_left _ (List.mem_append_left _ (List.mem_append_left _ (List.mem_append_left _ (List.mem_append_right _ (List.mem_append_right _ (List.mem_append_right _ (List.mem_append_right _ (List.mem_append_right _ (List.mem_append_right _ (List.mem_append_right _ (List.mem_append_right _ (List.mem_append_right _ (List.mem_append_left _ h)))))))))))))))))
theorem inr_11 : ∀ w ∈ wsL_law_r11, w ∈ wsL_law := fun _ h => List.mem_append_left _ (List.mem_append_left _ (List.mem_append_left _ (List.mem_append_left _ (List.mem_append_left _ (List.mem_append_left _ (List.mem_append_left _ (List.mem_append_left _ (List.mem_append_right _ (List.mem_append_right _ (List.mem_append_right _ (List.mem_append_right _ (List.mem_append_right _ (List.mem_append_right _ (List.mem_append_right _ (List.mem_append_right _ (List.mem_append_right _ (List.mem_append_right _ (List.mem_append_left _ h))))))))))))))))))
theorem inr_12 : ∀ w ∈ wsL_law_r12, w ∈ wsL_law := fun _ h => List.mem_append_left _ (List.mem_append_left _ (List.mem_append_left _ (List.mem_append_left _ (List.mem_append_left _ (List.mem_append_left _ (List.mem_append_left _ (List.mem_append_left _ (List.mem_append_right _ (List.mem_append_right _ (List.mem_append_right _ (List.mem_append_right _ (List.mem_append_right _ (List.mem_append_right _ (List.mem_append_right _ (List.mem_append_right _ (List.mem_append_right _ (List.mem_append_right _ (List.mem_append_right _ (List.mem_append_left _ h)))))))))))))))))))
theorem inr_13 : ∀ w ∈ wsL_law_r13, w ∈ wsL_law := fun _ h => List.mem_append_left _ (List.mem_append_left _ (List.mem_append_left _ (List.mem_append_left _ (List.mem_append_left _ (List.mem_append_left _ (List.mem_append_left _ (List.mem_append_left _ (List.mem_append_right _ (List.mem_append_right _ (List.mem_append_right _ (List.mem_append_right _ (List.mem_append_right _ (List.mem_append_right _ (List.mem_append_right _ (List.mem_append_right _ (List.mem_append_right _ (List.mem_append_right _ (List.mem_append_right _ (List.mem_append_right _ (List.mem_append_left _ h))))))))))))))))))))
theorem inr_14 : ∀ w ∈ wsL_law_r14, w ∈ wsL_law := fun _ h => List.mem_append_left _ (List.mem_append_left _ (List.mem_append_left _ (List.mem_append_left _ (List.mem_append_left _ (List.mem_append_left _ (List.mem_append_left _ (List.mem_append_left _ (List.mem_append_right _ (List.mem_append_right _ (List.mem_append_right _ (List.mem_append_right _ (List.mem_append_right _ (List.mem_append_right _ (List.mem_append_right _ (List.mem_append_right _ (List.mem_append_right _ (List.mem_append_right _ (List.mem_append_right _ (List.mem_append_right _ (List.mem_append_right _ (List.mem_append_left _ h)))))))))))))))))))))
theorem inr_15 : ∀ w ∈ wsL_law_r15, w ∈ wsL_law := fun _ h => List.mem_append_left _ (List.mem_append_left _ (List.mem_append_left _ (List.mem_append_left _ (List.mem_append_left _ (List.mem_append_left _ (List.mem_append_left _ (List.mem_append_left _ (List.mem_append_right _ (List.mem_append_right _ (List.mem_append_right _ (List.mem_append_right _ (List.mem_append_right _ (List.mem_append_right _ (List.mem_append_right _ (List.mem_append_right _ (List.mem_append_right _ (List.mem_append_right _ (List.mem_append_right _ (List.mem_append_right _ (List.mem_append_right _ (List.mem_append_right _ (List.mem_append_left _ h))))))))))))))))))))))
theorem inr_16 : ∀ w ∈ wsL_law_r16, w ∈ wsL_law := fun _ h => List.mem_append_left _ (List.mem_append_left _ (List.mem_append_left _ (List.mem_append_left _ (List.mem_append_left _ (List.mem_append_left _ (List.mem_append_left _ (List.mem_append_left _ (List.mem_append_right _ (List.mem_append_right _ (List.mem_append_right _ (List.mem_append_right _ (List.mem_append_right _ (List.mem_append_right _ (List.mem_append_right _ (List.mem_append_right _ (List.mem_append_right _ (List.mem_append_right _ (List.mem_append_right _ (List.mem_append_right _ (List.mem_append_right _ (List.mem_append_right _ (List.mem_append_right _ (List.mem_append_left _ h)))))))))))))))))))))))
theorem inr_17 : ∀ w ∈ wsL_law_r17, w ∈ wsL_law := fun _ h => List.mem_append_left _ (List.mem_append_left _ (List.mem_append_left _ (List.mem_append_left _ (List.mem_append_left _ (List.mem_append_left _ (List.mem_append_left _ (List.mem_append_left _ (List.mem_append_right _ (List.mem_append_right _ (List.mem_append_right _ (List.mem_append_right _ (List.mem_append_right _ (List.mem_append_right _ (List.mem_append_right _ (List.mem_append_right _ (List.mem_append_right _ (List.mem_append_right _ (List.mem_append_right _ (List.mem_append_right _ (List.mem_append_right _ (List.mem_append_right _ (List.mem_append_right _ (List.mem_append_right _ (List.mem_append_left _ h))))))))))))))))))))))))
theorem inr_18 : ∀ w ∈ wsL_law_r18, w ∈ wsL_law := fun _ h => List.mem_append_left _ (List.mem_append_left _ (List.mem_append_left _ (List.mem_append_left _ (List.mem_append_left _ (List.mem_append_left _ (List.mem_append_left _ (List.mem_append_left _ (List.mem_append_right _ (List.mem_append_right _ (List.mem_append_right _ (List.mem_append_right _ (List.mem_append_right _ (List.mem_append_right _ (List.mem_append_right _ (List.mem_append_right _ (List.mem_append_right _ (List.mem_append_right _ (List.mem_append_right _ (List.mem_append_right _ (List.mem_append_right _ (List.mem_append_right _ (List.mem_append_right _ (List.mem_append_right _ (List.mem_append_right _ (List.mem_append_left _ h)))))))))))))))))))))))))
theorem inr_19 : ∀ w ∈ wsL_law_r19, w ∈ wsL_law := fun _ h => List.mem_append_left _ (List.mem_append_left _ (List.mem_append_left _ (List.mem_append_left _ (List.mem_append_left _ (List.mem_append_left _ (List.mem_append_left _ (List.mem_append_left _ (List.mem_append_right _ (List.mem_append_right _ (List.mem_append_right _ (List.mem_append_right _ (List.mem_append_right _ (List.mem_append_right _ (List.mem_append_right _ (List.mem_append_right _ (List.mem_append_right _ (List.mem_append_right _ (List.mem_append_right _ (List.mem_append_right _ (List.mem_append_right _ (List.mem_append_right _ (List.mem_append_right _ (List.mem_append_right _ (List.mem_append_right _ (List.mem_append_right _ (List.mem_append_left _ h))))))))))))))))))))))))))
theorem inr_20 : ∀ w ∈ wsL_law_r20, w ∈ wsL_law := fun _ h => List.mem_append_left _ (List.mem_append_left _ (List.mem_append_left _ (List.mem_append_left _ (List.mem_append_left _ (List.mem_append_left _ (List.mem_append_left _ (List.mem_append_left _ (List.mem_append_right _ (List.mem_append_right _ (List.mem_append_right _ (List.mem_append_right _ (List.mem_append_right _ (List.mem_append_right _ (List.mem_append_right _ (List.mem_append_right _ (List.mem_append_right _ (List.mem_append_right _ (List.mem_append_right _ (List.mem_append_right _ (List.mem_append_right _ (List.mem_append_right _ (List.mem_append_right _ (List.mem_append_right _ (List.mem_append_right _ (List.mem_append_right _ (List.mem_append_right _ (List.mem_append_left _ h)))))))))))))))))))))))))))
theorem inr_21 : ∀ w ∈ wsL_law_r21, w ∈ wsL_law := fun _ h => List.mem_append_left _ (List.mem_append_left _ (List.mem_append_left _ (List.mem_append_left _ (List.mem_append_left _ (List.mem_append_left _ (List.mem_append_left _ (List.mem_append_left _ (List.mem_append_right _ (List.mem_append_right _ (List.mem_append_right _ (List.mem_append_right _ (List.mem_append_right _ (List.mem_append_right _ (List.mem_append_right _ (List.mem_append_right _ (List.mem_append_right _ (List.mem_append_right _ (List.mem_append_right _ (List.mem_append_right _ (List.mem_append_right _ (List.mem_append_right _ (List.mem_append_right _ (List.mem_append_right _ (List.mem_append_right _ (List.mem_append_right _ (List.mem_append_right _ (List.mem_append_right _ (List.mem_append_left _ h))))))))))))))))))))))))))))
theorem inr_22 : ∀ w ∈ wsL_law_r22, w ∈ wsL_law := fun _ h => List.mem_append_left _ (List.mem_append_left _ (List.mem_append_left _ (List.mem_append_left _ (List.mem_append_left _ (List.mem_append_left _ (List.mem_append_left _ (List.mem_append_left _ (List.mem_append_right _ (List.mem_append_right _ (List.mem_append_right _ (List.mem_append_right _ (List.mem_append_right _ (List.mem_append_right _ (List.mem_append_right _ (List.mem_append_right _ (List.mem_append_right _ (List.mem_append_right _ (List.mem_append_right _ (List.mem_append_right _ (List.mem_append_right _ (List.mem_append_right _ (List.mem_append_right _ (List.mem_append_right _ (List.mem_append_right _ (List.mem_append_right _ (List.mem_append_right _ (List.mem_append_right _ (List.mem_append_right _ (List.mem_append_left _ h)))))))))))))))))))))))))))))
theorem inr_23 : ∀ w ∈ wsL_law_r23, w ∈ wsL_law := fun _ h => List.mem_append_left _ (List.mem_append_left _ (List.mem_append_left _ (List.mem_append_left _ (List.mem_append_left _ (List.mem_append_left _ (List.mem_append_left _ (List.mem_append_left _ (List.mem_append_right _ (List.mem_append_right _ (List.mem_append_right _ (List.mem_append_right _ (List.mem_append_right _ (List.mem_append_right _ (List.mem_append_right _ (List.mem_append_right _ (List.mem_append_right _ (List.mem_append_right _ (List.mem_append_right _ (List.mem_append_right _ (List.mem_append_right _ (List.mem_append_right _ (List.mem_append_right _ (List.mem_append_right _ (List.mem_append_right _ (List.mem_append_right _ (List.mem_append_right _ (List.mem_append_right _ (List.mem_append_right _ (List.mem_append_right _ (List.mem_append_left _ h))))))))))))))))))))))))))))))
theorem inr_24 : ∀ w ∈ wsL_law_r24, w ∈ wsL_law := fun _ h => List.mem_append_left _ (List.mem_append_left _ (List.mem_append_left _ (List.mem_append_left _ (List.mem_append_left _ (List.mem_append_left _ (List.mem_append_left _ (List.mem_append_left _ (List.mem_append_right _ (List.mem_append_right _ (List.mem_append_right _ (List.mem_append_right _ (List.mem_append_right _ (List.mem_append_right _ (List.mem_append_right _ (List.mem_append_right _ (List.mem_append_right _ (List.mem_append_right _ (List.mem_append_right _ (List.mem_append_right _ (List.mem_append_right _ (List.mem_append_right _ (List.mem_append_right _ (List.mem_append_right _ (List.mem_append_right _ (List.mem_append_right _ (List.mem_append_right _ (List.mem_append_right _ (List.mem_append_right _ (List.mem_append_right _ (List.mem_append_right _ (List.mem_append_left _ h)))))))))))))))))))))))))))))))
theorem inr_25 : ∀ w ∈ wsL_law_r25, w ∈ wsL_law := fun _ h => List.mem_append_left _ (List.mem_append_left _ (List.mem_append_left _ (List.mem_append_left _ (List.mem_append_left _ (List.mem_append_left _ (List.mem_append_left _ (List.mem_append_left _ (List.mem_append_right _ (List.mem_append_right _ (List.mem_append_right _ (List.mem_append_right _ (List.mem_append_right _ (List.mem_append_right _ (List.mem_append_right _ (List.mem_append_right _ (List.mem_append_right _ (List.mem_append_right _ (List.mem_append_right _ (List.mem_append_right _ (List.mem_append_right _ (List.mem_append_right _ (List.mem_append_right _ (List.mem_append_right _ (List.mem_append_right _ (List.mem_append_right _ (List.mem_append_right _ (List.mem_append_right _ (List.mem_append_right _ (List.mem_append_right _ (List.mem_append_right _ (List.mem_append_right _ (List.mem_append_left _ h))))))))))))))))))))))))))))))))
theorem inr_26 : ∀ w ∈ wsL_law_r26, w ∈ wsL_law := fun _ h => List.mem_append_left _ (List.mem_append_left _ (List.mem_append_left _ (List.mem_append_left _ (List.mem_append_left _ (List.mem_append_left _ (List.mem_append_left _ (List.mem_append_left _ (List.mem_append_right _ (List.mem_append_right _ (List.mem_append_right _ (List.mem_append_right _ (List.mem_append_right _ (List.mem_append_right _ (List.mem_append_right _ (List.mem_append_right _ (List.mem_append_right _ (List.mem_append_right _ (List.mem_append_right _ (List.mem_append_right _ (List.mem_append_right _ (List.mem_append_right _ (List.mem_append_right _ (List.mem_append_right _ (List.mem_append_right _ (List.mem_append_right _ (List.mem_append_right _ (List.mem_append_right _ (List.mem_append_right _ (List.mem_append_right _ (List.mem_append_right _ (List.mem_append_right _ (List.mem_append_right _ (List.mem_append_left _ h)))))))))))))))))))))))))))))))))
theorem inr_27 : ∀ w ∈ wsL_law_r27, w ∈ wsL_law := fun _ h => List.mem_append_left _ (List.mem_append_left _ (List.mem_append_left _ (List.mem_append_left _ (List.mem_append_left _ (List.mem_append_left _ (List.mem_append_left _ (List.mem_append_left _ (List.mem_append_right _ (List.mem_append_right _ (List.mem_append_right _ (List.mem_append_right _ (List.mem_append_right _ (List.mem_append_right _ (List.mem_append_right _ (List.mem_append_right _ (List.mem_append_right _ (List.mem_append_right _ (List.mem_append_right _ (List.mem_append_right _ (List.mem_append_right _ (List.mem_append_right _ (List.mem_append_right _ (List.mem_append_right _ (List.mem_append_right _ (List.mem_append_right _ (List.mem_append_right _ (List.mem_append_right _ (List.mem_append_right _ (List.mem_append_right _ (List.mem_append_right _ (List.mem_append_right _ (List.mem_append_right _ (List.mem_append_right _ (List.mem_append_left _ h))))))))))))))))))))))))))))))))))
theorem inr_28 : ∀ w ∈ wsL_law_r28, w ∈ wsL_law := fun _ h => List.mem_append_left _ (List.mem_append_left _ (List.mem_append_left _ (List.mem_append_left _ (List.mem_append_left _ (List.mem_append_left _ (List.mem_append_left _ (List.mem_append_left _ (List.mem_append_right _ (List.mem_append_right _ (List.mem_append_right _ (List.mem_append_right _ (List.mem_append_right _ (List.mem_append_right _ (List.mem_append_right _ (List.mem_append_right _ (List.mem_append_right _ (List.mem_append_right _ (List.mem_append_right _ (List.mem_append_right _ (List.mem_append_right _ (List.mem_append_right _ (List.mem_append_right _ (List.mem_append_right _ (List.mem_append_right _ (List.mem_append_right _ (List.mem_append_right _ (List.mem_append_right _ (List.mem_append_right _ (List.mem_append_right _ (List.mem_append_right _ (List.mem_append_right _ (List.mem_append_right _ (List.mem_append_right _ (List.mem_append_right _ (List.mem_append_left _ h)))))))))))))))))))))))))))))))))))
theorem inr_29 : ∀ w ∈ wsL_law_r29, w ∈ wsL_law := fun _ h => List.mem_append_left _ (List.mem_append_left _ (List.mem_append_left _ (List.mem_append_left _ (List.mem_append_left _ (List.mem_append_left _ (List.mem_append_left _ (List.mem_append_left _ (List.mem_append_right _ (List.mem_append_right _ (List.mem_append_right _ (List.mem_append_right _ (List.mem_append_right _ (List.mem_append_right _ (List.mem_append_right _ (List.mem_append_right _ (List.mem_append_right _ (List.mem_append_right _ (List.mem_append_right _ (List.mem_append_right _ (List.mem_append_right _ (List.mem_append_right _ (List.mem_append_right _ (List.mem_append_right _ (List.mem_append_right _ (List.mem_append_right _ (List.mem_append_right _ (List.mem_append_right _ (List.mem_append_right _ (List.mem_append_right _ (List.mem_append_right _ (List.mem_append_right _ (List.mem_append_right _ (List.mem_append_right _ (List.mem_append_right _ (List.mem_append_right _ (List.mem_append_left _ h))))))))))))))))))))))))))))))))))))
theorem inr_30 : ∀ w ∈ wsL_law_r30, w ∈ wsL_law := fun _ h => List.mem_append_left _ (List.mem_append_left _ (List.mem_append_left _ (List.mem_append_left _ (List.mem_append_left _ (List.mem_append_left _ (List.mem_append_left _ (List.mem_append_left _ (List.mem_append_right _ (List.mem_append_right _ (List.mem_append_right _ (List.mem_append_right _ (List.mem_append_right _ (List.mem_append_right _ (List.mem_append_right _ (List.mem_append_right _ (List.mem_append_right _ (List.mem_append_right _ (List.mem_append_right _ (List.mem_append_right _ (List.mem_append_right _ (List.mem_append_right _ (List.mem_append_right _ (List.mem_append_right _ (List.mem_append_right _ (List.mem_append_right _ (List.mem_append_right _ (List.mem_append_right _ (List.mem_append_right _ (List.mem_append_right _ (List.mem_append_right _ (List.mem_append_right _ (List.mem_append_right _ (List.mem_append_right _ (List.mem_append_right _ (List.mem_append_right _ (List.mem_append_right _ (List.mem_append_left _ h)))))))))))))))))))))))))))))))))))))
theorem inr_31 : ∀ w ∈ wsL_law_r31, w ∈ wsL_law := fun _ h => List.mem_append_left _ (List.mem_append_left _ (List.mem_append_left _ (List.mem_append_left _ (List.mem_append_left _ (List.mem_append_left _ (List.mem_append_left _ (List.mem_append_left _ (List.mem_append_right _ (List.mem_append_right _ (List.mem_append_right _ (List.mem_append_right _ (List.mem_append_right _ (List.mem_append_right _ (List.mem_append_right _ (List.mem_append_right _ (List.mem_append_right _ (List.mem_append_right _ (List.mem_append_right _ (List.mem_append_right _ (List.mem_append_right _ (List.mem_append_right _ (List.mem_append_right _ (List.mem_append_right _ (List.mem_append_right _ (List.mem_append_right _ (List.mem_append_right _ (List.mem_append_right _ (List.mem_append_right _ (List.mem_append_right _ (List.mem_append_right _ (List.mem_append_right _ (List.mem_append_right _ (List.mem_append_right _ (List.mem_append_right _ (List.mem_append_right _ (List.mem_append_right _ (List.mem_append_right _ (List.mem_append_left _ h))))))))))))))))))))))))))))))))))))))
theorem inr_32 : ∀ w ∈ wsL_law_r32, w ∈ wsL_law := fun _ h => List.mem_append_left _ (List.mem_append_left _ (List.mem_append_left _ (List.mem_append_left _ (List.mem_append_left _ (List.mem_append_left _ (List.mem_append_left _ (List.mem_append_left _ (List.mem_append_right _ (List.mem_append_right _ (List.mem_append_right _ (List.mem_append_right _ (List.mem_append_right _ (List.mem_append_right _ (List.mem_append_right _ (List.mem_append_right _ (List.mem_append_right _ (List.mem_append_right _ (List.mem_append_right _ (List.mem_append_right _ (List.mem_append_right _ (List.mem_append_right _ (List.mem_append_right _ (List.mem_append_right _ (List.mem_append_right _ (List.mem_append_right _ (List.mem_append_right _ (List.mem_append_right _ (List.mem_append_right _ (List.mem_append_right _ (List.mem_append_right _ (List.mem_append_right _ (List.mem_append_right _ (List.mem_append_right _ (List.mem_append_right _ (List.mem_append_right _ (List.mem_append_right _ (List.mem_append_right _ (List.mem_append_right _ (List.mem_append_left _ h)))))))))))))))))))))))))))))))))))))))
theorem inr_33 : ∀ w ∈ wsL_law_r33, w ∈ wsL_law := fun _ h => List.mem_append_left _ (List.mem_append_left _ (List.mem_append_left _ (List.mem_append_left _ (List.mem_append_left _ (List.mem_append_left _ (List.mem_append_left _ (List.mem_append_left _ (List.mem_append_right _ (List.mem_append_right _ (List.mem_append_right _ (List.mem_append_right _ (List.mem_append_right _ (List.mem_append_right _ (List.mem_append_right _ (List.mem_append_right _ (List.mem_append_right _ (List.mem_append_right _ (List.mem_append_right _ (List.mem_append_right _ (List.mem_append_right _ (List.mem_append_right _ (List.mem_append_right _ (List.mem_append_right _ (List.mem_append_right _ (List.mem_append_right _ (List.mem_append_right _ (List.mem_append_right _ (List.mem_append_right _ (List.mem_append_right _ (List.mem_append_right _ (List.mem_append_right _ (List.mem_append_right _ (List.mem_append_right _ (List.mem_append_right _ (List.mem_append_right _ (List.mem_append_right _ (List.mem_append_right _ (List.mem_append_right _ (List.mem_append_right _ (List.mem_append_left _ h))))))))))))))))))))))))))))))))))))))))
theorem inr_34 : ∀ w ∈ wsL_law_r34, w ∈ wsL_law := fun _ h => List.mem_append_left _ (List.mem_append_left _ (List.mem_append_left _ (List.mem_append_left _ (List.mem_append_left _ (List.mem_append_left _ (List.mem_append_left _ (List.mem_append_left _ (List.mem_append_right _ (List.mem_append_right _ (List.mem_append_right _ (List.mem_append_right _ (List.mem_append_right _ (List.mem_append_right _ (List.mem_append_right _ (List.mem_append_right _ (List.mem_append_right _ (List.mem_append_right _ (List.mem_append_right _ (List.mem_append_right _ (List.mem_append_right _ (List.mem_append_right _ (List.mem_append_right _ (List.mem_append_right _ (List.mem_append_right _ (List.mem_append_right _ (List.mem_append_right _ (List.mem_append_right _ (List.mem_append_right _ (List.mem_append_right _ (List.mem_append_right _ (List.mem_append_right _ (List.mem_append_right _ (List.mem_append_right _ (List.mem_append_right _ (List.mem_append_right _ (List.mem_append_right _ (List.mem_append_right _ (List.mem_append_right _ (List.mem_append_right _ (List.mem_append_right _ (List.mem_append_left _ h)))))))))))))))))))))))))))))))))))))))))
theorem inr_35 : ∀ w ∈ wsL_law_r35, w ∈ wsL_law := fun _ h => List.mem_append_left _ (List.mem_append_left _ (List.mem_append_left _ (List.mem_append_left _ (List.mem_append_left _ (List.mem_append_left _ (List.mem_append_left _ (List.mem_append_left _ (List.mem_append_right _ (List.mem_append_right _ (List.mem_append_right _ (List.mem_append_right _ (List.mem_append_right _ (List.mem_append_right _ (List.mem_append_right _ (List.mem_append_right _ (List.mem_append_right _ (List.mem_append_right _ (List.mem_append_right _ (List.mem_append_right _ (List.mem_append_right _ (List.mem_append_right _ (List.mem_append_right _ (List.mem_append_right _ (List.mem_append_right _ (List.mem_append_right _ (List.mem_append_right _ (List.mem_append_right _ (List.mem_append_right _ (List.mem_append_right _ (List.mem_append_right _ (List.mem_append_right _ (List.mem_append_right _ (List.mem_append_right _ (List.mem_append_right _ (List.mem_append_right _ (List.mem_append_right _ (List.mem_append_right _ (List.mem_append_right _ (List.mem_append_right _ (List.mem_append_right _ (List.mem_append_right _ (List.mem_append_left _ h))))))))))))))))))))))))))))))))))))))))))
theorem inr_36 : ∀ w ∈ wsL_law_r36, w ∈ wsL_law := fun _ h => List.mem_append_left _ (List.mem_append_left _ (List.mem_append_left _ (List.mem_append_left _ (List.mem_append_left _ (List.mem_append_left _ (List.mem_append_left _ (List.mem_append_left _ (List.mem_append_right _ (List.mem_append_right _ (List.mem_append_right _ (List.mem_append_right _ (List.mem_append_right _ (List.mem_append_right _ (List.mem_append_right _ (List.mem_append_right _ (List.mem_append_right _ (List.mem_append_right _ (List.mem_append_right _ (List.mem_append_right _ (List.mem_append_right _ (List.mem_append_right _ (List.mem_append_right _ (List.mem_append_right _ (List.mem_append_right _ (List.mem_append_right _ (List.mem_append_right _ (List.mem_append_right _ (List.mem_append_right _ (List.mem_append_right _ (List.mem_append_right _ (List.mem_append_right _ (List.mem_append_right _ (List.mem_append_right _ (List.mem_append_right _ (List.mem_append_right _ (List.mem_append_right _ (List.mem_append_right _ (List.mem_append_right _ (List.mem_append_right _ (List.mem_append_right _ (List.mem_append_right _ (List.mem_append_right _ (List.mem_append_left _ h)))))))))))))))))))))))))))))))))))))))))))
theorem inr_37 : ∀ w ∈ wsL_law_r37, w ∈ wsL_law := fun _ h => List.mem_append_left _ (List.mem_append_left _ (List.mem_append_left _ (List.mem_append_left _ (List.mem_append_left _ (List.mem_append_left _ (List.mem_append_left _ (List.mem_append_left _ (List.mem_append_right _ (List.mem_append_right _ (List.mem_append_right _ (List.mem_append_right _ (List.mem_append_right _ (List.mem_append_right _ (List.mem_append_right _ (List.mem_append_right _ (List.mem_append_right _ (List.mem_append_right _ (List.mem_append_right _ (List.mem_append_right _ (List.mem_append_right _ (List.mem_append_right _ (List.mem_append_right _ (List.mem_append_right _ (List.mem_append_right _ (List.mem_append_right _ (List.mem_append_right _ (List.mem_append_right _ (List.mem_append_right _ (List.mem_append_right _ (List.mem_append_right _ (List.mem_append_right _ (List.mem_append_right _ (List.mem_append_right _ (List.mem_append_right _ (List.mem_append_right _ (List.mem_append_right _ (List.mem_append_right _ (List.mem_append_right _ (List.mem_append_right _ (List.mem_append_right _ (List.mem_append_right _ (List.mem_append_right _ (List.mem_append_right _ (List.mem_append_left _ h))))))))))))))))))))))))))))))))))))))))))))
theorem inr_38 : ∀ w ∈ wsL_law_r38, w ∈ wsL_law := fun _ h => List.mem_append_left _ (List.mem_append_left _ (List.mem_append_left _ (List.mem_append_left _ (List.mem_append_left _ (List.mem_append_left _ (List.mem_append_left _ (List.mem_append_left _ (List.mem_append_right _ (List.mem_append_right _ (List.mem_append_right _ (List.mem_append_right _ (List.mem_append_right _ (List.mem_append_right _ (List.mem_append_right _ (List.mem_append_right _ (List.mem_append_right _ (List.mem_append_right _ (List.mem_append_right _ (List.mem_append_right _ (List.mem_append_right _ (List.mem_append_right _ (List.mem_append_right _ (List.mem_append_right _ (List.mem_append_right _ (List.mem_append_right _ (List.mem_append_right _ (List.mem_append_right _ (List.mem_append_right _ (List.mem_append_right _ (List.mem_append_right _ (List.mem_append_right _ (List.mem_append_right _ (List.mem_append_right _ (List.mem_append_right _ (List.mem_append_right _ (List.mem_append_right _ (List.mem_append_right _ (List.mem_append_right _ (List.mem_append_right _ (List.mem_append_right _ (List.mem_append_right _ (List.mem_append_right _ (List.mem_append_right _ (List.mem_append_right _ (List.mem_append_left _ h)))))))))))))))))))))))))))))))))))))))))))))
theorem inr_39 : ∀ w ∈ wsL_law_r39, w ∈ wsL_law := fun _ h => List.mem_append_left _ (List.mem_append_left _ (List.mem_append_left _ (List.mem_append_left _ (List.mem_append_left _ (List.mem_append_left _ (List.mem_append_left _ (List.mem_append_left _ (List.mem_append_right _ (List.mem_append_right _ (List.mem_append_right _ (List.mem_append_right _ (List.mem_append_right _ (List.mem_append_right _ (List.mem_append_right _ (List.mem_append_right _ (List.mem_append_right _ (List.mem_append_right _ (List.mem_append_right _ (List.mem_append_right _ (List.mem_append_right _ (List.mem_append_right _ (List.mem_append_right _ (List.mem_append_right _ (List.mem_append_right _ (List.mem_append_right _ (List.mem_append_right _ (List.mem_append_right _ (List.mem_append_right _ (List.mem_append_right _ (List.mem_append_right _ (List.mem_append_right _ (List.mem_append_right _ (List.mem_append_right _ (List.mem_append_right _ (List.mem_append_right _ (List.mem_append_right _ (List.mem_append_right _ (List.mem_append_right _ (List.mem_append_right _ (List.mem_append_right _ (List.mem_append_right _ (List.mem_append_right _ (List.mem_append_right _ (List.mem_append_right _ (List.mem_append_right _ (List.mem_append_left _ h))))))))))))))))))))))))))))))))))))))))))))))
theorem inr_40 : ∀ w ∈ wsL_law_r40, w ∈ wsL_law := fun _ h => List.mem_append_left _ (List.mem_append_left _ (List.mem_append_left _ (List.mem_append_left _ (List.mem_append_left _ (List.mem_append_left _ (List.mem_append_left _ (List.mem_append_left _ (List.mem_append_right _ (List.mem_append_right _ (List.mem_append_right _ (List.mem_append_right _ (List.mem_append_right _ (List.mem_append_right _ (List.mem_append_right _ (List.mem_append_right _ (List.mem_append_right _ (List.mem_append_right _ (List.mem_append_right _ (List.mem_append_right _ (List.mem_append_right _ (List.mem_append_right _ (List.mem_append_right _ (List.mem_append_right _ (List.mem_append_right _ (List.mem_append_right _ (List.mem_append_right _ (List.mem_append_right _ (List.mem_append_right _ (List.mem_append_right _ (List.mem_append_right _ (List.mem_append_right _ (List.mem_append_right _ (List.mem_append_right _ (List.mem_append_right _ (List.mem_append_right _ (List.mem_append_right _ (List.mem_append_right _ (List.mem_append_right _ (List.mem_append_right _ (List.mem_append_right _ (List.mem_append_right _ (List.mem_append_right _ (List.mem_append_right _ (List.mem_append_right _ (List.mem_append_right _ (List.mem_append_right _ (List.mem_append_left _ h)))))))))))))))))))))))))))))))))))))))))))))))
theorem inr_41 : ∀ w ∈ wsL_law_r41, w ∈ wsL_law := fun _ h => List.mem_append_left _ (List.mem_append_left _ (List.mem_append_left _ (List.mem_append_left _ (List.mem_append_left _ (List.mem_append_left _ (List.mem_append_left _ (List.mem_append_left _ (List.mem_append_right _ (List.mem_append_right _ (List.mem_append_right _ (List.mem_append_right _ (List.mem_append_right _ (List.mem_append_right _ (List.mem_append_right _ (List.mem_append_right _ (List.mem_append_right _ (List.mem_append_right _ (List.mem_append_right _ (List.mem_append_right _ (List.mem_append_right _ (List.mem_append_right _ (List.mem_append_right _ (List.mem_append_right _ (List.mem_append_right _ (List.mem_append_right _ (List.mem_append_right _ (List.mem_append_right _ (List.mem_append_right _ (List.mem_append_right _ (List.mem_append_right _ (List.mem_append_right _ (List.mem_append_right _ (List.mem_append_right _ (List.mem_append_right _ (List.mem_append_right _ (List.mem_append_right _ (List.mem_append_right _ (List.mem_append_right _ (List.mem_append_right _ (List.mem_append_right _ (List.mem_append_right _ (List.mem_append_right _ (List.mem_append_right _ (List.mem_append_right _ (List.mem_append_right _ (List.mem_append_right _ (List.mem_append_right _ (h))))))))))))))))))))))))))))))))))))))))))))))))
theorem wm_0 : Cond.classLink RL 7 RX5 ∈ wsL_law := inr_1 _ (List.mem_of_getElem? (i := 0) rfl)
theorem wm_1 : Cond.instantiable RX5 13 ∈ wsL_law := inr_1 _ (List.mem_of_getElem? (i := 1) rfl)
theorem wm_2 : Cond.initialized RX5 ∈ wsL_law := inr_1 _ (List.mem_of_getElem? (i := 2) rfl)
theorem wm_3 : Cond.classLink RL 10 RX6 ∈ wsL_law := inr_1 _ (List.mem_of_getElem? (i := 3) rfl)
theorem wm_4 : Cond.instantiable RX6 29 ∈ wsL_law := inr_1 _ (List.mem_of_getElem? (i := 4) rfl)
theorem wm_5 : Cond.initialized RX6 ∈ wsL_law := inr_1 _ (List.mem_of_getElem? (i := 5) rfl)
theorem wm_6 : Cond.methodLink RL 9 yX5_init ∈ wsL_law := inr_1 _ (List.mem_of_getElem? (i := 6) rfl)
theorem wm_7 : Cond.instanceMethod yX5_init ∈ wsL_law := inr_1 _ (List.mem_of_getElem? (i := 7) rfl)
theorem wm_8 : Cond.code yX5_init cX5_init 2 none ∈ wsL_law := inr_1 _ (List.mem_of_getElem? (i := 8) rfl)
theorem wm_9 : Cond.methodLink RX5 1 objectInit ∈ wsL_law := inr_1 _ (List.mem_of_getElem? (i := 9) rfl)
theorem wm_10 : Cond.instanceMethod objectInit ∈ wsL_law := inr_1 _ (List.mem_of_getElem? (i := 10) rfl)
theorem wm_11 : Cond.code objectInit ⟨#[0xb1]⟩ 1 none ∈ wsL_law := inr_1 _ (List.mem_of_getElem? (i := 11) rfl)
theorem wm_12 : Cond.classLink RX5 9 RX2 ∈ wsL_law := inr_1 _ (List.mem_of_getElem? (i := 12) rfl)
theorem wm_13 : Cond.fieldLink RX5 11 "ElectingWind" "texts" "[LElectingWind$Script;" ∈ wsL_law := inr_1 _ (List.mem_of_getElem? (i := 13) rfl)
theorem wm_14 : Cond.arrayClass .int ∈ wsL_law := inr_1 _ (List.mem_of_getElem? (i := 14) rfl)
theorem wm_15 : Cond.fieldLink RX5 15 "ElectingWind" "faults" "[I" ∈ wsL_law := inr_1 _ (List.mem_of_getElem? (i := 15) rfl)
theorem wm_16 : Cond.classLink RX5 19 RX0 ∈ wsL_law := inr_1 _ (List.mem_of_getElem? (i := 16) rfl)
theorem wm_17 : Cond.instantiable RX0 8 ∈ wsL_law := inr_1 _ (List.mem_of_getElem? (i := 17) rfl)
theorem wm_18 : Cond.initialized RX0 ∈ wsL_law := inr_1 _ (List.mem_of_getElem? (i := 18) rfl)
theorem wm_19 : Cond.fieldLink RX5 22 "ElectingWind" "told" "LElectingWind$Course;" ∈ wsL_law := inr_1 _ (List.mem_of_getElem? (i := 19) rfl)
theorem wm_20 : Cond.fieldLink RX5 26 "ElectingWind" "trial" "LElectingWind$Course;" ∈ wsL_law := inr_1 _ (List.mem_of_getElem? (i := 20) rfl)
theorem wm_21 : Cond.classLink RX5 29 RX4 ∈ wsL_law := inr_1 _ (List.mem_of_getElem? (i := 21) rfl)
theorem wm_22 : Cond.instantiable RX4 3 ∈ wsL_law := inr_1 _ (List.mem_of_getElem? (i := 22) rfl)
theorem wm_23 : Cond.initialized RX4 ∈ wsL_law := inr_1 _ (List.mem_of_getElem? (i := 23) rfl)
theorem wm_24 : Cond.fieldLink RX5 32 "ElectingWind" "sightings" "LElectingWind$Sightings;" ∈ wsL_law := inr_2 _ (List.mem_of_getElem? (i := 0) rfl)
theorem wm_25 : Cond.classLink RX5 36 RX3 ∈ wsL_law := inr_2 _ (List.mem_of_getElem? (i := 1) rfl)
theorem wm_26 : Cond.fieldLink RX5 38 "ElectingWind" "sheets" "[LElectingWind$Sheet;" ∈ wsL_law := inr_2 _ (List.mem_of_getElem? (i := 2) rfl)
theorem wm_27 : Cond.fieldLink RX5 42 "ElectingWind" "latestFinding" "I" ∈ wsL_law := inr_2 _ (List.mem_of_getElem? (i := 3) rfl)
theorem wm_28 : Cond.fieldLink RX5 46 "ElectingWind" "inquiredMinute" "I" ∈ wsL_law := inr_2 _ (List.mem_of_getElem? (i := 4) rfl)
theorem wm_29 : Cond.fieldLink RX5 49 "ElectingWind" "mayHaveBlown" "J" ∈ wsL_law := inr_2 _ (List.mem_of_getElem? (i := 5) rfl)
theorem wm_30 : Cond.fieldLink RX5 53 "ElectingWind" "tallies" "[I" ∈ wsL_law := inr_2 _ (List.mem_of_getElem? (i := 6) rfl)
theorem wm_31 : Cond.fieldLink RX5 56 "ElectingWind" "weighedCalm" "I" ∈ wsL_law := inr_2 _ (List.mem_of_getElem? (i := 7) rfl)
theorem wm_32 : Cond.arrayClass .long ∈ wsL_law := inr_2 _ (List.mem_of_getElem? (i := 8) rfl)
theorem wm_33 : Cond.fieldLink RX5 59 "ElectingWind" "chances" "[J" ∈ wsL_law := inr_2 _ (List.mem_of_getElem? (i := 9) rfl)
theorem wm_34 : Cond.fieldLink RX5 63 "ElectingWind" "weights" "[J" ∈ wsL_law := inr_2 _ (List.mem_of_getElem? (i := 10) rfl)
theorem wm_35 : Cond.instantiable RX2 3 ∈ wsL_law := inr_2 _ (List.mem_of_getElem? (i := 11) rfl)
theorem wm_36 : Cond.initialized RX2 ∈ wsL_law := inr_2 _ (List.mem_of_getElem? (i := 12) rfl)
theorem wm_37 : Cond.instantiable RX3 3 ∈ wsL_law := inr_2 _ (List.mem_of_getElem? (i := 13) rfl)
theorem wm_38 : Cond.initialized RX3 ∈ wsL_law := inr_2 _ (List.mem_of_getElem? (i := 14) rfl)
theorem wm_39 : Cond.instanceMethod yX0_init ∈ wsL_law := inr_2 _ (List.mem_of_getElem? (i := 15) rfl)
theorem wm_40 : Cond.code yX0_init cX0_init 1 none ∈ wsL_law := inr_2 _ (List.mem_of_getElem? (i := 16) rfl)
theorem wm_41 : Cond.methodLink RX0 3 objectInit ∈ wsL_law := inr_2 _ (List.mem_of_getElem? (i := 17) rfl)
theorem wm_42 : Cond.classLink RX0 9 RX1 ∈ wsL_law := inr_2 _ (List.mem_of_getElem? (i := 18) rfl)
theorem wm_43 : Cond.instantiable RX1 12 ∈ wsL_law := inr_2 _ (List.mem_of_getElem? (i := 19) rfl)
theorem wm_44 : Cond.initialized RX1 ∈ wsL_law := inr_2 _ (List.mem_of_getElem? (i := 20) rfl)
theorem wm_45 : Cond.fieldLink RX0 12 "ElectingWind$Course" "scene" "LElectingWind$Scene;" ∈ wsL_law := inr_2 _ (List.mem_of_getElem? (i := 21) rfl)
theorem wm_46 : Cond.fieldLink RX0 18 "ElectingWind$Course" "somewhere" "I" ∈ wsL_law := inr_2 _ (List.mem_of_getElem? (i := 22) rfl)
theorem wm_47 : Cond.fieldLink RX0 22 "ElectingWind$Course" "standing" "[I" ∈ wsL_law := inr_2 _ (List.mem_of_getElem? (i := 23) rfl)
theorem wm_48 : Cond.fieldLink RX0 26 "ElectingWind$Course" "turned" "[I" ∈ wsL_law := inr_3 _ (List.mem_of_getElem? (i := 0) rfl)
theorem wm_49 : Cond.fieldLink RX0 29 "ElectingWind$Course" "ribs" "[I" ∈ wsL_law := inr_3 _ (List.mem_of_getElem? (i := 1) rfl)
theorem wm_50 : Cond.fieldLink RX0 32 "ElectingWind$Course" "returned" "[I" ∈ wsL_law := inr_3 _ (List.mem_of_getElem? (i := 2) rfl)
theorem wm_51 : Cond.fieldLink RX0 35 "ElectingWind$Course" "elected" "[I" ∈ wsL_law := inr_3 _ (List.mem_of_getElem? (i := 3) rfl)
theorem wm_52 : Cond.fieldLink RX0 38 "ElectingWind$Course" "in" "[I" ∈ wsL_law := inr_3 _ (List.mem_of_getElem? (i := 4) rfl)
theorem wm_53 : Cond.instanceMethod yX1_init ∈ wsL_law := inr_3 _ (List.mem_of_getElem? (i := 5) rfl)
theorem wm_54 : Cond.code yX1_init cX1_init 1 none ∈ wsL_law := inr_3 _ (List.mem_of_getElem? (i := 6) rfl)
theorem wm_55 : Cond.methodLink RX1 3 objectInit ∈ wsL_law := inr_3 _ (List.mem_of_getElem? (i := 7) rfl)
theorem wm_56 : Cond.fieldLink RX1 9 "ElectingWind$Scene" "columns" "I" ∈ wsL_law := inr_3 _ (List.mem_of_getElem? (i := 8) rfl)
theorem wm_57 : Cond.fieldLink RX1 15 "ElectingWind$Scene" "cells" "I" ∈ wsL_law := inr_3 _ (List.mem_of_getElem? (i := 9) rfl)
theorem wm_58 : Cond.fieldLink RX1 18 "ElectingWind$Scene" "minutes" "I" ∈ wsL_law := inr_3 _ (List.mem_of_getElem? (i := 10) rfl)
theorem wm_59 : Cond.fieldLink RX1 21 "ElectingWind$Scene" "candidates" "I" ∈ wsL_law := inr_3 _ (List.mem_of_getElem? (i := 11) rfl)
theorem wm_60 : Cond.fieldLink RX1 24 "ElectingWind$Scene" "wall" "[I" ∈ wsL_law := inr_3 _ (List.mem_of_getElem? (i := 12) rfl)
theorem wm_61 : Cond.fieldLink RX1 28 "ElectingWind$Scene" "lee" "[I" ∈ wsL_law := inr_3 _ (List.mem_of_getElem? (i := 13) rfl)
theorem wm_62 : Cond.fieldLink RX1 31 "ElectingWind$Scene" "lay" "[I" ∈ wsL_law := inr_3 _ (List.mem_of_getElem? (i := 14) rfl)
theorem wm_63 : Cond.fieldLink RX1 34 "ElectingWind$Scene" "from" "[I" ∈ wsL_law := inr_3 _ (List.mem_of_getElem? (i := 15) rfl)
theorem wm_64 : Cond.fieldLink RX1 37 "ElectingWind$Scene" "force" "[I" ∈ wsL_law := inr_3 _ (List.mem_of_getElem? (i := 16) rfl)
theorem wm_65 : Cond.fieldLink RX1 40 "ElectingWind$Scene" "at" "[I" ∈ wsL_law := inr_3 _ (List.mem_of_getElem? (i := 17) rfl)
theorem wm_66 : Cond.fieldLink RX1 43 "ElectingWind$Scene" "ribs" "[I" ∈ wsL_law := inr_3 _ (List.mem_of_getElem? (i := 18) rfl)
theorem wm_67 : Cond.fieldLink RX1 46 "ElectingWind$Scene" "held" "[I" ∈ wsL_law := inr_3 _ (List.mem_of_getElem? (i := 19) rfl)
theorem wm_68 : Cond.instanceMethod yX4_init ∈ wsL_law := inr_3 _ (List.mem_of_getElem? (i := 20) rfl)
theorem wm_69 : Cond.code yX4_init cX4_init 1 none ∈ wsL_law := inr_3 _ (List.mem_of_getElem? (i := 21) rfl)
theorem wm_70 : Cond.methodLink RX4 3 objectInit ∈ wsL_law := inr_3 _ (List.mem_of_getElem? (i := 22) rfl)
theorem wm_71 : Cond.fieldLink RX4 9 "ElectingWind$Sightings" "many" "I" ∈ wsL_law := inr_3 _ (List.mem_of_getElem? (i := 23) rfl)
theorem wm_72 : Cond.fieldLink RX4 15 "ElectingWind$Sightings" "minutes" "[I" ∈ wsL_law := inr_4 _ (List.mem_of_getElem? (i := 0) rfl)
theorem wm_73 : Cond.fieldLink RX4 19 "ElectingWind$Sightings" "who" "[I" ∈ wsL_law := inr_4 _ (List.mem_of_getElem? (i := 1) rfl)
theorem wm_74 : Cond.methodLink RX5 66 yX2_init ∈ wsL_law := inr_4 _ (List.mem_of_getElem? (i := 2) rfl)
theorem wm_75 : Cond.instanceMethod yX2_init ∈ wsL_law := inr_4 _ (List.mem_of_getElem? (i := 3) rfl)
theorem wm_76 : Cond.code yX2_init cX2_init 2 none ∈ wsL_law := inr_4 _ (List.mem_of_getElem? (i := 4) rfl)
theorem wm_77 : Cond.methodLink RX2 3 objectInit ∈ wsL_law := inr_4 _ (List.mem_of_getElem? (i := 5) rfl)
theorem wm_78 : Cond.fieldLink RX2 9 "ElectingWind$Script" "bytes" "[I" ∈ wsL_law := inr_4 _ (List.mem_of_getElem? (i := 6) rfl)
theorem wm_79 : Cond.fieldLink RX2 15 "ElectingWind$Script" "length" "I" ∈ wsL_law := inr_4 _ (List.mem_of_getElem? (i := 7) rfl)
theorem wm_80 : Cond.methodLink RX2 19 Lib.Math.min.name ∈ wsL_law := inr_4 _ (List.mem_of_getElem? (i := 8) rfl)
theorem wm_81 : Cond.static Lib.Math.min.name ∈ wsL_law := inr_4 _ (List.mem_of_getElem? (i := 9) rfl)
theorem wm_82 : Cond.initialized "java/lang/Math" ∈ wsL_law := inr_4 _ (List.mem_of_getElem? (i := 10) rfl)
theorem wm_83 : Cond.code Lib.Math.min.name Lib.Math.min.code 2 (some .int) ∈ wsL_law := inr_4 _ (List.mem_of_getElem? (i := 11) rfl)
theorem wm_84 : Cond.fieldLink RX2 25 "ElectingWind$Script" "most" "I" ∈ wsL_law := inr_4 _ (List.mem_of_getElem? (i := 12) rfl)
theorem wm_85 : Cond.instanceMethod yX3_init ∈ wsL_law := inr_4 _ (List.mem_of_getElem? (i := 13) rfl)
theorem wm_86 : Cond.code yX3_init cX3_init 1 none ∈ wsL_law := inr_4 _ (List.mem_of_getElem? (i := 14) rfl)
theorem wm_87 : Cond.methodLink RX3 3 objectInit ∈ wsL_law := inr_4 _ (List.mem_of_getElem? (i := 15) rfl)
theorem wm_88 : Cond.fieldLink RX3 9 "ElectingWind$Sheet" "form" "I" ∈ wsL_law := inr_4 _ (List.mem_of_getElem? (i := 16) rfl)
theorem wm_89 : Cond.fieldLink RX3 15 "ElectingWind$Sheet" "size" "I" ∈ wsL_law := inr_4 _ (List.mem_of_getElem? (i := 17) rfl)
theorem wm_90 : Cond.fieldLink RX3 18 "ElectingWind$Sheet" "items" "[I" ∈ wsL_law := inr_4 _ (List.mem_of_getElem? (i := 18) rfl)
theorem wm_91 : Cond.methodLink RL 12 yX6_init ∈ wsL_law := inr_4 _ (List.mem_of_getElem? (i := 19) rfl)
theorem wm_92 : Cond.instanceMethod yX6_init ∈ wsL_law := inr_4 _ (List.mem_of_getElem? (i := 20) rfl)
theorem wm_93 : Cond.code yX6_init cX6_init 1 none ∈ wsL_law := inr_4 _ (List.mem_of_getElem? (i := 21) rfl)
theorem wm_94 : Cond.methodLink RX6 1 objectInit ∈ wsL_law := inr_4 _ (List.mem_of_getElem? (i := 22) rfl)
theorem wm_95 : Cond.fieldLink RX6 7 "ElectingWindModel" "typed" "[I" ∈ wsL_law := inr_4 _ (List.mem_of_getElem? (i := 23) rfl)
theorem wm_96 : Cond.fieldLink RX6 13 "ElectingWindModel" "texts" "[I" ∈ wsL_law := inr_5 _ (List.mem_of_getElem? (i := 0) rfl)
theorem wm_97 : Cond.arrayClass .boolean ∈ wsL_law := inr_5 _ (List.mem_of_getElem? (i := 1) rfl)
theorem wm_98 : Cond.fieldLink RX6 16 "ElectingWindModel" "isWall" "[Z" ∈ wsL_law := inr_5 _ (List.mem_of_getElem? (i := 2) rfl)
theorem wm_99 : Cond.fieldLink RX6 20 "ElectingWindModel" "from" "[I" ∈ wsL_law := inr_5 _ (List.mem_of_getElem? (i := 3) rfl)
theorem wm_100 : Cond.fieldLink RX6 23 "ElectingWindModel" "force" "[I" ∈ wsL_law := inr_5 _ (List.mem_of_getElem? (i := 4) rfl)
theorem wm_101 : Cond.fieldLink RX6 26 "ElectingWindModel" "stands" "[I" ∈ wsL_law := inr_5 _ (List.mem_of_getElem? (i := 5) rfl)
theorem wm_102 : Cond.fieldLink RX6 29 "ElectingWindModel" "ribsTold" "[I" ∈ wsL_law := inr_5 _ (List.mem_of_getElem? (i := 6) rfl)
theorem wm_103 : Cond.fieldLink RX6 32 "ElectingWindModel" "held" "[I" ∈ wsL_law := inr_5 _ (List.mem_of_getElem? (i := 7) rfl)
theorem wm_104 : Cond.fieldLink RX6 35 "ElectingWindModel" "ribsAt" "[I" ∈ wsL_law := inr_5 _ (List.mem_of_getElem? (i := 8) rfl)
theorem wm_105 : Cond.fieldLink RX6 38 "ElectingWindModel" "turnAt" "[I" ∈ wsL_law := inr_5 _ (List.mem_of_getElem? (i := 9) rfl)
theorem wm_106 : Cond.fieldLink RX6 41 "ElectingWindModel" "isReturned" "[Z" ∈ wsL_law := inr_5 _ (List.mem_of_getElem? (i := 10) rfl)
theorem wm_107 : Cond.fieldLink RX6 44 "ElectingWindModel" "isElected" "[Z" ∈ wsL_law := inr_5 _ (List.mem_of_getElem? (i := 11) rfl)
theorem wm_108 : Cond.fieldLink RX6 47 "ElectingWindModel" "inAt" "[I" ∈ wsL_law := inr_5 _ (List.mem_of_getElem? (i := 12) rfl)
theorem wm_109 : Cond.fieldLink RX6 50 "ElectingWindModel" "seenMinute" "[I" ∈ wsL_law := inr_5 _ (List.mem_of_getElem? (i := 13) rfl)
theorem wm_110 : Cond.fieldLink RX6 53 "ElectingWindModel" "seenWho" "[I" ∈ wsL_law := inr_5 _ (List.mem_of_getElem? (i := 14) rfl)
theorem wm_111 : Cond.fieldLink RX6 56 "ElectingWindModel" "mayBlow" "[Z" ∈ wsL_law := inr_5 _ (List.mem_of_getElem? (i := 15) rfl)
theorem wm_112 : Cond.fieldLink RX6 59 "ElectingWindModel" "inBy" "[I" ∈ wsL_law := inr_5 _ (List.mem_of_getElem? (i := 16) rfl)
theorem wm_113 : Cond.fieldLink RX6 62 "ElectingWindModel" "forceTold" "[I" ∈ wsL_law := inr_5 _ (List.mem_of_getElem? (i := 17) rfl)
theorem wm_114 : Cond.fieldLink RX6 65 "ElectingWindModel" "isThere" "[Z" ∈ wsL_law := inr_5 _ (List.mem_of_getElem? (i := 18) rfl)
theorem wm_115 : Cond.fieldLink RX6 68 "ElectingWindModel" "forms" "[I" ∈ wsL_law := inr_5 _ (List.mem_of_getElem? (i := 19) rfl)
theorem wm_116 : Cond.fieldLink RX6 71 "ElectingWindModel" "sizes" "[I" ∈ wsL_law := inr_5 _ (List.mem_of_getElem? (i := 20) rfl)
theorem wm_117 : Cond.fieldLink RX6 74 "ElectingWindModel" "items" "[I" ∈ wsL_law := inr_5 _ (List.mem_of_getElem? (i := 21) rfl)
theorem wm_118 : Cond.fieldLink RX6 77 "ElectingWindModel" "moved" "[I" ∈ wsL_law := inr_5 _ (List.mem_of_getElem? (i := 22) rfl)
theorem wm_119 : Cond.methodLink RL 13 yX5_type ∈ wsL_law := inr_5 _ (List.mem_of_getElem? (i := 23) rfl)
theorem wm_120 : Cond.instanceMethod yX5_type ∈ wsL_law := inr_6 _ (List.mem_of_getElem? (i := 0) rfl)
theorem wm_121 : Cond.selects RX5 yX5_type yX5_type ∈ wsL_law := inr_6 _ (List.mem_of_getElem? (i := 1) rfl)
theorem wm_122 : Cond.code yX5_type cX5_type 3 (some .int) ∈ wsL_law := inr_6 _ (List.mem_of_getElem? (i := 2) rfl)
theorem wm_123 : Cond.methodLink RX5 70 yX5_isText ∈ wsL_law := inr_6 _ (List.mem_of_getElem? (i := 3) rfl)
theorem wm_124 : Cond.static yX5_isText ∈ wsL_law := inr_6 _ (List.mem_of_getElem? (i := 4) rfl)
theorem wm_125 : Cond.code yX5_isText cX5_isText 1 (some .boolean) ∈ wsL_law := inr_6 _ (List.mem_of_getElem? (i := 5) rfl)
theorem wm_126 : Cond.methodLink RX5 74 yX2_isFull ∈ wsL_law := inr_6 _ (List.mem_of_getElem? (i := 6) rfl)
theorem wm_127 : Cond.instanceMethod yX2_isFull ∈ wsL_law := inr_6 _ (List.mem_of_getElem? (i := 7) rfl)
theorem wm_128 : Cond.selects RX2 yX2_isFull yX2_isFull ∈ wsL_law := inr_6 _ (List.mem_of_getElem? (i := 8) rfl)
theorem wm_129 : Cond.code yX2_isFull cX2_isFull 1 (some .boolean) ∈ wsL_law := inr_6 _ (List.mem_of_getElem? (i := 9) rfl)
theorem wm_130 : Cond.methodLink RX5 78 yX2_append ∈ wsL_law := inr_6 _ (List.mem_of_getElem? (i := 10) rfl)
theorem wm_131 : Cond.instanceMethod yX2_append ∈ wsL_law := inr_6 _ (List.mem_of_getElem? (i := 11) rfl)
theorem wm_132 : Cond.selects RX2 yX2_append yX2_append ∈ wsL_law := inr_6 _ (List.mem_of_getElem? (i := 12) rfl)
theorem wm_133 : Cond.code yX2_append cX2_append 2 none ∈ wsL_law := inr_6 _ (List.mem_of_getElem? (i := 13) rfl)
theorem wm_134 : Cond.methodLink RX5 81 yX5_retell ∈ wsL_law := inr_6 _ (List.mem_of_getElem? (i := 14) rfl)
theorem wm_135 : Cond.instanceMethod yX5_retell ∈ wsL_law := inr_6 _ (List.mem_of_getElem? (i := 15) rfl)
theorem wm_136 : Cond.selects RX5 yX5_retell yX5_retell ∈ wsL_law := inr_6 _ (List.mem_of_getElem? (i := 16) rfl)
theorem wm_137 : Cond.code yX5_retell cX5_retell 2 none ∈ wsL_law := inr_6 _ (List.mem_of_getElem? (i := 17) rfl)
theorem wm_138 : Cond.fieldLink RX5 91 "ElectingWind$Course" "scene" "LElectingWind$Scene;" ∈ wsL_law := inr_6 _ (List.mem_of_getElem? (i := 18) rfl)
theorem wm_139 : Cond.methodLink RX5 389 yX1_readCorner ∈ wsL_law := inr_6 _ (List.mem_of_getElem? (i := 19) rfl)
theorem wm_140 : Cond.instanceMethod yX1_readCorner ∈ wsL_law := inr_6 _ (List.mem_of_getElem? (i := 20) rfl)
theorem wm_141 : Cond.selects RX1 yX1_readCorner yX1_readCorner ∈ wsL_law := inr_6 _ (List.mem_of_getElem? (i := 21) rfl)
theorem wm_142 : Cond.code yX1_readCorner cX1_readCorner 3 (some .int) ∈ wsL_law := inr_6 _ (List.mem_of_getElem? (i := 22) rfl)
theorem wm_143 : Cond.methodLink RX1 55 yX2_length ∈ wsL_law := inr_6 _ (List.mem_of_getElem? (i := 23) rfl)
theorem wm_144 : Cond.instanceMethod yX2_length ∈ wsL_law := inr_7 _ (List.mem_of_getElem? (i := 0) rfl)
theorem wm_145 : Cond.selects RX2 yX2_length yX2_length ∈ wsL_law := inr_7 _ (List.mem_of_getElem? (i := 1) rfl)
theorem wm_146 : Cond.code yX2_length cX2_length 1 (some .int) ∈ wsL_law := inr_7 _ (List.mem_of_getElem? (i := 2) rfl)
theorem wm_147 : Cond.methodLink RX1 61 yX1_readRows ∈ wsL_law := inr_7 _ (List.mem_of_getElem? (i := 3) rfl)
theorem wm_148 : Cond.instanceMethod yX1_readRows ∈ wsL_law := inr_7 _ (List.mem_of_getElem? (i := 4) rfl)
theorem wm_149 : Cond.selects RX1 yX1_readRows yX1_readRows ∈ wsL_law := inr_7 _ (List.mem_of_getElem? (i := 5) rfl)
theorem wm_150 : Cond.code yX1_readRows cX1_readRows 8 (some .int) ∈ wsL_law := inr_7 _ (List.mem_of_getElem? (i := 6) rfl)
theorem wm_151 : Cond.methodLink RX1 68 yX2_at ∈ wsL_law := inr_7 _ (List.mem_of_getElem? (i := 7) rfl)
theorem wm_152 : Cond.instanceMethod yX2_at ∈ wsL_law := inr_7 _ (List.mem_of_getElem? (i := 8) rfl)
theorem wm_153 : Cond.selects RX2 yX2_at yX2_at ∈ wsL_law := inr_7 _ (List.mem_of_getElem? (i := 9) rfl)
theorem wm_154 : Cond.code yX2_at cX2_at 2 (some .int) ∈ wsL_law := inr_7 _ (List.mem_of_getElem? (i := 10) rfl)
theorem wm_155 : Cond.methodLink RX1 71 yX1_addCell ∈ wsL_law := inr_7 _ (List.mem_of_getElem? (i := 11) rfl)
theorem wm_156 : Cond.instanceMethod yX1_addCell ∈ wsL_law := inr_7 _ (List.mem_of_getElem? (i := 12) rfl)
theorem wm_157 : Cond.selects RX1 yX1_addCell yX1_addCell ∈ wsL_law := inr_7 _ (List.mem_of_getElem? (i := 13) rfl)
theorem wm_158 : Cond.code yX1_addCell cX1_addCell 2 none ∈ wsL_law := inr_7 _ (List.mem_of_getElem? (i := 14) rfl)
theorem wm_159 : Cond.methodLink RX1 65 yX1_survey ∈ wsL_law := inr_7 _ (List.mem_of_getElem? (i := 15) rfl)
theorem wm_160 : Cond.instanceMethod yX1_survey ∈ wsL_law := inr_7 _ (List.mem_of_getElem? (i := 16) rfl)
theorem wm_161 : Cond.selects RX1 yX1_survey yX1_survey ∈ wsL_law := inr_7 _ (List.mem_of_getElem? (i := 17) rfl)
theorem wm_162 : Cond.code yX1_survey cX1_survey 3 none ∈ wsL_law := inr_7 _ (List.mem_of_getElem? (i := 18) rfl)
theorem wm_163 : Cond.methodLink RX1 99 yX1_beside ∈ wsL_law := inr_7 _ (List.mem_of_getElem? (i := 19) rfl)
theorem wm_164 : Cond.instanceMethod yX1_beside ∈ wsL_law := inr_7 _ (List.mem_of_getElem? (i := 20) rfl)
theorem wm_165 : Cond.selects RX1 yX1_beside yX1_beside ∈ wsL_law := inr_7 _ (List.mem_of_getElem? (i := 21) rfl)
theorem wm_166 : Cond.code yX1_beside cX1_beside 4 (some .int) ∈ wsL_law := inr_7 _ (List.mem_of_getElem? (i := 22) rfl)
theorem wm_167 : Cond.methodLink RX1 95 yX1_isCell ∈ wsL_law := inr_7 _ (List.mem_of_getElem? (i := 23) rfl)
theorem wm_168 : Cond.instanceMethod yX1_isCell ∈ wsL_law := inr_8 _ (List.mem_of_getElem? (i := 0) rfl)
theorem wm_169 : Cond.selects RX1 yX1_isCell yX1_isCell ∈ wsL_law := inr_8 _ (List.mem_of_getElem? (i := 1) rfl)
theorem wm_170 : Cond.code yX1_isCell cX1_isCell 2 (some .boolean) ∈ wsL_law := inr_8 _ (List.mem_of_getElem? (i := 2) rfl)
theorem wm_171 : Cond.methodLink RX1 102 yX1_layOf ∈ wsL_law := inr_8 _ (List.mem_of_getElem? (i := 3) rfl)
theorem wm_172 : Cond.instanceMethod yX1_layOf ∈ wsL_law := inr_8 _ (List.mem_of_getElem? (i := 4) rfl)
theorem wm_173 : Cond.selects RX1 yX1_layOf yX1_layOf ∈ wsL_law := inr_8 _ (List.mem_of_getElem? (i := 5) rfl)
theorem wm_174 : Cond.code yX1_layOf cX1_layOf 6 (some .int) ∈ wsL_law := inr_8 _ (List.mem_of_getElem? (i := 6) rfl)
theorem wm_175 : Cond.methodLink RX1 105 yX1_isWall ∈ wsL_law := inr_8 _ (List.mem_of_getElem? (i := 7) rfl)
theorem wm_176 : Cond.instanceMethod yX1_isWall ∈ wsL_law := inr_8 _ (List.mem_of_getElem? (i := 8) rfl)
theorem wm_177 : Cond.selects RX1 yX1_isWall yX1_isWall ∈ wsL_law := inr_8 _ (List.mem_of_getElem? (i := 9) rfl)
theorem wm_178 : Cond.code yX1_isWall cX1_isWall 2 (some .boolean) ∈ wsL_law := inr_8 _ (List.mem_of_getElem? (i := 10) rfl)
theorem wm_179 : Cond.methodLink RX5 393 yX1_readGusts ∈ wsL_law := inr_8 _ (List.mem_of_getElem? (i := 11) rfl)
theorem wm_180 : Cond.instanceMethod yX1_readGusts ∈ wsL_law := inr_8 _ (List.mem_of_getElem? (i := 12) rfl)
theorem wm_181 : Cond.selects RX1 yX1_readGusts yX1_readGusts ∈ wsL_law := inr_8 _ (List.mem_of_getElem? (i := 13) rfl)
theorem wm_182 : Cond.code yX1_readGusts cX1_readGusts 7 (some .int) ∈ wsL_law := inr_8 _ (List.mem_of_getElem? (i := 14) rfl)
theorem wm_183 : Cond.methodLink RX1 82 Lib.Math.min.name ∈ wsL_law := inr_8 _ (List.mem_of_getElem? (i := 15) rfl)
theorem wm_184 : Cond.methodLink RX1 75 yX1_wayOf ∈ wsL_law := inr_8 _ (List.mem_of_getElem? (i := 16) rfl)
theorem wm_185 : Cond.static yX1_wayOf ∈ wsL_law := inr_8 _ (List.mem_of_getElem? (i := 17) rfl)
theorem wm_186 : Cond.code yX1_wayOf cX1_wayOf 1 (some .int) ∈ wsL_law := inr_8 _ (List.mem_of_getElem? (i := 18) rfl)
theorem wm_187 : Cond.methodLink RX1 78 yX1_figureOf ∈ wsL_law := inr_8 _ (List.mem_of_getElem? (i := 19) rfl)
theorem wm_188 : Cond.static yX1_figureOf ∈ wsL_law := inr_8 _ (List.mem_of_getElem? (i := 20) rfl)
theorem wm_189 : Cond.code yX1_figureOf cX1_figureOf 4 (some .int) ∈ wsL_law := inr_8 _ (List.mem_of_getElem? (i := 21) rfl)
theorem wm_190 : Cond.methodLink RX5 396 yX1_readCandidates ∈ wsL_law := inr_8 _ (List.mem_of_getElem? (i := 22) rfl)
theorem wm_191 : Cond.instanceMethod yX1_readCandidates ∈ wsL_law := inr_8 _ (List.mem_of_getElem? (i := 23) rfl)
theorem wm_192 : Cond.selects RX1 yX1_readCandidates yX1_readCandidates ∈ wsL_law := inr_9 _ (List.mem_of_getElem? (i := 0) rfl)
theorem wm_193 : Cond.code yX1_readCandidates cX1_readCandidates 4 (some .int) ∈ wsL_law := inr_9 _ (List.mem_of_getElem? (i := 1) rfl)
theorem wm_194 : Cond.methodLink RX1 88 yX1_readOfCandidate ∈ wsL_law := inr_9 _ (List.mem_of_getElem? (i := 2) rfl)
theorem wm_195 : Cond.instanceMethod yX1_readOfCandidate ∈ wsL_law := inr_9 _ (List.mem_of_getElem? (i := 3) rfl)
theorem wm_196 : Cond.selects RX1 yX1_readOfCandidate yX1_readOfCandidate ∈ wsL_law := inr_9 _ (List.mem_of_getElem? (i := 4) rfl)
theorem wm_197 : Cond.code yX1_readOfCandidate cX1_readOfCandidate 4 (some .boolean) ∈ wsL_law := inr_9 _ (List.mem_of_getElem? (i := 5) rfl)
theorem wm_198 : Cond.methodLink RX1 92 yX1_holdOf ∈ wsL_law := inr_9 _ (List.mem_of_getElem? (i := 6) rfl)
theorem wm_199 : Cond.static yX1_holdOf ∈ wsL_law := inr_9 _ (List.mem_of_getElem? (i := 7) rfl)
theorem wm_200 : Cond.code yX1_holdOf cX1_holdOf 1 (some .int) ∈ wsL_law := inr_9 _ (List.mem_of_getElem? (i := 8) rfl)
theorem wm_201 : Cond.methodLink RX5 176 yX0_run ∈ wsL_law := inr_9 _ (List.mem_of_getElem? (i := 9) rfl)
theorem wm_202 : Cond.instanceMethod yX0_run ∈ wsL_law := inr_9 _ (List.mem_of_getElem? (i := 10) rfl)
theorem wm_203 : Cond.selects RX0 yX0_run yX0_run ∈ wsL_law := inr_9 _ (List.mem_of_getElem? (i := 11) rfl)
theorem wm_204 : Cond.code yX0_run cX0_run 1 none ∈ wsL_law := inr_9 _ (List.mem_of_getElem? (i := 12) rfl)
theorem wm_205 : Cond.methodLink RX0 41 yX0_start ∈ wsL_law := inr_9 _ (List.mem_of_getElem? (i := 13) rfl)
theorem wm_206 : Cond.instanceMethod yX0_start ∈ wsL_law := inr_9 _ (List.mem_of_getElem? (i := 14) rfl)
theorem wm_207 : Cond.selects RX0 yX0_start yX0_start ∈ wsL_law := inr_9 _ (List.mem_of_getElem? (i := 15) rfl)
theorem wm_208 : Cond.code yX0_start cX0_start 3 none ∈ wsL_law := inr_9 _ (List.mem_of_getElem? (i := 16) rfl)
theorem wm_209 : Cond.fieldLink RX0 73 "ElectingWind$Scene" "candidates" "I" ∈ wsL_law := inr_9 _ (List.mem_of_getElem? (i := 17) rfl)
theorem wm_210 : Cond.fieldLink RX0 76 "ElectingWind$Scene" "at" "[I" ∈ wsL_law := inr_9 _ (List.mem_of_getElem? (i := 18) rfl)
theorem wm_211 : Cond.fieldLink RX0 79 "ElectingWind$Scene" "ribs" "[I" ∈ wsL_law := inr_9 _ (List.mem_of_getElem? (i := 19) rfl)
theorem wm_212 : Cond.methodLink RX0 67 yJ7_fill_53178 ∈ wsL_law := inr_9 _ (List.mem_of_getElem? (i := 20) rfl)
theorem wm_213 : Cond.static yJ7_fill_53178 ∈ wsL_law := inr_9 _ (List.mem_of_getElem? (i := 21) rfl)
theorem wm_214 : Cond.initialized RJ7 ∈ wsL_law := inr_9 _ (List.mem_of_getElem? (i := 22) rfl)
theorem wm_215 : Cond.code yJ7_fill_53178 cJ7_fill_53178 4 none ∈ wsL_law := inr_9 _ (List.mem_of_getElem? (i := 23) rfl)
theorem wm_216 : Cond.methodLink RX0 80 yX1_isCell ∈ wsL_law := inr_10 _ (List.mem_of_getElem? (i := 0) rfl)
theorem wm_217 : Cond.methodLink RX0 84 yX1_isWall ∈ wsL_law := inr_10 _ (List.mem_of_getElem? (i := 1) rfl)
theorem wm_218 : Cond.methodLink RX0 44 yX0_runOnFrom ∈ wsL_law := inr_10 _ (List.mem_of_getElem? (i := 2) rfl)
theorem wm_219 : Cond.instanceMethod yX0_runOnFrom ∈ wsL_law := inr_10 _ (List.mem_of_getElem? (i := 3) rfl)
theorem wm_220 : Cond.selects RX0 yX0_runOnFrom yX0_runOnFrom ∈ wsL_law := inr_10 _ (List.mem_of_getElem? (i := 4) rfl)
theorem wm_221 : Cond.code yX0_runOnFrom cX0_runOnFrom 3 none ∈ wsL_law := inr_10 _ (List.mem_of_getElem? (i := 5) rfl)
theorem wm_222 : Cond.methodLink RX0 48 Lib.Math.max.name ∈ wsL_law := inr_10 _ (List.mem_of_getElem? (i := 6) rfl)
theorem wm_223 : Cond.static Lib.Math.max.name ∈ wsL_law := inr_10 _ (List.mem_of_getElem? (i := 7) rfl)
theorem wm_224 : Cond.code Lib.Math.max.name Lib.Math.max.code 2 (some .int) ∈ wsL_law := inr_10 _ (List.mem_of_getElem? (i := 8) rfl)
theorem wm_225 : Cond.fieldLink RX0 54 "ElectingWind$Scene" "minutes" "I" ∈ wsL_law := inr_10 _ (List.mem_of_getElem? (i := 9) rfl)
theorem wm_226 : Cond.methodLink RX0 57 yX0_pass ∈ wsL_law := inr_10 _ (List.mem_of_getElem? (i := 10) rfl)
theorem wm_227 : Cond.instanceMethod yX0_pass ∈ wsL_law := inr_10 _ (List.mem_of_getElem? (i := 11) rfl)
theorem wm_228 : Cond.selects RX0 yX0_pass yX0_pass ∈ wsL_law := inr_10 _ (List.mem_of_getElem? (i := 12) rfl)
theorem wm_229 : Cond.code yX0_pass cX0_pass 11 none ∈ wsL_law := inr_10 _ (List.mem_of_getElem? (i := 13) rfl)
theorem wm_230 : Cond.fieldLink RX0 90 "ElectingWind$Scene" "held" "[I" ∈ wsL_law := inr_10 _ (List.mem_of_getElem? (i := 14) rfl)
theorem wm_231 : Cond.methodLink RX0 87 yX0_windOn ∈ wsL_law := inr_10 _ (List.mem_of_getElem? (i := 15) rfl)
theorem wm_232 : Cond.instanceMethod yX0_windOn ∈ wsL_law := inr_10 _ (List.mem_of_getElem? (i := 16) rfl)
theorem wm_233 : Cond.selects RX0 yX0_windOn yX0_windOn ∈ wsL_law := inr_10 _ (List.mem_of_getElem? (i := 17) rfl)
theorem wm_234 : Cond.code yX0_windOn cX0_windOn 8 (some .int) ∈ wsL_law := inr_10 _ (List.mem_of_getElem? (i := 18) rfl)
theorem wm_235 : Cond.fieldLink RX0 100 "ElectingWind$Scene" "cells" "I" ∈ wsL_law := inr_10 _ (List.mem_of_getElem? (i := 19) rfl)
theorem wm_236 : Cond.fieldLink RX0 103 "ElectingWind$Scene" "from" "[I" ∈ wsL_law := inr_10 _ (List.mem_of_getElem? (i := 20) rfl)
theorem wm_237 : Cond.fieldLink RX0 106 "ElectingWind$Scene" "lay" "[I" ∈ wsL_law := inr_10 _ (List.mem_of_getElem? (i := 21) rfl)
theorem wm_238 : Cond.fieldLink RX0 109 "ElectingWind$Scene" "force" "[I" ∈ wsL_law := inr_10 _ (List.mem_of_getElem? (i := 22) rfl)
theorem wm_239 : Cond.fieldLink RX0 112 "ElectingWind$Scene" "lee" "[I" ∈ wsL_law := inr_10 _ (List.mem_of_getElem? (i := 23) rfl)
theorem wm_240 : Cond.methodLink RX0 93 yX0_strainOf ∈ wsL_law := inr_11 _ (List.mem_of_getElem? (i := 0) rfl)
theorem wm_241 : Cond.static yX0_strainOf ∈ wsL_law := inr_11 _ (List.mem_of_getElem? (i := 1) rfl)
theorem wm_242 : Cond.code yX0_strainOf cX0_strainOf 2 (some .int) ∈ wsL_law := inr_11 _ (List.mem_of_getElem? (i := 2) rfl)
theorem wm_243 : Cond.methodLink RX0 63 yX0_has ∈ wsL_law := inr_11 _ (List.mem_of_getElem? (i := 3) rfl)
theorem wm_244 : Cond.static yX0_has ∈ wsL_law := inr_11 _ (List.mem_of_getElem? (i := 4) rfl)
theorem wm_245 : Cond.code yX0_has cX0_has 2 (some .boolean) ∈ wsL_law := inr_11 _ (List.mem_of_getElem? (i := 5) rfl)
theorem wm_246 : Cond.methodLink RX0 96 yX0_elect ∈ wsL_law := inr_11 _ (List.mem_of_getElem? (i := 6) rfl)
theorem wm_247 : Cond.instanceMethod yX0_elect ∈ wsL_law := inr_11 _ (List.mem_of_getElem? (i := 7) rfl)
theorem wm_248 : Cond.selects RX0 yX0_elect yX0_elect ∈ wsL_law := inr_11 _ (List.mem_of_getElem? (i := 8) rfl)
theorem wm_249 : Cond.code yX0_elect cX0_elect 8 none ∈ wsL_law := inr_11 _ (List.mem_of_getElem? (i := 9) rfl)
theorem wm_250 : Cond.methodLink RX0 60 yX0_end ∈ wsL_law := inr_11 _ (List.mem_of_getElem? (i := 10) rfl)
theorem wm_251 : Cond.instanceMethod yX0_end ∈ wsL_law := inr_11 _ (List.mem_of_getElem? (i := 11) rfl)
theorem wm_252 : Cond.selects RX0 yX0_end yX0_end ∈ wsL_law := inr_11 _ (List.mem_of_getElem? (i := 12) rfl)
theorem wm_253 : Cond.code yX0_end cX0_end 1 none ∈ wsL_law := inr_11 _ (List.mem_of_getElem? (i := 13) rfl)
theorem wm_254 : Cond.methodLink RX5 84 yX2_length ∈ wsL_law := inr_11 _ (List.mem_of_getElem? (i := 14) rfl)
theorem wm_255 : Cond.methodLink RL 17 yX6_type ∈ wsL_law := inr_11 _ (List.mem_of_getElem? (i := 15) rfl)
theorem wm_256 : Cond.instanceMethod yX6_type ∈ wsL_law := inr_11 _ (List.mem_of_getElem? (i := 16) rfl)
theorem wm_257 : Cond.selects RX6 yX6_type yX6_type ∈ wsL_law := inr_11 _ (List.mem_of_getElem? (i := 17) rfl)
theorem wm_258 : Cond.code yX6_type cX6_type 3 (some .int) ∈ wsL_law := inr_11 _ (List.mem_of_getElem? (i := 18) rfl)
theorem wm_259 : Cond.methodLink RX6 86 yX6_isText ∈ wsL_law := inr_11 _ (List.mem_of_getElem? (i := 19) rfl)
theorem wm_260 : Cond.static yX6_isText ∈ wsL_law := inr_11 _ (List.mem_of_getElem? (i := 20) rfl)
theorem wm_261 : Cond.code yX6_isText cX6_isText 1 (some .boolean) ∈ wsL_law := inr_11 _ (List.mem_of_getElem? (i := 21) rfl)
theorem wm_262 : Cond.methodLink RX6 82 yX6_within ∈ wsL_law := inr_11 _ (List.mem_of_getElem? (i := 22) rfl)
theorem wm_263 : Cond.static yX6_within ∈ wsL_law := inr_11 _ (List.mem_of_getElem? (i := 23) rfl)
theorem wm_264 : Cond.code yX6_within cX6_within 3 (some .boolean) ∈ wsL_law := inr_12 _ (List.mem_of_getElem? (i := 0) rfl)
theorem wm_265 : Cond.methodLink RL 18 yX5_wipe ∈ wsL_law := inr_12 _ (List.mem_of_getElem? (i := 1) rfl)
theorem wm_266 : Cond.instanceMethod yX5_wipe ∈ wsL_law := inr_12 _ (List.mem_of_getElem? (i := 2) rfl)
theorem wm_267 : Cond.selects RX5 yX5_wipe yX5_wipe ∈ wsL_law := inr_12 _ (List.mem_of_getElem? (i := 3) rfl)
theorem wm_268 : Cond.code yX5_wipe cX5_wipe 3 (some .int) ∈ wsL_law := inr_12 _ (List.mem_of_getElem? (i := 4) rfl)
theorem wm_269 : Cond.methodLink RX5 88 yX2_shorten ∈ wsL_law := inr_12 _ (List.mem_of_getElem? (i := 5) rfl)
theorem wm_270 : Cond.instanceMethod yX2_shorten ∈ wsL_law := inr_12 _ (List.mem_of_getElem? (i := 6) rfl)
theorem wm_271 : Cond.selects RX2 yX2_shorten yX2_shorten ∈ wsL_law := inr_12 _ (List.mem_of_getElem? (i := 7) rfl)
theorem wm_272 : Cond.code yX2_shorten cX2_shorten 2 none ∈ wsL_law := inr_12 _ (List.mem_of_getElem? (i := 8) rfl)
theorem wm_273 : Cond.methodLink RX2 28 Lib.Math.max.name ∈ wsL_law := inr_12 _ (List.mem_of_getElem? (i := 9) rfl)
theorem wm_274 : Cond.methodLink RL 22 yX6_wipe ∈ wsL_law := inr_12 _ (List.mem_of_getElem? (i := 10) rfl)
theorem wm_275 : Cond.instanceMethod yX6_wipe ∈ wsL_law := inr_12 _ (List.mem_of_getElem? (i := 11) rfl)
theorem wm_276 : Cond.selects RX6 yX6_wipe yX6_wipe ∈ wsL_law := inr_12 _ (List.mem_of_getElem? (i := 12) rfl)
theorem wm_277 : Cond.code yX6_wipe cX6_wipe 3 (some .int) ∈ wsL_law := inr_12 _ (List.mem_of_getElem? (i := 13) rfl)
theorem wm_278 : Cond.methodLink RL 23 yX5_undo ∈ wsL_law := inr_12 _ (List.mem_of_getElem? (i := 14) rfl)
theorem wm_279 : Cond.instanceMethod yX5_undo ∈ wsL_law := inr_12 _ (List.mem_of_getElem? (i := 15) rfl)
theorem wm_280 : Cond.selects RX5 yX5_undo yX5_undo ∈ wsL_law := inr_12 _ (List.mem_of_getElem? (i := 16) rfl)
theorem wm_281 : Cond.code yX5_undo cX5_undo 2 (some .int) ∈ wsL_law := inr_12 _ (List.mem_of_getElem? (i := 17) rfl)
theorem wm_282 : Cond.methodLink RL 26 yX6_undo ∈ wsL_law := inr_12 _ (List.mem_of_getElem? (i := 18) rfl)
theorem wm_283 : Cond.instanceMethod yX6_undo ∈ wsL_law := inr_12 _ (List.mem_of_getElem? (i := 19) rfl)
theorem wm_284 : Cond.selects RX6 yX6_undo yX6_undo ∈ wsL_law := inr_12 _ (List.mem_of_getElem? (i := 20) rfl)
theorem wm_285 : Cond.code yX6_undo cX6_undo 2 (some .int) ∈ wsL_law := inr_12 _ (List.mem_of_getElem? (i := 21) rfl)
theorem wm_286 : Cond.methodLink RL 27 yX5_fault ∈ wsL_law := inr_12 _ (List.mem_of_getElem? (i := 22) rfl)
theorem wm_287 : Cond.instanceMethod yX5_fault ∈ wsL_law := inr_12 _ (List.mem_of_getElem? (i := 23) rfl)
theorem wm_288 : Cond.selects RX5 yX5_fault yX5_fault ∈ wsL_law := inr_13 _ (List.mem_of_getElem? (i := 0) rfl)
theorem wm_289 : Cond.code yX5_fault cX5_fault 2 (some .int) ∈ wsL_law := inr_13 _ (List.mem_of_getElem? (i := 1) rfl)
theorem wm_290 : Cond.methodLink RL 30 yX6_fault ∈ wsL_law := inr_13 _ (List.mem_of_getElem? (i := 2) rfl)
theorem wm_291 : Cond.instanceMethod yX6_fault ∈ wsL_law := inr_13 _ (List.mem_of_getElem? (i := 3) rfl)
theorem wm_292 : Cond.selects RX6 yX6_fault yX6_fault ∈ wsL_law := inr_13 _ (List.mem_of_getElem? (i := 4) rfl)
theorem wm_293 : Cond.code yX6_fault cX6_fault 2 (some .int) ∈ wsL_law := inr_13 _ (List.mem_of_getElem? (i := 5) rfl)
theorem wm_294 : Cond.methodLink RX6 128 yX6_faultOf ∈ wsL_law := inr_13 _ (List.mem_of_getElem? (i := 6) rfl)
theorem wm_295 : Cond.instanceMethod yX6_faultOf ∈ wsL_law := inr_13 _ (List.mem_of_getElem? (i := 7) rfl)
theorem wm_296 : Cond.selects RX6 yX6_faultOf yX6_faultOf ∈ wsL_law := inr_13 _ (List.mem_of_getElem? (i := 8) rfl)
theorem wm_297 : Cond.code yX6_faultOf cX6_faultOf 5 (some .int) ∈ wsL_law := inr_13 _ (List.mem_of_getElem? (i := 9) rfl)
theorem wm_298 : Cond.methodLink RX6 118 yX6_readsCorner ∈ wsL_law := inr_13 _ (List.mem_of_getElem? (i := 10) rfl)
theorem wm_299 : Cond.instanceMethod yX6_readsCorner ∈ wsL_law := inr_13 _ (List.mem_of_getElem? (i := 11) rfl)
theorem wm_300 : Cond.selects RX6 yX6_readsCorner yX6_readsCorner ∈ wsL_law := inr_13 _ (List.mem_of_getElem? (i := 12) rfl)
theorem wm_301 : Cond.code yX6_readsCorner cX6_readsCorner 7 (some .int) ∈ wsL_law := inr_13 _ (List.mem_of_getElem? (i := 13) rfl)
theorem wm_302 : Cond.fieldLink RX6 94 "ElectingWindModel" "cells" "I" ∈ wsL_law := inr_13 _ (List.mem_of_getElem? (i := 14) rfl)
theorem wm_303 : Cond.fieldLink RX6 98 "ElectingWindModel" "wide" "I" ∈ wsL_law := inr_13 _ (List.mem_of_getElem? (i := 15) rfl)
theorem wm_304 : Cond.methodLink RX6 90 yX6_byteAt ∈ wsL_law := inr_13 _ (List.mem_of_getElem? (i := 16) rfl)
theorem wm_305 : Cond.instanceMethod yX6_byteAt ∈ wsL_law := inr_13 _ (List.mem_of_getElem? (i := 17) rfl)
theorem wm_306 : Cond.selects RX6 yX6_byteAt yX6_byteAt ∈ wsL_law := inr_13 _ (List.mem_of_getElem? (i := 18) rfl)
theorem wm_307 : Cond.code yX6_byteAt cX6_byteAt 3 (some .int) ∈ wsL_law := inr_13 _ (List.mem_of_getElem? (i := 19) rfl)
theorem wm_308 : Cond.methodLink RX6 122 yX6_readsGusts ∈ wsL_law := inr_13 _ (List.mem_of_getElem? (i := 20) rfl)
theorem wm_309 : Cond.instanceMethod yX6_readsGusts ∈ wsL_law := inr_13 _ (List.mem_of_getElem? (i := 21) rfl)
theorem wm_310 : Cond.selects RX6 yX6_readsGusts yX6_readsGusts ∈ wsL_law := inr_13 _ (List.mem_of_getElem? (i := 22) rfl)
theorem wm_311 : Cond.code yX6_readsGusts cX6_readsGusts 4 (some .int) ∈ wsL_law := inr_13 _ (List.mem_of_getElem? (i := 23) rfl)
theorem wm_312 : Cond.fieldLink RX6 101 "ElectingWindModel" "minutes" "I" ∈ wsL_law := inr_14 _ (List.mem_of_getElem? (i := 0) rfl)
theorem wm_313 : Cond.methodLink RX6 104 yX6_wayOf ∈ wsL_law := inr_14 _ (List.mem_of_getElem? (i := 1) rfl)
theorem wm_314 : Cond.static yX6_wayOf ∈ wsL_law := inr_14 _ (List.mem_of_getElem? (i := 2) rfl)
theorem wm_315 : Cond.code yX6_wayOf cX6_wayOf 1 (some .int) ∈ wsL_law := inr_14 _ (List.mem_of_getElem? (i := 3) rfl)
theorem wm_316 : Cond.methodLink RX6 108 yX6_figureAt ∈ wsL_law := inr_14 _ (List.mem_of_getElem? (i := 4) rfl)
theorem wm_317 : Cond.instanceMethod yX6_figureAt ∈ wsL_law := inr_14 _ (List.mem_of_getElem? (i := 5) rfl)
theorem wm_318 : Cond.selects RX6 yX6_figureAt yX6_figureAt ∈ wsL_law := inr_14 _ (List.mem_of_getElem? (i := 6) rfl)
theorem wm_319 : Cond.code yX6_figureAt cX6_figureAt 6 (some .int) ∈ wsL_law := inr_14 _ (List.mem_of_getElem? (i := 7) rfl)
theorem wm_320 : Cond.methodLink RX6 125 yX6_readsCandidates ∈ wsL_law := inr_14 _ (List.mem_of_getElem? (i := 8) rfl)
theorem wm_321 : Cond.instanceMethod yX6_readsCandidates ∈ wsL_law := inr_14 _ (List.mem_of_getElem? (i := 9) rfl)
theorem wm_322 : Cond.selects RX6 yX6_readsCandidates yX6_readsCandidates ∈ wsL_law := inr_14 _ (List.mem_of_getElem? (i := 10) rfl)
theorem wm_323 : Cond.code yX6_readsCandidates cX6_readsCandidates 4 (some .int) ∈ wsL_law := inr_14 _ (List.mem_of_getElem? (i := 11) rfl)
theorem wm_324 : Cond.fieldLink RX6 112 "ElectingWindModel" "candidates" "I" ∈ wsL_law := inr_14 _ (List.mem_of_getElem? (i := 12) rfl)
theorem wm_325 : Cond.methodLink RX6 115 yX6_readsCandidate ∈ wsL_law := inr_14 _ (List.mem_of_getElem? (i := 13) rfl)
theorem wm_326 : Cond.instanceMethod yX6_readsCandidate ∈ wsL_law := inr_14 _ (List.mem_of_getElem? (i := 14) rfl)
theorem wm_327 : Cond.selects RX6 yX6_readsCandidate yX6_readsCandidate ∈ wsL_law := inr_14 _ (List.mem_of_getElem? (i := 15) rfl)
theorem wm_328 : Cond.code yX6_readsCandidate cX6_readsCandidate 8 (some .int) ∈ wsL_law := inr_14 _ (List.mem_of_getElem? (i := 16) rfl)
theorem wm_329 : Cond.methodLink RL 31 yX5_cell ∈ wsL_law := inr_14 _ (List.mem_of_getElem? (i := 17) rfl)
theorem wm_330 : Cond.instanceMethod yX5_cell ∈ wsL_law := inr_14 _ (List.mem_of_getElem? (i := 18) rfl)
theorem wm_331 : Cond.selects RX5 yX5_cell yX5_cell ∈ wsL_law := inr_14 _ (List.mem_of_getElem? (i := 19) rfl)
theorem wm_332 : Cond.code yX5_cell cX5_cell 2 (some .int) ∈ wsL_law := inr_14 _ (List.mem_of_getElem? (i := 20) rfl)
theorem wm_333 : Cond.methodLink RX5 95 yX1_isCell ∈ wsL_law := inr_14 _ (List.mem_of_getElem? (i := 21) rfl)
theorem wm_334 : Cond.methodLink RX5 100 yX1_isWall ∈ wsL_law := inr_14 _ (List.mem_of_getElem? (i := 22) rfl)
theorem wm_335 : Cond.methodLink RL 34 yX6_cell ∈ wsL_law := inr_14 _ (List.mem_of_getElem? (i := 23) rfl)
theorem wm_336 : Cond.instanceMethod yX6_cell ∈ wsL_law := inr_15 _ (List.mem_of_getElem? (i := 0) rfl)
theorem wm_337 : Cond.selects RX6 yX6_cell yX6_cell ∈ wsL_law := inr_15 _ (List.mem_of_getElem? (i := 1) rfl)
theorem wm_338 : Cond.code yX6_cell cX6_cell 2 (some .int) ∈ wsL_law := inr_15 _ (List.mem_of_getElem? (i := 2) rfl)
theorem wm_339 : Cond.methodLink RX6 134 yX6_isCell ∈ wsL_law := inr_15 _ (List.mem_of_getElem? (i := 3) rfl)
theorem wm_340 : Cond.instanceMethod yX6_isCell ∈ wsL_law := inr_15 _ (List.mem_of_getElem? (i := 4) rfl)
theorem wm_341 : Cond.selects RX6 yX6_isCell yX6_isCell ∈ wsL_law := inr_15 _ (List.mem_of_getElem? (i := 5) rfl)
theorem wm_342 : Cond.code yX6_isCell cX6_isCell 2 (some .boolean) ∈ wsL_law := inr_15 _ (List.mem_of_getElem? (i := 6) rfl)
theorem wm_343 : Cond.methodLink RX6 131 yX6_reads ∈ wsL_law := inr_15 _ (List.mem_of_getElem? (i := 7) rfl)
theorem wm_344 : Cond.instanceMethod yX6_reads ∈ wsL_law := inr_15 _ (List.mem_of_getElem? (i := 8) rfl)
theorem wm_345 : Cond.selects RX6 yX6_reads yX6_reads ∈ wsL_law := inr_15 _ (List.mem_of_getElem? (i := 9) rfl)
theorem wm_346 : Cond.code yX6_reads cX6_reads 2 none ∈ wsL_law := inr_15 _ (List.mem_of_getElem? (i := 10) rfl)
theorem wm_347 : Cond.methodLink RL 35 yX5_gust ∈ wsL_law := inr_15 _ (List.mem_of_getElem? (i := 11) rfl)
theorem wm_348 : Cond.instanceMethod yX5_gust ∈ wsL_law := inr_15 _ (List.mem_of_getElem? (i := 12) rfl)
theorem wm_349 : Cond.selects RX5 yX5_gust yX5_gust ∈ wsL_law := inr_15 _ (List.mem_of_getElem? (i := 13) rfl)
theorem wm_350 : Cond.code yX5_gust cX5_gust 3 (some .int) ∈ wsL_law := inr_15 _ (List.mem_of_getElem? (i := 14) rfl)
theorem wm_351 : Cond.fieldLink RX5 106 "ElectingWind$Scene" "from" "[I" ∈ wsL_law := inr_15 _ (List.mem_of_getElem? (i := 15) rfl)
theorem wm_352 : Cond.fieldLink RX5 109 "ElectingWind$Scene" "force" "[I" ∈ wsL_law := inr_15 _ (List.mem_of_getElem? (i := 16) rfl)
theorem wm_353 : Cond.methodLink RX5 103 yX5_isMinute ∈ wsL_law := inr_15 _ (List.mem_of_getElem? (i := 17) rfl)
theorem wm_354 : Cond.instanceMethod yX5_isMinute ∈ wsL_law := inr_15 _ (List.mem_of_getElem? (i := 18) rfl)
theorem wm_355 : Cond.selects RX5 yX5_isMinute yX5_isMinute ∈ wsL_law := inr_15 _ (List.mem_of_getElem? (i := 19) rfl)
theorem wm_356 : Cond.code yX5_isMinute cX5_isMinute 2 (some .boolean) ∈ wsL_law := inr_15 _ (List.mem_of_getElem? (i := 20) rfl)
theorem wm_357 : Cond.fieldLink RX5 150 "ElectingWind$Scene" "minutes" "I" ∈ wsL_law := inr_15 _ (List.mem_of_getElem? (i := 21) rfl)
theorem wm_358 : Cond.methodLink RL 38 yX6_gust ∈ wsL_law := inr_15 _ (List.mem_of_getElem? (i := 22) rfl)
theorem wm_359 : Cond.instanceMethod yX6_gust ∈ wsL_law := inr_15 _ (List.mem_of_getElem? (i := 23) rfl)
theorem wm_360 : Cond.selects RX6 yX6_gust yX6_gust ∈ wsL_law := inr_16 _ (List.mem_of_getElem? (i := 0) rfl)
theorem wm_361 : Cond.code yX6_gust cX6_gust 3 (some .int) ∈ wsL_law := inr_16 _ (List.mem_of_getElem? (i := 1) rfl)
theorem wm_362 : Cond.methodLink RX6 137 yX6_isMinute ∈ wsL_law := inr_16 _ (List.mem_of_getElem? (i := 2) rfl)
theorem wm_363 : Cond.instanceMethod yX6_isMinute ∈ wsL_law := inr_16 _ (List.mem_of_getElem? (i := 3) rfl)
theorem wm_364 : Cond.selects RX6 yX6_isMinute yX6_isMinute ∈ wsL_law := inr_16 _ (List.mem_of_getElem? (i := 4) rfl)
theorem wm_365 : Cond.code yX6_isMinute cX6_isMinute 2 (some .boolean) ∈ wsL_law := inr_16 _ (List.mem_of_getElem? (i := 5) rfl)
theorem wm_366 : Cond.methodLink RL 39 yX5_candidate ∈ wsL_law := inr_16 _ (List.mem_of_getElem? (i := 6) rfl)
theorem wm_367 : Cond.instanceMethod yX5_candidate ∈ wsL_law := inr_16 _ (List.mem_of_getElem? (i := 7) rfl)
theorem wm_368 : Cond.selects RX5 yX5_candidate yX5_candidate ∈ wsL_law := inr_16 _ (List.mem_of_getElem? (i := 8) rfl)
theorem wm_369 : Cond.code yX5_candidate cX5_candidate 3 (some .int) ∈ wsL_law := inr_16 _ (List.mem_of_getElem? (i := 9) rfl)
theorem wm_370 : Cond.fieldLink RX5 115 "ElectingWind$Scene" "at" "[I" ∈ wsL_law := inr_16 _ (List.mem_of_getElem? (i := 10) rfl)
theorem wm_371 : Cond.fieldLink RX5 118 "ElectingWind$Scene" "ribs" "[I" ∈ wsL_law := inr_16 _ (List.mem_of_getElem? (i := 11) rfl)
theorem wm_372 : Cond.fieldLink RX5 121 "ElectingWind$Scene" "held" "[I" ∈ wsL_law := inr_16 _ (List.mem_of_getElem? (i := 12) rfl)
theorem wm_373 : Cond.methodLink RX5 112 yX5_isCandidate ∈ wsL_law := inr_16 _ (List.mem_of_getElem? (i := 13) rfl)
theorem wm_374 : Cond.instanceMethod yX5_isCandidate ∈ wsL_law := inr_16 _ (List.mem_of_getElem? (i := 14) rfl)
theorem wm_375 : Cond.selects RX5 yX5_isCandidate yX5_isCandidate ∈ wsL_law := inr_16 _ (List.mem_of_getElem? (i := 15) rfl)
theorem wm_376 : Cond.code yX5_isCandidate cX5_isCandidate 2 (some .boolean) ∈ wsL_law := inr_16 _ (List.mem_of_getElem? (i := 16) rfl)
theorem wm_377 : Cond.fieldLink RX5 167 "ElectingWind$Scene" "candidates" "I" ∈ wsL_law := inr_16 _ (List.mem_of_getElem? (i := 17) rfl)
theorem wm_378 : Cond.methodLink RX5 124 yX0_isSomewhere ∈ wsL_law := inr_16 _ (List.mem_of_getElem? (i := 18) rfl)
theorem wm_379 : Cond.instanceMethod yX0_isSomewhere ∈ wsL_law := inr_16 _ (List.mem_of_getElem? (i := 19) rfl)
theorem wm_380 : Cond.selects RX0 yX0_isSomewhere yX0_isSomewhere ∈ wsL_law := inr_16 _ (List.mem_of_getElem? (i := 20) rfl)
theorem wm_381 : Cond.code yX0_isSomewhere cX0_isSomewhere 2 (some .boolean) ∈ wsL_law := inr_16 _ (List.mem_of_getElem? (i := 21) rfl)
theorem wm_382 : Cond.methodLink RL 42 yX6_candidate ∈ wsL_law := inr_16 _ (List.mem_of_getElem? (i := 22) rfl)
theorem wm_383 : Cond.instanceMethod yX6_candidate ∈ wsL_law := inr_16 _ (List.mem_of_getElem? (i := 23) rfl)
theorem wm_384 : Cond.selects RX6 yX6_candidate yX6_candidate ∈ wsL_law := inr_17 _ (List.mem_of_getElem? (i := 0) rfl)
theorem wm_385 : Cond.code yX6_candidate cX6_candidate 3 (some .int) ∈ wsL_law := inr_17 _ (List.mem_of_getElem? (i := 1) rfl)
theorem wm_386 : Cond.methodLink RX6 143 yX6_isCandidate ∈ wsL_law := inr_17 _ (List.mem_of_getElem? (i := 2) rfl)
theorem wm_387 : Cond.instanceMethod yX6_isCandidate ∈ wsL_law := inr_17 _ (List.mem_of_getElem? (i := 3) rfl)
theorem wm_388 : Cond.selects RX6 yX6_isCandidate yX6_isCandidate ∈ wsL_law := inr_17 _ (List.mem_of_getElem? (i := 4) rfl)
theorem wm_389 : Cond.code yX6_isCandidate cX6_isCandidate 2 (some .boolean) ∈ wsL_law := inr_17 _ (List.mem_of_getElem? (i := 5) rfl)
theorem wm_390 : Cond.methodLink RX6 146 yX6_candidateOf ∈ wsL_law := inr_17 _ (List.mem_of_getElem? (i := 6) rfl)
theorem wm_391 : Cond.instanceMethod yX6_candidateOf ∈ wsL_law := inr_17 _ (List.mem_of_getElem? (i := 7) rfl)
theorem wm_392 : Cond.selects RX6 yX6_candidateOf yX6_candidateOf ∈ wsL_law := inr_17 _ (List.mem_of_getElem? (i := 8) rfl)
theorem wm_393 : Cond.code yX6_candidateOf cX6_candidateOf 3 (some .int) ∈ wsL_law := inr_17 _ (List.mem_of_getElem? (i := 9) rfl)
theorem wm_394 : Cond.methodLink RX6 140 yX6_isSomewhere ∈ wsL_law := inr_17 _ (List.mem_of_getElem? (i := 10) rfl)
theorem wm_395 : Cond.instanceMethod yX6_isSomewhere ∈ wsL_law := inr_17 _ (List.mem_of_getElem? (i := 11) rfl)
theorem wm_396 : Cond.selects RX6 yX6_isSomewhere yX6_isSomewhere ∈ wsL_law := inr_17 _ (List.mem_of_getElem? (i := 12) rfl)
theorem wm_397 : Cond.code yX6_isSomewhere cX6_isSomewhere 2 (some .boolean) ∈ wsL_law := inr_17 _ (List.mem_of_getElem? (i := 13) rfl)
theorem wm_398 : Cond.methodLink RL 43 yX5_wind ∈ wsL_law := inr_17 _ (List.mem_of_getElem? (i := 14) rfl)
theorem wm_399 : Cond.instanceMethod yX5_wind ∈ wsL_law := inr_17 _ (List.mem_of_getElem? (i := 15) rfl)
theorem wm_400 : Cond.selects RX5 yX5_wind yX5_wind ∈ wsL_law := inr_17 _ (List.mem_of_getElem? (i := 16) rfl)
theorem wm_401 : Cond.code yX5_wind cX5_wind 3 (some .int) ∈ wsL_law := inr_17 _ (List.mem_of_getElem? (i := 17) rfl)
theorem wm_402 : Cond.methodLink RX5 127 yX0_windOn ∈ wsL_law := inr_17 _ (List.mem_of_getElem? (i := 18) rfl)
theorem wm_403 : Cond.methodLink RL 46 yX6_wind ∈ wsL_law := inr_17 _ (List.mem_of_getElem? (i := 19) rfl)
theorem wm_404 : Cond.instanceMethod yX6_wind ∈ wsL_law := inr_17 _ (List.mem_of_getElem? (i := 20) rfl)
theorem wm_405 : Cond.selects RX6 yX6_wind yX6_wind ∈ wsL_law := inr_17 _ (List.mem_of_getElem? (i := 21) rfl)
theorem wm_406 : Cond.code yX6_wind cX6_wind 3 (some .int) ∈ wsL_law := inr_17 _ (List.mem_of_getElem? (i := 22) rfl)
theorem wm_407 : Cond.methodLink RX6 178 yX6_windOf ∈ wsL_law := inr_17 _ (List.mem_of_getElem? (i := 23) rfl)
theorem wm_408 : Cond.instanceMethod yX6_windOf ∈ wsL_law := inr_18 _ (List.mem_of_getElem? (i := 0) rfl)
theorem wm_409 : Cond.selects RX6 yX6_windOf yX6_windOf ∈ wsL_law := inr_18 _ (List.mem_of_getElem? (i := 1) rfl)
theorem wm_410 : Cond.code yX6_windOf cX6_windOf 3 (some .int) ∈ wsL_law := inr_18 _ (List.mem_of_getElem? (i := 2) rfl)
theorem wm_411 : Cond.methodLink RX6 175 yX6_runsTold ∈ wsL_law := inr_18 _ (List.mem_of_getElem? (i := 3) rfl)
theorem wm_412 : Cond.instanceMethod yX6_runsTold ∈ wsL_law := inr_18 _ (List.mem_of_getElem? (i := 4) rfl)
theorem wm_413 : Cond.selects RX6 yX6_runsTold yX6_runsTold ∈ wsL_law := inr_18 _ (List.mem_of_getElem? (i := 5) rfl)
theorem wm_414 : Cond.code yX6_runsTold cX6_runsTold 1 none ∈ wsL_law := inr_18 _ (List.mem_of_getElem? (i := 6) rfl)
theorem wm_415 : Cond.methodLink RX6 172 yX6_runs ∈ wsL_law := inr_18 _ (List.mem_of_getElem? (i := 7) rfl)
theorem wm_416 : Cond.instanceMethod yX6_runs ∈ wsL_law := inr_18 _ (List.mem_of_getElem? (i := 8) rfl)
theorem wm_417 : Cond.selects RX6 yX6_runs yX6_runs ∈ wsL_law := inr_18 _ (List.mem_of_getElem? (i := 9) rfl)
theorem wm_418 : Cond.code yX6_runs cX6_runs 2 none ∈ wsL_law := inr_18 _ (List.mem_of_getElem? (i := 10) rfl)
theorem wm_419 : Cond.methodLink RX6 169 yX6_goesBy ∈ wsL_law := inr_18 _ (List.mem_of_getElem? (i := 11) rfl)
theorem wm_420 : Cond.instanceMethod yX6_goesBy ∈ wsL_law := inr_18 _ (List.mem_of_getElem? (i := 12) rfl)
theorem wm_421 : Cond.selects RX6 yX6_goesBy yX6_goesBy ∈ wsL_law := inr_18 _ (List.mem_of_getElem? (i := 13) rfl)
theorem wm_422 : Cond.code yX6_goesBy cX6_goesBy 5 none ∈ wsL_law := inr_18 _ (List.mem_of_getElem? (i := 14) rfl)
theorem wm_423 : Cond.methodLink RX6 159 yX6_windNow ∈ wsL_law := inr_18 _ (List.mem_of_getElem? (i := 15) rfl)
theorem wm_424 : Cond.instanceMethod yX6_windNow ∈ wsL_law := inr_18 _ (List.mem_of_getElem? (i := 16) rfl)
theorem wm_425 : Cond.selects RX6 yX6_windNow yX6_windNow ∈ wsL_law := inr_18 _ (List.mem_of_getElem? (i := 17) rfl)
theorem wm_426 : Cond.code yX6_windNow cX6_windNow 8 (some .int) ∈ wsL_law := inr_18 _ (List.mem_of_getElem? (i := 18) rfl)
theorem wm_427 : Cond.methodLink RX6 149 yX6_beside ∈ wsL_law := inr_18 _ (List.mem_of_getElem? (i := 19) rfl)
theorem wm_428 : Cond.instanceMethod yX6_beside ∈ wsL_law := inr_18 _ (List.mem_of_getElem? (i := 20) rfl)
theorem wm_429 : Cond.selects RX6 yX6_beside yX6_beside ∈ wsL_law := inr_18 _ (List.mem_of_getElem? (i := 21) rfl)
theorem wm_430 : Cond.code yX6_beside cX6_beside 4 (some .int) ∈ wsL_law := inr_18 _ (List.mem_of_getElem? (i := 22) rfl)
theorem wm_431 : Cond.methodLink RX6 152 yX6_isWallAt ∈ wsL_law := inr_18 _ (List.mem_of_getElem? (i := 23) rfl)
theorem wm_432 : Cond.instanceMethod yX6_isWallAt ∈ wsL_law := inr_19 _ (List.mem_of_getElem? (i := 0) rfl)
theorem wm_433 : Cond.selects RX6 yX6_isWallAt yX6_isWallAt ∈ wsL_law := inr_19 _ (List.mem_of_getElem? (i := 1) rfl)
theorem wm_434 : Cond.code yX6_isWallAt cX6_isWallAt 2 (some .boolean) ∈ wsL_law := inr_19 _ (List.mem_of_getElem? (i := 2) rfl)
theorem wm_435 : Cond.methodLink RX6 155 yX6_isLee ∈ wsL_law := inr_19 _ (List.mem_of_getElem? (i := 3) rfl)
theorem wm_436 : Cond.instanceMethod yX6_isLee ∈ wsL_law := inr_19 _ (List.mem_of_getElem? (i := 4) rfl)
theorem wm_437 : Cond.selects RX6 yX6_isLee yX6_isLee ∈ wsL_law := inr_19 _ (List.mem_of_getElem? (i := 5) rfl)
theorem wm_438 : Cond.code yX6_isLee cX6_isLee 5 (some .boolean) ∈ wsL_law := inr_19 _ (List.mem_of_getElem? (i := 6) rfl)
theorem wm_439 : Cond.methodLink RX6 162 yX6_strain ∈ wsL_law := inr_19 _ (List.mem_of_getElem? (i := 7) rfl)
theorem wm_440 : Cond.instanceMethod yX6_strain ∈ wsL_law := inr_19 _ (List.mem_of_getElem? (i := 8) rfl)
theorem wm_441 : Cond.selects RX6 yX6_strain yX6_strain ∈ wsL_law := inr_19 _ (List.mem_of_getElem? (i := 9) rfl)
theorem wm_442 : Cond.code yX6_strain cX6_strain 3 (some .int) ∈ wsL_law := inr_19 _ (List.mem_of_getElem? (i := 10) rfl)
theorem wm_443 : Cond.methodLink RX6 165 yX6_elects ∈ wsL_law := inr_19 _ (List.mem_of_getElem? (i := 11) rfl)
theorem wm_444 : Cond.instanceMethod yX6_elects ∈ wsL_law := inr_19 _ (List.mem_of_getElem? (i := 12) rfl)
theorem wm_445 : Cond.selects RX6 yX6_elects yX6_elects ∈ wsL_law := inr_19 _ (List.mem_of_getElem? (i := 13) rfl)
theorem wm_446 : Cond.code yX6_elects cX6_elects 5 none ∈ wsL_law := inr_19 _ (List.mem_of_getElem? (i := 14) rfl)
theorem wm_447 : Cond.methodLink RL 47 yX5_ribs ∈ wsL_law := inr_19 _ (List.mem_of_getElem? (i := 15) rfl)
theorem wm_448 : Cond.instanceMethod yX5_ribs ∈ wsL_law := inr_19 _ (List.mem_of_getElem? (i := 16) rfl)
theorem wm_449 : Cond.selects RX5 yX5_ribs yX5_ribs ∈ wsL_law := inr_19 _ (List.mem_of_getElem? (i := 17) rfl)
theorem wm_450 : Cond.code yX5_ribs cX5_ribs 3 (some .int) ∈ wsL_law := inr_19 _ (List.mem_of_getElem? (i := 18) rfl)
theorem wm_451 : Cond.methodLink RX5 131 yX0_ribsAhead ∈ wsL_law := inr_19 _ (List.mem_of_getElem? (i := 19) rfl)
theorem wm_452 : Cond.instanceMethod yX0_ribsAhead ∈ wsL_law := inr_19 _ (List.mem_of_getElem? (i := 20) rfl)
theorem wm_453 : Cond.selects RX0 yX0_ribsAhead yX0_ribsAhead ∈ wsL_law := inr_19 _ (List.mem_of_getElem? (i := 21) rfl)
theorem wm_454 : Cond.code yX0_ribsAhead cX0_ribsAhead 4 (some .int) ∈ wsL_law := inr_19 _ (List.mem_of_getElem? (i := 22) rfl)
theorem wm_455 : Cond.methodLink RL 50 yX6_ribs ∈ wsL_law := inr_19 _ (List.mem_of_getElem? (i := 23) rfl)
theorem wm_456 : Cond.instanceMethod yX6_ribs ∈ wsL_law := inr_20 _ (List.mem_of_getElem? (i := 0) rfl)
theorem wm_457 : Cond.selects RX6 yX6_ribs yX6_ribs ∈ wsL_law := inr_20 _ (List.mem_of_getElem? (i := 1) rfl)
theorem wm_458 : Cond.code yX6_ribs cX6_ribs 3 (some .int) ∈ wsL_law := inr_20 _ (List.mem_of_getElem? (i := 2) rfl)
theorem wm_459 : Cond.methodLink RX6 181 yX6_ribsOf ∈ wsL_law := inr_20 _ (List.mem_of_getElem? (i := 3) rfl)
theorem wm_460 : Cond.instanceMethod yX6_ribsOf ∈ wsL_law := inr_20 _ (List.mem_of_getElem? (i := 4) rfl)
theorem wm_461 : Cond.selects RX6 yX6_ribsOf yX6_ribsOf ∈ wsL_law := inr_20 _ (List.mem_of_getElem? (i := 5) rfl)
theorem wm_462 : Cond.code yX6_ribsOf cX6_ribsOf 3 (some .int) ∈ wsL_law := inr_20 _ (List.mem_of_getElem? (i := 6) rfl)
theorem wm_463 : Cond.methodLink RL 51 yX5_overturns ∈ wsL_law := inr_20 _ (List.mem_of_getElem? (i := 7) rfl)
theorem wm_464 : Cond.instanceMethod yX5_overturns ∈ wsL_law := inr_20 _ (List.mem_of_getElem? (i := 8) rfl)
theorem wm_465 : Cond.selects RX5 yX5_overturns yX5_overturns ∈ wsL_law := inr_20 _ (List.mem_of_getElem? (i := 9) rfl)
theorem wm_466 : Cond.code yX5_overturns cX5_overturns 3 (some .int) ∈ wsL_law := inr_20 _ (List.mem_of_getElem? (i := 10) rfl)
theorem wm_467 : Cond.methodLink RX5 134 yX0_turnsWhen ∈ wsL_law := inr_20 _ (List.mem_of_getElem? (i := 11) rfl)
theorem wm_468 : Cond.instanceMethod yX0_turnsWhen ∈ wsL_law := inr_20 _ (List.mem_of_getElem? (i := 12) rfl)
theorem wm_469 : Cond.selects RX0 yX0_turnsWhen yX0_turnsWhen ∈ wsL_law := inr_20 _ (List.mem_of_getElem? (i := 13) rfl)
theorem wm_470 : Cond.code yX0_turnsWhen cX0_turnsWhen 3 (some .int) ∈ wsL_law := inr_20 _ (List.mem_of_getElem? (i := 14) rfl)
theorem wm_471 : Cond.methodLink RX5 138 yX0_isReturned ∈ wsL_law := inr_20 _ (List.mem_of_getElem? (i := 15) rfl)
theorem wm_472 : Cond.instanceMethod yX0_isReturned ∈ wsL_law := inr_20 _ (List.mem_of_getElem? (i := 16) rfl)
theorem wm_473 : Cond.selects RX0 yX0_isReturned yX0_isReturned ∈ wsL_law := inr_20 _ (List.mem_of_getElem? (i := 17) rfl)
theorem wm_474 : Cond.code yX0_isReturned cX0_isReturned 3 (some .boolean) ∈ wsL_law := inr_20 _ (List.mem_of_getElem? (i := 18) rfl)
theorem wm_475 : Cond.methodLink RX0 115 yX0_turnsWhen ∈ wsL_law := inr_20 _ (List.mem_of_getElem? (i := 19) rfl)
theorem wm_476 : Cond.methodLink RX5 141 yX0_isElected ∈ wsL_law := inr_20 _ (List.mem_of_getElem? (i := 20) rfl)
theorem wm_477 : Cond.instanceMethod yX0_isElected ∈ wsL_law := inr_20 _ (List.mem_of_getElem? (i := 21) rfl)
theorem wm_478 : Cond.selects RX0 yX0_isElected yX0_isElected ∈ wsL_law := inr_20 _ (List.mem_of_getElem? (i := 22) rfl)
theorem wm_479 : Cond.code yX0_isElected cX0_isElected 3 (some .boolean) ∈ wsL_law := inr_20 _ (List.mem_of_getElem? (i := 23) rfl)
theorem wm_480 : Cond.methodLink RX5 144 yX0_minutesBehindWhichIn ∈ wsL_law := inr_21 _ (List.mem_of_getElem? (i := 0) rfl)
theorem wm_481 : Cond.instanceMethod yX0_minutesBehindWhichIn ∈ wsL_law := inr_21 _ (List.mem_of_getElem? (i := 1) rfl)
theorem wm_482 : Cond.selects RX0 yX0_minutesBehindWhichIn yX0_minutesBehindWhichIn ∈ wsL_law := inr_21 _ (List.mem_of_getElem? (i := 2) rfl)
theorem wm_483 : Cond.code yX0_minutesBehindWhichIn cX0_minutesBehindWhichIn 4 (some .int) ∈ wsL_law := inr_21 _ (List.mem_of_getElem? (i := 3) rfl)
theorem wm_484 : Cond.methodLink RX0 119 yX0_whoIsIn ∈ wsL_law := inr_21 _ (List.mem_of_getElem? (i := 4) rfl)
theorem wm_485 : Cond.instanceMethod yX0_whoIsIn ∈ wsL_law := inr_21 _ (List.mem_of_getElem? (i := 5) rfl)
theorem wm_486 : Cond.selects RX0 yX0_whoIsIn yX0_whoIsIn ∈ wsL_law := inr_21 _ (List.mem_of_getElem? (i := 6) rfl)
theorem wm_487 : Cond.code yX0_whoIsIn cX0_whoIsIn 2 (some .int) ∈ wsL_law := inr_21 _ (List.mem_of_getElem? (i := 7) rfl)
theorem wm_488 : Cond.methodLink RL 54 yX6_overturns ∈ wsL_law := inr_21 _ (List.mem_of_getElem? (i := 8) rfl)
theorem wm_489 : Cond.instanceMethod yX6_overturns ∈ wsL_law := inr_21 _ (List.mem_of_getElem? (i := 9) rfl)
theorem wm_490 : Cond.selects RX6 yX6_overturns yX6_overturns ∈ wsL_law := inr_21 _ (List.mem_of_getElem? (i := 10) rfl)
theorem wm_491 : Cond.code yX6_overturns cX6_overturns 3 (some .int) ∈ wsL_law := inr_21 _ (List.mem_of_getElem? (i := 11) rfl)
theorem wm_492 : Cond.methodLink RX6 184 yX6_turnsOf ∈ wsL_law := inr_21 _ (List.mem_of_getElem? (i := 12) rfl)
theorem wm_493 : Cond.instanceMethod yX6_turnsOf ∈ wsL_law := inr_21 _ (List.mem_of_getElem? (i := 13) rfl)
theorem wm_494 : Cond.selects RX6 yX6_turnsOf yX6_turnsOf ∈ wsL_law := inr_21 _ (List.mem_of_getElem? (i := 14) rfl)
theorem wm_495 : Cond.code yX6_turnsOf cX6_turnsOf 5 (some .int) ∈ wsL_law := inr_21 _ (List.mem_of_getElem? (i := 15) rfl)
theorem wm_496 : Cond.methodLink RL 55 yX5_in ∈ wsL_law := inr_21 _ (List.mem_of_getElem? (i := 16) rfl)
theorem wm_497 : Cond.instanceMethod yX5_in ∈ wsL_law := inr_21 _ (List.mem_of_getElem? (i := 17) rfl)
theorem wm_498 : Cond.selects RX5 yX5_in yX5_in ∈ wsL_law := inr_21 _ (List.mem_of_getElem? (i := 18) rfl)
theorem wm_499 : Cond.code yX5_in cX5_in 2 (some .int) ∈ wsL_law := inr_21 _ (List.mem_of_getElem? (i := 19) rfl)
theorem wm_500 : Cond.methodLink RX5 147 yX0_whoIsIn ∈ wsL_law := inr_21 _ (List.mem_of_getElem? (i := 20) rfl)
theorem wm_501 : Cond.methodLink RL 58 yX6_in ∈ wsL_law := inr_21 _ (List.mem_of_getElem? (i := 21) rfl)
theorem wm_502 : Cond.instanceMethod yX6_in ∈ wsL_law := inr_21 _ (List.mem_of_getElem? (i := 22) rfl)
theorem wm_503 : Cond.selects RX6 yX6_in yX6_in ∈ wsL_law := inr_21 _ (List.mem_of_getElem? (i := 23) rfl)
theorem wm_504 : Cond.code yX6_in cX6_in 2 (some .int) ∈ wsL_law := inr_22 _ (List.mem_of_getElem? (i := 0) rfl)
theorem wm_505 : Cond.methodLink RX6 187 yX6_inOf ∈ wsL_law := inr_22 _ (List.mem_of_getElem? (i := 1) rfl)
theorem wm_506 : Cond.instanceMethod yX6_inOf ∈ wsL_law := inr_22 _ (List.mem_of_getElem? (i := 2) rfl)
theorem wm_507 : Cond.selects RX6 yX6_inOf yX6_inOf ∈ wsL_law := inr_22 _ (List.mem_of_getElem? (i := 3) rfl)
theorem wm_508 : Cond.code yX6_inOf cX6_inOf 2 (some .int) ∈ wsL_law := inr_22 _ (List.mem_of_getElem? (i := 4) rfl)
theorem wm_509 : Cond.methodLink RL 59 yX5_first ∈ wsL_law := inr_22 _ (List.mem_of_getElem? (i := 5) rfl)
theorem wm_510 : Cond.instanceMethod yX5_first ∈ wsL_law := inr_22 _ (List.mem_of_getElem? (i := 6) rfl)
theorem wm_511 : Cond.selects RX5 yX5_first yX5_first ∈ wsL_law := inr_22 _ (List.mem_of_getElem? (i := 7) rfl)
theorem wm_512 : Cond.code yX5_first cX5_first 4 (some .int) ∈ wsL_law := inr_22 _ (List.mem_of_getElem? (i := 8) rfl)
theorem wm_513 : Cond.methodLink RL 62 yX6_first ∈ wsL_law := inr_22 _ (List.mem_of_getElem? (i := 9) rfl)
theorem wm_514 : Cond.instanceMethod yX6_first ∈ wsL_law := inr_22 _ (List.mem_of_getElem? (i := 10) rfl)
theorem wm_515 : Cond.selects RX6 yX6_first yX6_first ∈ wsL_law := inr_22 _ (List.mem_of_getElem? (i := 11) rfl)
theorem wm_516 : Cond.code yX6_first cX6_first 2 (some .int) ∈ wsL_law := inr_22 _ (List.mem_of_getElem? (i := 12) rfl)
theorem wm_517 : Cond.methodLink RX6 190 yX6_firstOf ∈ wsL_law := inr_22 _ (List.mem_of_getElem? (i := 13) rfl)
theorem wm_518 : Cond.instanceMethod yX6_firstOf ∈ wsL_law := inr_22 _ (List.mem_of_getElem? (i := 14) rfl)
theorem wm_519 : Cond.selects RX6 yX6_firstOf yX6_firstOf ∈ wsL_law := inr_22 _ (List.mem_of_getElem? (i := 15) rfl)
theorem wm_520 : Cond.code yX6_firstOf cX6_firstOf 3 (some .int) ∈ wsL_law := inr_22 _ (List.mem_of_getElem? (i := 16) rfl)
theorem wm_521 : Cond.methodLink RL 63 yX5_lulls ∈ wsL_law := inr_22 _ (List.mem_of_getElem? (i := 17) rfl)
theorem wm_522 : Cond.instanceMethod yX5_lulls ∈ wsL_law := inr_22 _ (List.mem_of_getElem? (i := 18) rfl)
theorem wm_523 : Cond.selects RX5 yX5_lulls yX5_lulls ∈ wsL_law := inr_22 _ (List.mem_of_getElem? (i := 19) rfl)
theorem wm_524 : Cond.code yX5_lulls cX5_lulls 1 (some .int) ∈ wsL_law := inr_22 _ (List.mem_of_getElem? (i := 20) rfl)
theorem wm_525 : Cond.methodLink RL 67 yX6_lulls ∈ wsL_law := inr_22 _ (List.mem_of_getElem? (i := 21) rfl)
theorem wm_526 : Cond.instanceMethod yX6_lulls ∈ wsL_law := inr_22 _ (List.mem_of_getElem? (i := 22) rfl)
theorem wm_527 : Cond.selects RX6 yX6_lulls yX6_lulls ∈ wsL_law := inr_22 _ (List.mem_of_getElem? (i := 23) rfl)
theorem wm_528 : Cond.code yX6_lulls cX6_lulls 1 (some .int) ∈ wsL_law := inr_23 _ (List.mem_of_getElem? (i := 0) rfl)
theorem wm_529 : Cond.methodLink RX6 193 yX6_lullsNow ∈ wsL_law := inr_23 _ (List.mem_of_getElem? (i := 1) rfl)
theorem wm_530 : Cond.instanceMethod yX6_lullsNow ∈ wsL_law := inr_23 _ (List.mem_of_getElem? (i := 2) rfl)
theorem wm_531 : Cond.selects RX6 yX6_lullsNow yX6_lullsNow ∈ wsL_law := inr_23 _ (List.mem_of_getElem? (i := 3) rfl)
theorem wm_532 : Cond.code yX6_lullsNow cX6_lullsNow 3 (some .int) ∈ wsL_law := inr_23 _ (List.mem_of_getElem? (i := 4) rfl)
theorem wm_533 : Cond.methodLink RL 68 yX5_stand ∈ wsL_law := inr_23 _ (List.mem_of_getElem? (i := 5) rfl)
theorem wm_534 : Cond.instanceMethod yX5_stand ∈ wsL_law := inr_23 _ (List.mem_of_getElem? (i := 6) rfl)
theorem wm_535 : Cond.selects RX5 yX5_stand yX5_stand ∈ wsL_law := inr_23 _ (List.mem_of_getElem? (i := 7) rfl)
theorem wm_536 : Cond.code yX5_stand cX5_stand 7 (some .int) ∈ wsL_law := inr_23 _ (List.mem_of_getElem? (i := 8) rfl)
theorem wm_537 : Cond.fieldLink RX5 157 "ElectingWind$Scene" "cells" "I" ∈ wsL_law := inr_23 _ (List.mem_of_getElem? (i := 9) rfl)
theorem wm_538 : Cond.methodLink RX5 153 yX1_tellAs ∈ wsL_law := inr_23 _ (List.mem_of_getElem? (i := 10) rfl)
theorem wm_539 : Cond.instanceMethod yX1_tellAs ∈ wsL_law := inr_23 _ (List.mem_of_getElem? (i := 11) rfl)
theorem wm_540 : Cond.selects RX1 yX1_tellAs yX1_tellAs ∈ wsL_law := inr_23 _ (List.mem_of_getElem? (i := 12) rfl)
theorem wm_541 : Cond.code yX1_tellAs cX1_tellAs 2 none ∈ wsL_law := inr_23 _ (List.mem_of_getElem? (i := 13) rfl)
theorem wm_542 : Cond.methodLink RX1 49 arraycopyName ∈ wsL_law := inr_23 _ (List.mem_of_getElem? (i := 14) rfl)
theorem wm_543 : Cond.native arraycopyName ∈ wsL_law := inr_23 _ (List.mem_of_getElem? (i := 15) rfl)
theorem wm_544 : Cond.static arraycopyName ∈ wsL_law := inr_23 _ (List.mem_of_getElem? (i := 16) rfl)
theorem wm_545 : Cond.initialized "java/lang/System" ∈ wsL_law := inr_23 _ (List.mem_of_getElem? (i := 17) rfl)
theorem wm_546 : Cond.methodLink RX5 160 yX0_isFreeFor ∈ wsL_law := inr_23 _ (List.mem_of_getElem? (i := 18) rfl)
theorem wm_547 : Cond.instanceMethod yX0_isFreeFor ∈ wsL_law := inr_23 _ (List.mem_of_getElem? (i := 19) rfl)
theorem wm_548 : Cond.selects RX0 yX0_isFreeFor yX0_isFreeFor ∈ wsL_law := inr_23 _ (List.mem_of_getElem? (i := 20) rfl)
theorem wm_549 : Cond.code yX0_isFreeFor cX0_isFreeFor 3 (some .boolean) ∈ wsL_law := inr_23 _ (List.mem_of_getElem? (i := 21) rfl)
theorem wm_550 : Cond.methodLink RX5 164 yX0_runUntilTurned ∈ wsL_law := inr_23 _ (List.mem_of_getElem? (i := 22) rfl)
theorem wm_551 : Cond.instanceMethod yX0_runUntilTurned ∈ wsL_law := inr_23 _ (List.mem_of_getElem? (i := 23) rfl)
theorem wm_552 : Cond.selects RX0 yX0_runUntilTurned yX0_runUntilTurned ∈ wsL_law := inr_24 _ (List.mem_of_getElem? (i := 0) rfl)
theorem wm_553 : Cond.code yX0_runUntilTurned cX0_runUntilTurned 3 (some .int) ∈ wsL_law := inr_24 _ (List.mem_of_getElem? (i := 1) rfl)
theorem wm_554 : Cond.methodLink RL 71 yX6_stand ∈ wsL_law := inr_24 _ (List.mem_of_getElem? (i := 2) rfl)
theorem wm_555 : Cond.instanceMethod yX6_stand ∈ wsL_law := inr_24 _ (List.mem_of_getElem? (i := 3) rfl)
theorem wm_556 : Cond.selects RX6 yX6_stand yX6_stand ∈ wsL_law := inr_24 _ (List.mem_of_getElem? (i := 4) rfl)
theorem wm_557 : Cond.code yX6_stand cX6_stand 3 (some .int) ∈ wsL_law := inr_24 _ (List.mem_of_getElem? (i := 5) rfl)
theorem wm_558 : Cond.methodLink RX6 199 yX6_standOf ∈ wsL_law := inr_24 _ (List.mem_of_getElem? (i := 6) rfl)
theorem wm_559 : Cond.instanceMethod yX6_standOf ∈ wsL_law := inr_24 _ (List.mem_of_getElem? (i := 7) rfl)
theorem wm_560 : Cond.selects RX6 yX6_standOf yX6_standOf ∈ wsL_law := inr_24 _ (List.mem_of_getElem? (i := 8) rfl)
theorem wm_561 : Cond.code yX6_standOf cX6_standOf 8 (some .int) ∈ wsL_law := inr_24 _ (List.mem_of_getElem? (i := 9) rfl)
theorem wm_562 : Cond.methodLink RX6 196 yX6_isTaken ∈ wsL_law := inr_24 _ (List.mem_of_getElem? (i := 10) rfl)
theorem wm_563 : Cond.instanceMethod yX6_isTaken ∈ wsL_law := inr_24 _ (List.mem_of_getElem? (i := 11) rfl)
theorem wm_564 : Cond.selects RX6 yX6_isTaken yX6_isTaken ∈ wsL_law := inr_24 _ (List.mem_of_getElem? (i := 12) rfl)
theorem wm_565 : Cond.code yX6_isTaken cX6_isTaken 5 (some .boolean) ∈ wsL_law := inr_24 _ (List.mem_of_getElem? (i := 13) rfl)
theorem wm_566 : Cond.methodLink RL 72 yX5_shield ∈ wsL_law := inr_24 _ (List.mem_of_getElem? (i := 14) rfl)
theorem wm_567 : Cond.instanceMethod yX5_shield ∈ wsL_law := inr_24 _ (List.mem_of_getElem? (i := 15) rfl)
theorem wm_568 : Cond.selects RX5 yX5_shield yX5_shield ∈ wsL_law := inr_24 _ (List.mem_of_getElem? (i := 16) rfl)
theorem wm_569 : Cond.code yX5_shield cX5_shield 4 (some .int) ∈ wsL_law := inr_24 _ (List.mem_of_getElem? (i := 17) rfl)
theorem wm_570 : Cond.methodLink RX5 170 yX5_placeToShield ∈ wsL_law := inr_24 _ (List.mem_of_getElem? (i := 18) rfl)
theorem wm_571 : Cond.instanceMethod yX5_placeToShield ∈ wsL_law := inr_24 _ (List.mem_of_getElem? (i := 19) rfl)
theorem wm_572 : Cond.selects RX5 yX5_placeToShield yX5_placeToShield ∈ wsL_law := inr_24 _ (List.mem_of_getElem? (i := 20) rfl)
theorem wm_573 : Cond.code yX5_placeToShield cX5_placeToShield 4 (some .int) ∈ wsL_law := inr_24 _ (List.mem_of_getElem? (i := 21) rfl)
theorem wm_574 : Cond.methodLink RX5 182 yX0_isFree ∈ wsL_law := inr_24 _ (List.mem_of_getElem? (i := 22) rfl)
theorem wm_575 : Cond.instanceMethod yX0_isFree ∈ wsL_law := inr_24 _ (List.mem_of_getElem? (i := 23) rfl)
theorem wm_576 : Cond.selects RX0 yX0_isFree yX0_isFree ∈ wsL_law := inr_25 _ (List.mem_of_getElem? (i := 0) rfl)
theorem wm_577 : Cond.code yX0_isFree cX0_isFree 2 (some .boolean) ∈ wsL_law := inr_25 _ (List.mem_of_getElem? (i := 1) rfl)
theorem wm_578 : Cond.methodLink RL 75 yX6_shield ∈ wsL_law := inr_25 _ (List.mem_of_getElem? (i := 2) rfl)
theorem wm_579 : Cond.instanceMethod yX6_shield ∈ wsL_law := inr_25 _ (List.mem_of_getElem? (i := 3) rfl)
theorem wm_580 : Cond.selects RX6 yX6_shield yX6_shield ∈ wsL_law := inr_25 _ (List.mem_of_getElem? (i := 4) rfl)
theorem wm_581 : Cond.code yX6_shield cX6_shield 2 (some .int) ∈ wsL_law := inr_25 _ (List.mem_of_getElem? (i := 5) rfl)
theorem wm_582 : Cond.methodLink RX6 205 yX6_shieldOf ∈ wsL_law := inr_25 _ (List.mem_of_getElem? (i := 6) rfl)
theorem wm_583 : Cond.instanceMethod yX6_shieldOf ∈ wsL_law := inr_25 _ (List.mem_of_getElem? (i := 7) rfl)
theorem wm_584 : Cond.selects RX6 yX6_shieldOf yX6_shieldOf ∈ wsL_law := inr_25 _ (List.mem_of_getElem? (i := 8) rfl)
theorem wm_585 : Cond.code yX6_shieldOf cX6_shieldOf 4 (some .int) ∈ wsL_law := inr_25 _ (List.mem_of_getElem? (i := 9) rfl)
theorem wm_586 : Cond.methodLink RX6 202 yX6_doesStay ∈ wsL_law := inr_25 _ (List.mem_of_getElem? (i := 10) rfl)
theorem wm_587 : Cond.instanceMethod yX6_doesStay ∈ wsL_law := inr_25 _ (List.mem_of_getElem? (i := 11) rfl)
theorem wm_588 : Cond.selects RX6 yX6_doesStay yX6_doesStay ∈ wsL_law := inr_25 _ (List.mem_of_getElem? (i := 12) rfl)
theorem wm_589 : Cond.code yX6_doesStay cX6_doesStay 5 (some .boolean) ∈ wsL_law := inr_25 _ (List.mem_of_getElem? (i := 13) rfl)
theorem wm_590 : Cond.methodLink RL 76 yX5_move ∈ wsL_law := inr_25 _ (List.mem_of_getElem? (i := 14) rfl)
theorem wm_591 : Cond.instanceMethod yX5_move ∈ wsL_law := inr_25 _ (List.mem_of_getElem? (i := 15) rfl)
theorem wm_592 : Cond.selects RX5 yX5_move yX5_move ∈ wsL_law := inr_25 _ (List.mem_of_getElem? (i := 16) rfl)
theorem wm_593 : Cond.code yX5_move cX5_move 6 (some .int) ∈ wsL_law := inr_25 _ (List.mem_of_getElem? (i := 17) rfl)
theorem wm_594 : Cond.methodLink RX5 173 yX5_movesAnotherIn ∈ wsL_law := inr_25 _ (List.mem_of_getElem? (i := 18) rfl)
theorem wm_595 : Cond.instanceMethod yX5_movesAnotherIn ∈ wsL_law := inr_25 _ (List.mem_of_getElem? (i := 19) rfl)
theorem wm_596 : Cond.selects RX5 yX5_movesAnotherIn yX5_movesAnotherIn ∈ wsL_law := inr_25 _ (List.mem_of_getElem? (i := 20) rfl)
theorem wm_597 : Cond.code yX5_movesAnotherIn cX5_movesAnotherIn 4 (some .boolean) ∈ wsL_law := inr_25 _ (List.mem_of_getElem? (i := 21) rfl)
theorem wm_598 : Cond.fieldLink RX5 188 "ElectingWind$Scene" "wall" "[I" ∈ wsL_law := inr_25 _ (List.mem_of_getElem? (i := 22) rfl)
theorem wm_599 : Cond.methodLink RX5 185 yX1_beside ∈ wsL_law := inr_25 _ (List.mem_of_getElem? (i := 23) rfl)
theorem wm_600 : Cond.methodLink RX5 191 yX1_survey ∈ wsL_law := inr_26 _ (List.mem_of_getElem? (i := 0) rfl)
theorem wm_601 : Cond.methodLink RX5 179 yX0_whoIsInLast ∈ wsL_law := inr_26 _ (List.mem_of_getElem? (i := 1) rfl)
theorem wm_602 : Cond.instanceMethod yX0_whoIsInLast ∈ wsL_law := inr_26 _ (List.mem_of_getElem? (i := 2) rfl)
theorem wm_603 : Cond.selects RX0 yX0_whoIsInLast yX0_whoIsInLast ∈ wsL_law := inr_26 _ (List.mem_of_getElem? (i := 3) rfl)
theorem wm_604 : Cond.code yX0_whoIsInLast cX0_whoIsInLast 1 (some .int) ∈ wsL_law := inr_26 _ (List.mem_of_getElem? (i := 4) rfl)
theorem wm_605 : Cond.methodLink RL 79 yX6_move ∈ wsL_law := inr_26 _ (List.mem_of_getElem? (i := 5) rfl)
theorem wm_606 : Cond.instanceMethod yX6_move ∈ wsL_law := inr_26 _ (List.mem_of_getElem? (i := 6) rfl)
theorem wm_607 : Cond.selects RX6 yX6_move yX6_move ∈ wsL_law := inr_26 _ (List.mem_of_getElem? (i := 7) rfl)
theorem wm_608 : Cond.code yX6_move cX6_move 2 (some .int) ∈ wsL_law := inr_26 _ (List.mem_of_getElem? (i := 8) rfl)
theorem wm_609 : Cond.methodLink RX6 211 yX6_moveOf ∈ wsL_law := inr_26 _ (List.mem_of_getElem? (i := 9) rfl)
theorem wm_610 : Cond.instanceMethod yX6_moveOf ∈ wsL_law := inr_26 _ (List.mem_of_getElem? (i := 10) rfl)
theorem wm_611 : Cond.selects RX6 yX6_moveOf yX6_moveOf ∈ wsL_law := inr_26 _ (List.mem_of_getElem? (i := 11) rfl)
theorem wm_612 : Cond.code yX6_moveOf cX6_moveOf 9 (some .int) ∈ wsL_law := inr_26 _ (List.mem_of_getElem? (i := 12) rfl)
theorem wm_613 : Cond.methodLink RX6 208 yX6_lastIn ∈ wsL_law := inr_26 _ (List.mem_of_getElem? (i := 13) rfl)
theorem wm_614 : Cond.instanceMethod yX6_lastIn ∈ wsL_law := inr_26 _ (List.mem_of_getElem? (i := 14) rfl)
theorem wm_615 : Cond.selects RX6 yX6_lastIn yX6_lastIn ∈ wsL_law := inr_26 _ (List.mem_of_getElem? (i := 15) rfl)
theorem wm_616 : Cond.code yX6_lastIn cX6_lastIn 1 (some .int) ∈ wsL_law := inr_26 _ (List.mem_of_getElem? (i := 16) rfl)
theorem wm_617 : Cond.methodLink RL 80 yX5_bribe ∈ wsL_law := inr_26 _ (List.mem_of_getElem? (i := 17) rfl)
theorem wm_618 : Cond.instanceMethod yX5_bribe ∈ wsL_law := inr_26 _ (List.mem_of_getElem? (i := 18) rfl)
theorem wm_619 : Cond.selects RX5 yX5_bribe yX5_bribe ∈ wsL_law := inr_26 _ (List.mem_of_getElem? (i := 19) rfl)
theorem wm_620 : Cond.code yX5_bribe cX5_bribe 4 (some .int) ∈ wsL_law := inr_26 _ (List.mem_of_getElem? (i := 20) rfl)
theorem wm_621 : Cond.methodLink RL 83 yX6_bribe ∈ wsL_law := inr_26 _ (List.mem_of_getElem? (i := 21) rfl)
theorem wm_622 : Cond.instanceMethod yX6_bribe ∈ wsL_law := inr_26 _ (List.mem_of_getElem? (i := 22) rfl)
theorem wm_623 : Cond.selects RX6 yX6_bribe yX6_bribe ∈ wsL_law := inr_26 _ (List.mem_of_getElem? (i := 23) rfl)
theorem wm_624 : Cond.code yX6_bribe cX6_bribe 2 (some .int) ∈ wsL_law := inr_27 _ (List.mem_of_getElem? (i := 0) rfl)
theorem wm_625 : Cond.methodLink RX6 214 yX6_bribeOf ∈ wsL_law := inr_27 _ (List.mem_of_getElem? (i := 1) rfl)
theorem wm_626 : Cond.instanceMethod yX6_bribeOf ∈ wsL_law := inr_27 _ (List.mem_of_getElem? (i := 2) rfl)
theorem wm_627 : Cond.selects RX6 yX6_bribeOf yX6_bribeOf ∈ wsL_law := inr_27 _ (List.mem_of_getElem? (i := 3) rfl)
theorem wm_628 : Cond.code yX6_bribeOf cX6_bribeOf 5 (some .int) ∈ wsL_law := inr_27 _ (List.mem_of_getElem? (i := 4) rfl)
theorem wm_629 : Cond.methodLink RL 84 yX5_seen ∈ wsL_law := inr_27 _ (List.mem_of_getElem? (i := 5) rfl)
theorem wm_630 : Cond.instanceMethod yX5_seen ∈ wsL_law := inr_27 _ (List.mem_of_getElem? (i := 6) rfl)
theorem wm_631 : Cond.selects RX5 yX5_seen yX5_seen ∈ wsL_law := inr_27 _ (List.mem_of_getElem? (i := 7) rfl)
theorem wm_632 : Cond.code yX5_seen cX5_seen 3 (some .int) ∈ wsL_law := inr_27 _ (List.mem_of_getElem? (i := 8) rfl)
theorem wm_633 : Cond.fieldLink RX5 201 "ElectingWind$Sightings" "many" "I" ∈ wsL_law := inr_27 _ (List.mem_of_getElem? (i := 9) rfl)
theorem wm_634 : Cond.methodLink RX5 194 yX4_isSighting ∈ wsL_law := inr_27 _ (List.mem_of_getElem? (i := 10) rfl)
theorem wm_635 : Cond.instanceMethod yX4_isSighting ∈ wsL_law := inr_27 _ (List.mem_of_getElem? (i := 11) rfl)
theorem wm_636 : Cond.selects RX4 yX4_isSighting yX4_isSighting ∈ wsL_law := inr_27 _ (List.mem_of_getElem? (i := 12) rfl)
theorem wm_637 : Cond.code yX4_isSighting cX4_isSighting 3 (some .boolean) ∈ wsL_law := inr_27 _ (List.mem_of_getElem? (i := 13) rfl)
theorem wm_638 : Cond.methodLink RX5 197 yX4_isFull ∈ wsL_law := inr_27 _ (List.mem_of_getElem? (i := 14) rfl)
theorem wm_639 : Cond.instanceMethod yX4_isFull ∈ wsL_law := inr_27 _ (List.mem_of_getElem? (i := 15) rfl)
theorem wm_640 : Cond.selects RX4 yX4_isFull yX4_isFull ∈ wsL_law := inr_27 _ (List.mem_of_getElem? (i := 16) rfl)
theorem wm_641 : Cond.code yX4_isFull cX4_isFull 1 (some .boolean) ∈ wsL_law := inr_27 _ (List.mem_of_getElem? (i := 17) rfl)
theorem wm_642 : Cond.methodLink RX5 198 yX4_append ∈ wsL_law := inr_27 _ (List.mem_of_getElem? (i := 18) rfl)
theorem wm_643 : Cond.instanceMethod yX4_append ∈ wsL_law := inr_27 _ (List.mem_of_getElem? (i := 19) rfl)
theorem wm_644 : Cond.selects RX4 yX4_append yX4_append ∈ wsL_law := inr_27 _ (List.mem_of_getElem? (i := 20) rfl)
theorem wm_645 : Cond.code yX4_append cX4_append 3 none ∈ wsL_law := inr_27 _ (List.mem_of_getElem? (i := 21) rfl)
theorem wm_646 : Cond.methodLink RL 87 yX6_seen ∈ wsL_law := inr_27 _ (List.mem_of_getElem? (i := 22) rfl)
theorem wm_647 : Cond.instanceMethod yX6_seen ∈ wsL_law := inr_27 _ (List.mem_of_getElem? (i := 23) rfl)
theorem wm_648 : Cond.selects RX6 yX6_seen yX6_seen ∈ wsL_law := inr_28 _ (List.mem_of_getElem? (i := 0) rfl)
theorem wm_649 : Cond.code yX6_seen cX6_seen 3 (some .int) ∈ wsL_law := inr_28 _ (List.mem_of_getElem? (i := 1) rfl)
theorem wm_650 : Cond.fieldLink RX6 217 "ElectingWindModel" "seens" "I" ∈ wsL_law := inr_28 _ (List.mem_of_getElem? (i := 2) rfl)
theorem wm_651 : Cond.methodLink RL 88 yX5_forget ∈ wsL_law := inr_28 _ (List.mem_of_getElem? (i := 3) rfl)
theorem wm_652 : Cond.instanceMethod yX5_forget ∈ wsL_law := inr_28 _ (List.mem_of_getElem? (i := 4) rfl)
theorem wm_653 : Cond.selects RX5 yX5_forget yX5_forget ∈ wsL_law := inr_28 _ (List.mem_of_getElem? (i := 5) rfl)
theorem wm_654 : Cond.code yX5_forget cX5_forget 2 (some .int) ∈ wsL_law := inr_28 _ (List.mem_of_getElem? (i := 6) rfl)
theorem wm_655 : Cond.methodLink RL 91 yX6_forget ∈ wsL_law := inr_28 _ (List.mem_of_getElem? (i := 7) rfl)
theorem wm_656 : Cond.instanceMethod yX6_forget ∈ wsL_law := inr_28 _ (List.mem_of_getElem? (i := 8) rfl)
theorem wm_657 : Cond.selects RX6 yX6_forget yX6_forget ∈ wsL_law := inr_28 _ (List.mem_of_getElem? (i := 9) rfl)
theorem wm_658 : Cond.code yX6_forget cX6_forget 2 (some .int) ∈ wsL_law := inr_28 _ (List.mem_of_getElem? (i := 10) rfl)
theorem wm_659 : Cond.methodLink RL 92 yX5_read ∈ wsL_law := inr_28 _ (List.mem_of_getElem? (i := 11) rfl)
theorem wm_660 : Cond.instanceMethod yX5_read ∈ wsL_law := inr_28 _ (List.mem_of_getElem? (i := 12) rfl)
theorem wm_661 : Cond.selects RX5 yX5_read yX5_read ∈ wsL_law := inr_28 _ (List.mem_of_getElem? (i := 13) rfl)
theorem wm_662 : Cond.code yX5_read cX5_read 4 (some .int) ∈ wsL_law := inr_28 _ (List.mem_of_getElem? (i := 14) rfl)
theorem wm_663 : Cond.fieldLink RX5 213 "ElectingWind$Sheet" "size" "I" ∈ wsL_law := inr_28 _ (List.mem_of_getElem? (i := 15) rfl)
theorem wm_664 : Cond.methodLink RX5 204 yX5_isSheet ∈ wsL_law := inr_28 _ (List.mem_of_getElem? (i := 16) rfl)
theorem wm_665 : Cond.static yX5_isSheet ∈ wsL_law := inr_28 _ (List.mem_of_getElem? (i := 17) rfl)
theorem wm_666 : Cond.code yX5_isSheet cX5_isSheet 1 (some .boolean) ∈ wsL_law := inr_28 _ (List.mem_of_getElem? (i := 18) rfl)
theorem wm_667 : Cond.methodLink RX5 207 yX3_isLost ∈ wsL_law := inr_28 _ (List.mem_of_getElem? (i := 19) rfl)
theorem wm_668 : Cond.instanceMethod yX3_isLost ∈ wsL_law := inr_28 _ (List.mem_of_getElem? (i := 20) rfl)
theorem wm_669 : Cond.selects RX3 yX3_isLost yX3_isLost ∈ wsL_law := inr_28 _ (List.mem_of_getElem? (i := 21) rfl)
theorem wm_670 : Cond.code yX3_isLost cX3_isLost 1 (some .boolean) ∈ wsL_law := inr_28 _ (List.mem_of_getElem? (i := 22) rfl)
theorem wm_671 : Cond.methodLink RX5 210 yX5_finding ∈ wsL_law := inr_28 _ (List.mem_of_getElem? (i := 23) rfl)
theorem wm_672 : Cond.instanceMethod yX5_finding ∈ wsL_law := inr_29 _ (List.mem_of_getElem? (i := 0) rfl)
theorem wm_673 : Cond.selects RX5 yX5_finding yX5_finding ∈ wsL_law := inr_29 _ (List.mem_of_getElem? (i := 1) rfl)
theorem wm_674 : Cond.code yX5_finding cX5_finding 2 (some .int) ∈ wsL_law := inr_29 _ (List.mem_of_getElem? (i := 2) rfl)
theorem wm_675 : Cond.methodLink RX5 216 yX3_item ∈ wsL_law := inr_29 _ (List.mem_of_getElem? (i := 3) rfl)
theorem wm_676 : Cond.instanceMethod yX3_item ∈ wsL_law := inr_29 _ (List.mem_of_getElem? (i := 4) rfl)
theorem wm_677 : Cond.selects RX3 yX3_item yX3_item ∈ wsL_law := inr_29 _ (List.mem_of_getElem? (i := 5) rfl)
theorem wm_678 : Cond.code yX3_item cX3_item 2 (some .int) ∈ wsL_law := inr_29 _ (List.mem_of_getElem? (i := 6) rfl)
theorem wm_679 : Cond.methodLink RX5 219 yX5_seen ∈ wsL_law := inr_29 _ (List.mem_of_getElem? (i := 7) rfl)
theorem wm_680 : Cond.methodLink RL 95 yX6_read ∈ wsL_law := inr_29 _ (List.mem_of_getElem? (i := 8) rfl)
theorem wm_681 : Cond.instanceMethod yX6_read ∈ wsL_law := inr_29 _ (List.mem_of_getElem? (i := 9) rfl)
theorem wm_682 : Cond.selects RX6 yX6_read yX6_read ∈ wsL_law := inr_29 _ (List.mem_of_getElem? (i := 10) rfl)
theorem wm_683 : Cond.code yX6_read cX6_read 3 (some .int) ∈ wsL_law := inr_29 _ (List.mem_of_getElem? (i := 11) rfl)
theorem wm_684 : Cond.methodLink RX6 220 yX6_isSheet ∈ wsL_law := inr_29 _ (List.mem_of_getElem? (i := 12) rfl)
theorem wm_685 : Cond.static yX6_isSheet ∈ wsL_law := inr_29 _ (List.mem_of_getElem? (i := 13) rfl)
theorem wm_686 : Cond.code yX6_isSheet cX6_isSheet 1 (some .boolean) ∈ wsL_law := inr_29 _ (List.mem_of_getElem? (i := 14) rfl)
theorem wm_687 : Cond.methodLink RX6 223 yX6_meets ∈ wsL_law := inr_29 _ (List.mem_of_getElem? (i := 15) rfl)
theorem wm_688 : Cond.instanceMethod yX6_meets ∈ wsL_law := inr_29 _ (List.mem_of_getElem? (i := 16) rfl)
theorem wm_689 : Cond.selects RX6 yX6_meets yX6_meets ∈ wsL_law := inr_29 _ (List.mem_of_getElem? (i := 17) rfl)
theorem wm_690 : Cond.code yX6_meets cX6_meets 2 (some .int) ∈ wsL_law := inr_29 _ (List.mem_of_getElem? (i := 18) rfl)
theorem wm_691 : Cond.fieldLink RX6 268 "ElectingWindModel" "finding" "I" ∈ wsL_law := inr_29 _ (List.mem_of_getElem? (i := 19) rfl)
theorem wm_692 : Cond.methodLink RX6 226 yX6_seen ∈ wsL_law := inr_29 _ (List.mem_of_getElem? (i := 20) rfl)
theorem wm_693 : Cond.methodLink RL 96 yX5_blew ∈ wsL_law := inr_29 _ (List.mem_of_getElem? (i := 21) rfl)
theorem wm_694 : Cond.instanceMethod yX5_blew ∈ wsL_law := inr_29 _ (List.mem_of_getElem? (i := 22) rfl)
theorem wm_695 : Cond.selects RX5 yX5_blew yX5_blew ∈ wsL_law := inr_29 _ (List.mem_of_getElem? (i := 23) rfl)
theorem wm_696 : Cond.code yX5_blew cX5_blew 5 (some .int) ∈ wsL_law := inr_30 _ (List.mem_of_getElem? (i := 0) rfl)
theorem wm_697 : Cond.methodLink RX5 222 yX5_inquire ∈ wsL_law := inr_30 _ (List.mem_of_getElem? (i := 1) rfl)
theorem wm_698 : Cond.instanceMethod yX5_inquire ∈ wsL_law := inr_30 _ (List.mem_of_getElem? (i := 2) rfl)
theorem wm_699 : Cond.selects RX5 yX5_inquire yX5_inquire ∈ wsL_law := inr_30 _ (List.mem_of_getElem? (i := 3) rfl)
theorem wm_700 : Cond.code yX5_inquire cX5_inquire 3 none ∈ wsL_law := inr_30 _ (List.mem_of_getElem? (i := 4) rfl)
theorem wm_701 : Cond.methodLink RX5 246 yJ7_fill_53178 ∈ wsL_law := inr_30 _ (List.mem_of_getElem? (i := 5) rfl)
theorem wm_702 : Cond.methodLink RX5 252 yX0_start ∈ wsL_law := inr_30 _ (List.mem_of_getElem? (i := 6) rfl)
theorem wm_703 : Cond.methodLink RX5 255 yX0_runOnFrom ∈ wsL_law := inr_30 _ (List.mem_of_getElem? (i := 7) rfl)
theorem wm_704 : Cond.methodLink RX5 225 yX4_comeOutSo ∈ wsL_law := inr_30 _ (List.mem_of_getElem? (i := 8) rfl)
theorem wm_705 : Cond.instanceMethod yX4_comeOutSo ∈ wsL_law := inr_30 _ (List.mem_of_getElem? (i := 9) rfl)
theorem wm_706 : Cond.selects RX4 yX4_comeOutSo yX4_comeOutSo ∈ wsL_law := inr_30 _ (List.mem_of_getElem? (i := 10) rfl)
theorem wm_707 : Cond.code yX4_comeOutSo cX4_comeOutSo 4 (some .boolean) ∈ wsL_law := inr_30 _ (List.mem_of_getElem? (i := 11) rfl)
theorem wm_708 : Cond.fieldLink RX4 22 "ElectingWind$Course" "scene" "LElectingWind$Scene;" ∈ wsL_law := inr_30 _ (List.mem_of_getElem? (i := 12) rfl)
theorem wm_709 : Cond.fieldLink RX4 28 "ElectingWind$Scene" "minutes" "I" ∈ wsL_law := inr_30 _ (List.mem_of_getElem? (i := 13) rfl)
theorem wm_710 : Cond.methodLink RX4 32 yX0_whoIsIn ∈ wsL_law := inr_30 _ (List.mem_of_getElem? (i := 14) rfl)
theorem wm_711 : Cond.methodLink RX5 258 yX5_tallyTrial ∈ wsL_law := inr_30 _ (List.mem_of_getElem? (i := 15) rfl)
theorem wm_712 : Cond.instanceMethod yX5_tallyTrial ∈ wsL_law := inr_30 _ (List.mem_of_getElem? (i := 16) rfl)
theorem wm_713 : Cond.selects RX5 yX5_tallyTrial yX5_tallyTrial ∈ wsL_law := inr_30 _ (List.mem_of_getElem? (i := 17) rfl)
theorem wm_714 : Cond.code yX5_tallyTrial cX5_tallyTrial 4 none ∈ wsL_law := inr_30 _ (List.mem_of_getElem? (i := 18) rfl)
theorem wm_715 : Cond.methodLink RL 99 yX6_blew ∈ wsL_law := inr_30 _ (List.mem_of_getElem? (i := 19) rfl)
theorem wm_716 : Cond.instanceMethod yX6_blew ∈ wsL_law := inr_30 _ (List.mem_of_getElem? (i := 20) rfl)
theorem wm_717 : Cond.selects RX6 yX6_blew yX6_blew ∈ wsL_law := inr_30 _ (List.mem_of_getElem? (i := 21) rfl)
theorem wm_718 : Cond.code yX6_blew cX6_blew 3 (some .int) ∈ wsL_law := inr_30 _ (List.mem_of_getElem? (i := 22) rfl)
theorem wm_719 : Cond.methodLink RX6 236 yX6_blewOf ∈ wsL_law := inr_30 _ (List.mem_of_getElem? (i := 23) rfl)
theorem wm_720 : Cond.instanceMethod yX6_blewOf ∈ wsL_law := inr_31 _ (List.mem_of_getElem? (i := 0) rfl)
theorem wm_721 : Cond.selects RX6 yX6_blewOf yX6_blewOf ∈ wsL_law := inr_31 _ (List.mem_of_getElem? (i := 1) rfl)
theorem wm_722 : Cond.code yX6_blewOf cX6_blewOf 6 (some .int) ∈ wsL_law := inr_31 _ (List.mem_of_getElem? (i := 2) rfl)
theorem wm_723 : Cond.methodLink RX6 233 yX6_blows ∈ wsL_law := inr_31 _ (List.mem_of_getElem? (i := 3) rfl)
theorem wm_724 : Cond.instanceMethod yX6_blows ∈ wsL_law := inr_31 _ (List.mem_of_getElem? (i := 4) rfl)
theorem wm_725 : Cond.selects RX6 yX6_blows yX6_blows ∈ wsL_law := inr_31 _ (List.mem_of_getElem? (i := 5) rfl)
theorem wm_726 : Cond.code yX6_blows cX6_blows 7 (some .int) ∈ wsL_law := inr_31 _ (List.mem_of_getElem? (i := 6) rfl)
theorem wm_727 : Cond.methodLink RX6 229 yX6_isSeen ∈ wsL_law := inr_31 _ (List.mem_of_getElem? (i := 7) rfl)
theorem wm_728 : Cond.instanceMethod yX6_isSeen ∈ wsL_law := inr_31 _ (List.mem_of_getElem? (i := 8) rfl)
theorem wm_729 : Cond.selects RX6 yX6_isSeen yX6_isSeen ∈ wsL_law := inr_31 _ (List.mem_of_getElem? (i := 9) rfl)
theorem wm_730 : Cond.code yX6_isSeen cX6_isSeen 4 (some .boolean) ∈ wsL_law := inr_31 _ (List.mem_of_getElem? (i := 10) rfl)
theorem wm_731 : Cond.methodLink RL 100 yX5_had ∈ wsL_law := inr_31 _ (List.mem_of_getElem? (i := 11) rfl)
theorem wm_732 : Cond.instanceMethod yX5_had ∈ wsL_law := inr_31 _ (List.mem_of_getElem? (i := 12) rfl)
theorem wm_733 : Cond.selects RX5 yX5_had yX5_had ∈ wsL_law := inr_31 _ (List.mem_of_getElem? (i := 13) rfl)
theorem wm_734 : Cond.code yX5_had cX5_had 4 (some .int) ∈ wsL_law := inr_31 _ (List.mem_of_getElem? (i := 14) rfl)
theorem wm_735 : Cond.methodLink RL 103 yX6_had ∈ wsL_law := inr_31 _ (List.mem_of_getElem? (i := 15) rfl)
theorem wm_736 : Cond.instanceMethod yX6_had ∈ wsL_law := inr_31 _ (List.mem_of_getElem? (i := 16) rfl)
theorem wm_737 : Cond.selects RX6 yX6_had yX6_had ∈ wsL_law := inr_31 _ (List.mem_of_getElem? (i := 17) rfl)
theorem wm_738 : Cond.code yX6_had cX6_had 2 (some .int) ∈ wsL_law := inr_31 _ (List.mem_of_getElem? (i := 18) rfl)
theorem wm_739 : Cond.methodLink RX6 239 yX6_hadOf ∈ wsL_law := inr_31 _ (List.mem_of_getElem? (i := 19) rfl)
theorem wm_740 : Cond.instanceMethod yX6_hadOf ∈ wsL_law := inr_31 _ (List.mem_of_getElem? (i := 20) rfl)
theorem wm_741 : Cond.selects RX6 yX6_hadOf yX6_hadOf ∈ wsL_law := inr_31 _ (List.mem_of_getElem? (i := 21) rfl)
theorem wm_742 : Cond.code yX6_hadOf cX6_hadOf 5 (some .int) ∈ wsL_law := inr_31 _ (List.mem_of_getElem? (i := 22) rfl)
theorem wm_743 : Cond.methodLink RL 104 yX5_ask ∈ wsL_law := inr_31 _ (List.mem_of_getElem? (i := 23) rfl)
theorem wm_744 : Cond.instanceMethod yX5_ask ∈ wsL_law := inr_32 _ (List.mem_of_getElem? (i := 0) rfl)
theorem wm_745 : Cond.selects RX5 yX5_ask yX5_ask ∈ wsL_law := inr_32 _ (List.mem_of_getElem? (i := 1) rfl)
theorem wm_746 : Cond.code yX5_ask cX5_ask 4 (some .int) ∈ wsL_law := inr_32 _ (List.mem_of_getElem? (i := 2) rfl)
theorem wm_747 : Cond.methodLink RX5 229 yX5_greatestTally ∈ wsL_law := inr_32 _ (List.mem_of_getElem? (i := 3) rfl)
theorem wm_748 : Cond.instanceMethod yX5_greatestTally ∈ wsL_law := inr_32 _ (List.mem_of_getElem? (i := 4) rfl)
theorem wm_749 : Cond.selects RX5 yX5_greatestTally yX5_greatestTally ∈ wsL_law := inr_32 _ (List.mem_of_getElem? (i := 5) rfl)
theorem wm_750 : Cond.code yX5_greatestTally cX5_greatestTally 4 (some .int) ∈ wsL_law := inr_32 _ (List.mem_of_getElem? (i := 6) rfl)
theorem wm_751 : Cond.methodLink RX5 261 Lib.Math.max.name ∈ wsL_law := inr_32 _ (List.mem_of_getElem? (i := 7) rfl)
theorem wm_752 : Cond.methodLink RL 107 yX6_ask ∈ wsL_law := inr_32 _ (List.mem_of_getElem? (i := 8) rfl)
theorem wm_753 : Cond.instanceMethod yX6_ask ∈ wsL_law := inr_32 _ (List.mem_of_getElem? (i := 9) rfl)
theorem wm_754 : Cond.selects RX6 yX6_ask yX6_ask ∈ wsL_law := inr_32 _ (List.mem_of_getElem? (i := 10) rfl)
theorem wm_755 : Cond.code yX6_ask cX6_ask 2 (some .int) ∈ wsL_law := inr_32 _ (List.mem_of_getElem? (i := 11) rfl)
theorem wm_756 : Cond.methodLink RX6 242 yX6_askOf ∈ wsL_law := inr_32 _ (List.mem_of_getElem? (i := 12) rfl)
theorem wm_757 : Cond.instanceMethod yX6_askOf ∈ wsL_law := inr_32 _ (List.mem_of_getElem? (i := 13) rfl)
theorem wm_758 : Cond.selects RX6 yX6_askOf yX6_askOf ∈ wsL_law := inr_32 _ (List.mem_of_getElem? (i := 14) rfl)
theorem wm_759 : Cond.code yX6_askOf cX6_askOf 10 (some .int) ∈ wsL_law := inr_32 _ (List.mem_of_getElem? (i := 15) rfl)
theorem wm_760 : Cond.methodLink RL 108 yX5_calm ∈ wsL_law := inr_32 _ (List.mem_of_getElem? (i := 16) rfl)
theorem wm_761 : Cond.instanceMethod yX5_calm ∈ wsL_law := inr_32 _ (List.mem_of_getElem? (i := 17) rfl)
theorem wm_762 : Cond.selects RX5 yX5_calm yX5_calm ∈ wsL_law := inr_32 _ (List.mem_of_getElem? (i := 18) rfl)
theorem wm_763 : Cond.code yX5_calm cX5_calm 7 (some .long) ∈ wsL_law := inr_32 _ (List.mem_of_getElem? (i := 19) rfl)
theorem wm_764 : Cond.constantLong RX5 234 (-9223372036854775806) ∈ wsL_law := inr_32 _ (List.mem_of_getElem? (i := 20) rfl)
theorem wm_765 : Cond.methodLink RX5 236 yX5_weighCalms ∈ wsL_law := inr_32 _ (List.mem_of_getElem? (i := 21) rfl)
theorem wm_766 : Cond.instanceMethod yX5_weighCalms ∈ wsL_law := inr_32 _ (List.mem_of_getElem? (i := 22) rfl)
theorem wm_767 : Cond.selects RX5 yX5_weighCalms yX5_weighCalms ∈ wsL_law := inr_32 _ (List.mem_of_getElem? (i := 23) rfl)
theorem wm_768 : Cond.code yX5_weighCalms cX5_weighCalms 7 none ∈ wsL_law := inr_33 _ (List.mem_of_getElem? (i := 0) rfl)
theorem wm_769 : Cond.methodLink RX5 269 Lib.Math.min.name ∈ wsL_law := inr_33 _ (List.mem_of_getElem? (i := 1) rfl)
theorem wm_770 : Cond.methodLink RX5 266 yJ7_fill_d0a16 ∈ wsL_law := inr_33 _ (List.mem_of_getElem? (i := 2) rfl)
theorem wm_771 : Cond.static yJ7_fill_d0a16 ∈ wsL_law := inr_33 _ (List.mem_of_getElem? (i := 3) rfl)
theorem wm_772 : Cond.code yJ7_fill_d0a16 cJ7_fill_d0a16 5 none ∈ wsL_law := inr_33 _ (List.mem_of_getElem? (i := 4) rfl)
theorem wm_773 : Cond.methodLink RX5 272 yX5_lowestBit ∈ wsL_law := inr_33 _ (List.mem_of_getElem? (i := 5) rfl)
theorem wm_774 : Cond.static yX5_lowestBit ∈ wsL_law := inr_33 _ (List.mem_of_getElem? (i := 6) rfl)
theorem wm_775 : Cond.code yX5_lowestBit cX5_lowestBit 1 (some .int) ∈ wsL_law := inr_33 _ (List.mem_of_getElem? (i := 7) rfl)
theorem wm_776 : Cond.methodLink RX5 281 yJ6_bitCount_0f7a4 ∈ wsL_law := inr_33 _ (List.mem_of_getElem? (i := 8) rfl)
theorem wm_777 : Cond.static yJ6_bitCount_0f7a4 ∈ wsL_law := inr_33 _ (List.mem_of_getElem? (i := 9) rfl)
theorem wm_778 : Cond.initialized RJ6 ∈ wsL_law := inr_33 _ (List.mem_of_getElem? (i := 10) rfl)
theorem wm_779 : Cond.code yJ6_bitCount_0f7a4 cJ6_bitCount_0f7a4 1 (some .int) ∈ wsL_law := inr_33 _ (List.mem_of_getElem? (i := 11) rfl)
theorem wm_780 : Cond.constant RJ6 265 (1431655765) ∈ wsL_law := inr_33 _ (List.mem_of_getElem? (i := 12) rfl)
theorem wm_781 : Cond.constant RJ6 266 (858993459) ∈ wsL_law := inr_33 _ (List.mem_of_getElem? (i := 13) rfl)
theorem wm_782 : Cond.constant RJ6 267 (252645135) ∈ wsL_law := inr_33 _ (List.mem_of_getElem? (i := 14) rfl)
theorem wm_783 : Cond.methodLink RX5 275 yX0_pass ∈ wsL_law := inr_33 _ (List.mem_of_getElem? (i := 15) rfl)
theorem wm_784 : Cond.methodLink RX5 278 yX0_end ∈ wsL_law := inr_33 _ (List.mem_of_getElem? (i := 16) rfl)
theorem wm_785 : Cond.methodLink RL 112 yX6_calm ∈ wsL_law := inr_33 _ (List.mem_of_getElem? (i := 17) rfl)
theorem wm_786 : Cond.instanceMethod yX6_calm ∈ wsL_law := inr_33 _ (List.mem_of_getElem? (i := 18) rfl)
theorem wm_787 : Cond.selects RX6 yX6_calm yX6_calm ∈ wsL_law := inr_33 _ (List.mem_of_getElem? (i := 19) rfl)
theorem wm_788 : Cond.code yX6_calm cX6_calm 4 (some .long) ∈ wsL_law := inr_33 _ (List.mem_of_getElem? (i := 20) rfl)
theorem wm_789 : Cond.methodLink RX6 252 yX6_calmOf ∈ wsL_law := inr_33 _ (List.mem_of_getElem? (i := 21) rfl)
theorem wm_790 : Cond.instanceMethod yX6_calmOf ∈ wsL_law := inr_33 _ (List.mem_of_getElem? (i := 22) rfl)
theorem wm_791 : Cond.selects RX6 yX6_calmOf yX6_calmOf ∈ wsL_law := inr_33 _ (List.mem_of_getElem? (i := 23) rfl)
theorem wm_792 : Cond.code yX6_calmOf cX6_calmOf 10 (some .long) ∈ wsL_law := inr_34 _ (List.mem_of_getElem? (i := 0) rfl)
theorem wm_793 : Cond.methodLink RX6 245 yX6_isIn ∈ wsL_law := inr_34 _ (List.mem_of_getElem? (i := 1) rfl)
theorem wm_794 : Cond.static yX6_isIn ∈ wsL_law := inr_34 _ (List.mem_of_getElem? (i := 2) rfl)
theorem wm_795 : Cond.code yX6_isIn cX6_isIn 2 (some .boolean) ∈ wsL_law := inr_34 _ (List.mem_of_getElem? (i := 3) rfl)
theorem wm_796 : Cond.methodLink RX6 248 yX6_lowest ∈ wsL_law := inr_34 _ (List.mem_of_getElem? (i := 4) rfl)
theorem wm_797 : Cond.static yX6_lowest ∈ wsL_law := inr_34 _ (List.mem_of_getElem? (i := 5) rfl)
theorem wm_798 : Cond.code yX6_lowest cX6_lowest 11 (some .long) ∈ wsL_law := inr_34 _ (List.mem_of_getElem? (i := 6) rfl)
theorem wm_799 : Cond.methodLink RX6 256 yX6_no ∈ wsL_law := inr_34 _ (List.mem_of_getElem? (i := 7) rfl)
theorem wm_800 : Cond.static yX6_no ∈ wsL_law := inr_34 _ (List.mem_of_getElem? (i := 8) rfl)
theorem wm_801 : Cond.code yX6_no cX6_no 1 (some .long) ∈ wsL_law := inr_34 _ (List.mem_of_getElem? (i := 9) rfl)
theorem wm_802 : Cond.constantLong RX6 80 (-9223372036854775808) ∈ wsL_law := inr_34 _ (List.mem_of_getElem? (i := 10) rfl)
theorem wm_803 : Cond.methodLink RL 113 yX5_weather ∈ wsL_law := inr_34 _ (List.mem_of_getElem? (i := 11) rfl)
theorem wm_804 : Cond.instanceMethod yX5_weather ∈ wsL_law := inr_34 _ (List.mem_of_getElem? (i := 12) rfl)
theorem wm_805 : Cond.selects RX5 yX5_weather yX5_weather ∈ wsL_law := inr_34 _ (List.mem_of_getElem? (i := 13) rfl)
theorem wm_806 : Cond.code yX5_weather cX5_weather 6 (some .int) ∈ wsL_law := inr_34 _ (List.mem_of_getElem? (i := 14) rfl)
theorem wm_807 : Cond.methodLink RX5 239 yX5_nextLots ∈ wsL_law := inr_34 _ (List.mem_of_getElem? (i := 15) rfl)
theorem wm_808 : Cond.static yX5_nextLots ∈ wsL_law := inr_34 _ (List.mem_of_getElem? (i := 16) rfl)
theorem wm_809 : Cond.code yX5_nextLots cX5_nextLots 1 (some .int) ∈ wsL_law := inr_34 _ (List.mem_of_getElem? (i := 17) rfl)
theorem wm_810 : Cond.constant RX5 245 (1103515245) ∈ wsL_law := inr_34 _ (List.mem_of_getElem? (i := 18) rfl)
theorem wm_811 : Cond.methodLink RX5 242 yX0_manyTurned ∈ wsL_law := inr_34 _ (List.mem_of_getElem? (i := 19) rfl)
theorem wm_812 : Cond.instanceMethod yX0_manyTurned ∈ wsL_law := inr_34 _ (List.mem_of_getElem? (i := 20) rfl)
theorem wm_813 : Cond.selects RX0 yX0_manyTurned yX0_manyTurned ∈ wsL_law := inr_34 _ (List.mem_of_getElem? (i := 21) rfl)
theorem wm_814 : Cond.code yX0_manyTurned cX0_manyTurned 2 (some .int) ∈ wsL_law := inr_34 _ (List.mem_of_getElem? (i := 22) rfl)
theorem wm_815 : Cond.methodLink RX0 122 yJ6_bitCount_0f7a4 ∈ wsL_law := inr_34 _ (List.mem_of_getElem? (i := 23) rfl)
theorem wm_816 : Cond.methodLink RL 117 yX6_weather ∈ wsL_law := inr_35 _ (List.mem_of_getElem? (i := 0) rfl)
theorem wm_817 : Cond.instanceMethod yX6_weather ∈ wsL_law := inr_35 _ (List.mem_of_getElem? (i := 1) rfl)
theorem wm_818 : Cond.selects RX6 yX6_weather yX6_weather ∈ wsL_law := inr_35 _ (List.mem_of_getElem? (i := 2) rfl)
theorem wm_819 : Cond.code yX6_weather cX6_weather 4 (some .int) ∈ wsL_law := inr_35 _ (List.mem_of_getElem? (i := 3) rfl)
theorem wm_820 : Cond.methodLink RX6 264 yX6_weatherOf ∈ wsL_law := inr_35 _ (List.mem_of_getElem? (i := 4) rfl)
theorem wm_821 : Cond.instanceMethod yX6_weatherOf ∈ wsL_law := inr_35 _ (List.mem_of_getElem? (i := 5) rfl)
theorem wm_822 : Cond.selects RX6 yX6_weatherOf yX6_weatherOf ∈ wsL_law := inr_35 _ (List.mem_of_getElem? (i := 6) rfl)
theorem wm_823 : Cond.code yX6_weatherOf cX6_weatherOf 6 (some .int) ∈ wsL_law := inr_35 _ (List.mem_of_getElem? (i := 7) rfl)
theorem wm_824 : Cond.constant RX6 260 (1103515245) ∈ wsL_law := inr_35 _ (List.mem_of_getElem? (i := 8) rfl)
theorem wm_825 : Cond.methodLink RX6 261 yX6_turnedNow ∈ wsL_law := inr_35 _ (List.mem_of_getElem? (i := 9) rfl)
theorem wm_826 : Cond.instanceMethod yX6_turnedNow ∈ wsL_law := inr_35 _ (List.mem_of_getElem? (i := 10) rfl)
theorem wm_827 : Cond.selects RX6 yX6_turnedNow yX6_turnedNow ∈ wsL_law := inr_35 _ (List.mem_of_getElem? (i := 11) rfl)
theorem wm_828 : Cond.code yX6_turnedNow cX6_turnedNow 3 (some .int) ∈ wsL_law := inr_35 _ (List.mem_of_getElem? (i := 12) rfl)
theorem wm_829 : Cond.methodLink RL 118 yX5_sheet ∈ wsL_law := inr_35 _ (List.mem_of_getElem? (i := 13) rfl)
theorem wm_830 : Cond.instanceMethod yX5_sheet ∈ wsL_law := inr_35 _ (List.mem_of_getElem? (i := 14) rfl)
theorem wm_831 : Cond.selects RX5 yX5_sheet yX5_sheet ∈ wsL_law := inr_35 _ (List.mem_of_getElem? (i := 15) rfl)
theorem wm_832 : Cond.code yX5_sheet cX5_sheet 4 (some .int) ∈ wsL_law := inr_35 _ (List.mem_of_getElem? (i := 16) rfl)
theorem wm_833 : Cond.methodLink RX5 286 yX5_isForm ∈ wsL_law := inr_35 _ (List.mem_of_getElem? (i := 17) rfl)
theorem wm_834 : Cond.static yX5_isForm ∈ wsL_law := inr_35 _ (List.mem_of_getElem? (i := 18) rfl)
theorem wm_835 : Cond.code yX5_isForm cX5_isForm 1 (some .boolean) ∈ wsL_law := inr_35 _ (List.mem_of_getElem? (i := 19) rfl)
theorem wm_836 : Cond.methodLink RX5 289 yX3_renew ∈ wsL_law := inr_35 _ (List.mem_of_getElem? (i := 20) rfl)
theorem wm_837 : Cond.instanceMethod yX3_renew ∈ wsL_law := inr_35 _ (List.mem_of_getElem? (i := 21) rfl)
theorem wm_838 : Cond.selects RX3 yX3_renew yX3_renew ∈ wsL_law := inr_35 _ (List.mem_of_getElem? (i := 22) rfl)
theorem wm_839 : Cond.code yX3_renew cX3_renew 3 none ∈ wsL_law := inr_35 _ (List.mem_of_getElem? (i := 23) rfl)
theorem wm_840 : Cond.methodLink RX3 22 Lib.Math.min.name ∈ wsL_law := inr_36 _ (List.mem_of_getElem? (i := 0) rfl)
theorem wm_841 : Cond.methodLink RX3 28 Lib.Math.max.name ∈ wsL_law := inr_36 _ (List.mem_of_getElem? (i := 1) rfl)
theorem wm_842 : Cond.methodLink RX3 31 yJ7_fill_53178 ∈ wsL_law := inr_36 _ (List.mem_of_getElem? (i := 2) rfl)
theorem wm_843 : Cond.methodLink RL 121 yX6_sheet ∈ wsL_law := inr_36 _ (List.mem_of_getElem? (i := 3) rfl)
theorem wm_844 : Cond.instanceMethod yX6_sheet ∈ wsL_law := inr_36 _ (List.mem_of_getElem? (i := 4) rfl)
theorem wm_845 : Cond.selects RX6 yX6_sheet yX6_sheet ∈ wsL_law := inr_36 _ (List.mem_of_getElem? (i := 5) rfl)
theorem wm_846 : Cond.code yX6_sheet cX6_sheet 5 (some .int) ∈ wsL_law := inr_36 _ (List.mem_of_getElem? (i := 6) rfl)
theorem wm_847 : Cond.methodLink RL 122 yX5_lose ∈ wsL_law := inr_36 _ (List.mem_of_getElem? (i := 7) rfl)
theorem wm_848 : Cond.instanceMethod yX5_lose ∈ wsL_law := inr_36 _ (List.mem_of_getElem? (i := 8) rfl)
theorem wm_849 : Cond.selects RX5 yX5_lose yX5_lose ∈ wsL_law := inr_36 _ (List.mem_of_getElem? (i := 9) rfl)
theorem wm_850 : Cond.code yX5_lose cX5_lose 3 (some .int) ∈ wsL_law := inr_36 _ (List.mem_of_getElem? (i := 10) rfl)
theorem wm_851 : Cond.methodLink RX5 292 yX3_discard ∈ wsL_law := inr_36 _ (List.mem_of_getElem? (i := 11) rfl)
theorem wm_852 : Cond.instanceMethod yX3_discard ∈ wsL_law := inr_36 _ (List.mem_of_getElem? (i := 12) rfl)
theorem wm_853 : Cond.selects RX3 yX3_discard yX3_discard ∈ wsL_law := inr_36 _ (List.mem_of_getElem? (i := 13) rfl)
theorem wm_854 : Cond.code yX3_discard cX3_discard 1 none ∈ wsL_law := inr_36 _ (List.mem_of_getElem? (i := 14) rfl)
theorem wm_855 : Cond.methodLink RL 125 yX6_lose ∈ wsL_law := inr_36 _ (List.mem_of_getElem? (i := 15) rfl)
theorem wm_856 : Cond.instanceMethod yX6_lose ∈ wsL_law := inr_36 _ (List.mem_of_getElem? (i := 16) rfl)
theorem wm_857 : Cond.selects RX6 yX6_lose yX6_lose ∈ wsL_law := inr_36 _ (List.mem_of_getElem? (i := 17) rfl)
theorem wm_858 : Cond.code yX6_lose cX6_lose 2 (some .int) ∈ wsL_law := inr_36 _ (List.mem_of_getElem? (i := 18) rfl)
theorem wm_859 : Cond.methodLink RL 126 yX5_put ∈ wsL_law := inr_36 _ (List.mem_of_getElem? (i := 19) rfl)
theorem wm_860 : Cond.instanceMethod yX5_put ∈ wsL_law := inr_36 _ (List.mem_of_getElem? (i := 20) rfl)
theorem wm_861 : Cond.selects RX5 yX5_put yX5_put ∈ wsL_law := inr_36 _ (List.mem_of_getElem? (i := 21) rfl)
theorem wm_862 : Cond.code yX5_put cX5_put 6 (some .int) ∈ wsL_law := inr_36 _ (List.mem_of_getElem? (i := 22) rfl)
theorem wm_863 : Cond.methodLink RX5 295 yX3_hindrance ∈ wsL_law := inr_36 _ (List.mem_of_getElem? (i := 23) rfl)
theorem wm_864 : Cond.instanceMethod yX3_hindrance ∈ wsL_law := inr_37 _ (List.mem_of_getElem? (i := 0) rfl)
theorem wm_865 : Cond.selects RX3 yX3_hindrance yX3_hindrance ∈ wsL_law := inr_37 _ (List.mem_of_getElem? (i := 1) rfl)
theorem wm_866 : Cond.code yX3_hindrance cX3_hindrance 3 (some .int) ∈ wsL_law := inr_37 _ (List.mem_of_getElem? (i := 2) rfl)
theorem wm_867 : Cond.methodLink RX3 37 yX3_isLost ∈ wsL_law := inr_37 _ (List.mem_of_getElem? (i := 3) rfl)
theorem wm_868 : Cond.methodLink RX5 298 yX3_setItem ∈ wsL_law := inr_37 _ (List.mem_of_getElem? (i := 4) rfl)
theorem wm_869 : Cond.instanceMethod yX3_setItem ∈ wsL_law := inr_37 _ (List.mem_of_getElem? (i := 5) rfl)
theorem wm_870 : Cond.selects RX3 yX3_setItem yX3_setItem ∈ wsL_law := inr_37 _ (List.mem_of_getElem? (i := 6) rfl)
theorem wm_871 : Cond.code yX3_setItem cX3_setItem 3 none ∈ wsL_law := inr_37 _ (List.mem_of_getElem? (i := 7) rfl)
theorem wm_872 : Cond.methodLink RL 130 yX6_put ∈ wsL_law := inr_37 _ (List.mem_of_getElem? (i := 8) rfl)
theorem wm_873 : Cond.instanceMethod yX6_put ∈ wsL_law := inr_37 _ (List.mem_of_getElem? (i := 9) rfl)
theorem wm_874 : Cond.selects RX6 yX6_put yX6_put ∈ wsL_law := inr_37 _ (List.mem_of_getElem? (i := 10) rfl)
theorem wm_875 : Cond.code yX6_put cX6_put 6 (some .int) ∈ wsL_law := inr_37 _ (List.mem_of_getElem? (i := 11) rfl)
theorem wm_876 : Cond.methodLink RX6 271 yX6_lacks ∈ wsL_law := inr_37 _ (List.mem_of_getElem? (i := 12) rfl)
theorem wm_877 : Cond.instanceMethod yX6_lacks ∈ wsL_law := inr_37 _ (List.mem_of_getElem? (i := 13) rfl)
theorem wm_878 : Cond.selects RX6 yX6_lacks yX6_lacks ∈ wsL_law := inr_37 _ (List.mem_of_getElem? (i := 14) rfl)
theorem wm_879 : Cond.code yX6_lacks cX6_lacks 4 (some .int) ∈ wsL_law := inr_37 _ (List.mem_of_getElem? (i := 15) rfl)
theorem wm_880 : Cond.methodLink RX6 274 yX6_keep ∈ wsL_law := inr_37 _ (List.mem_of_getElem? (i := 16) rfl)
theorem wm_881 : Cond.instanceMethod yX6_keep ∈ wsL_law := inr_37 _ (List.mem_of_getElem? (i := 17) rfl)
theorem wm_882 : Cond.selects RX6 yX6_keep yX6_keep ∈ wsL_law := inr_37 _ (List.mem_of_getElem? (i := 18) rfl)
theorem wm_883 : Cond.code yX6_keep cX6_keep 4 none ∈ wsL_law := inr_37 _ (List.mem_of_getElem? (i := 19) rfl)
theorem wm_884 : Cond.methodLink RL 131 yX5_get ∈ wsL_law := inr_37 _ (List.mem_of_getElem? (i := 20) rfl)
theorem wm_885 : Cond.instanceMethod yX5_get ∈ wsL_law := inr_37 _ (List.mem_of_getElem? (i := 21) rfl)
theorem wm_886 : Cond.selects RX5 yX5_get yX5_get ∈ wsL_law := inr_37 _ (List.mem_of_getElem? (i := 22) rfl)
theorem wm_887 : Cond.code yX5_get cX5_get 5 (some .int) ∈ wsL_law := inr_37 _ (List.mem_of_getElem? (i := 23) rfl)
theorem wm_888 : Cond.constant RX5 301 (-2147483648) ∈ wsL_law := inr_38 _ (List.mem_of_getElem? (i := 0) rfl)
theorem wm_889 : Cond.methodLink RL 134 yX6_get ∈ wsL_law := inr_38 _ (List.mem_of_getElem? (i := 1) rfl)
theorem wm_890 : Cond.instanceMethod yX6_get ∈ wsL_law := inr_38 _ (List.mem_of_getElem? (i := 2) rfl)
theorem wm_891 : Cond.selects RX6 yX6_get yX6_get ∈ wsL_law := inr_38 _ (List.mem_of_getElem? (i := 3) rfl)
theorem wm_892 : Cond.code yX6_get cX6_get 5 (some .int) ∈ wsL_law := inr_38 _ (List.mem_of_getElem? (i := 4) rfl)
theorem wm_893 : Cond.constant RX6 278 (-2147483648) ∈ wsL_law := inr_38 _ (List.mem_of_getElem? (i := 5) rfl)
theorem wm_894 : Cond.methodLink RL 135 yX5_copy ∈ wsL_law := inr_38 _ (List.mem_of_getElem? (i := 6) rfl)
theorem wm_895 : Cond.instanceMethod yX5_copy ∈ wsL_law := inr_38 _ (List.mem_of_getElem? (i := 7) rfl)
theorem wm_896 : Cond.selects RX5 yX5_copy yX5_copy ∈ wsL_law := inr_38 _ (List.mem_of_getElem? (i := 8) rfl)
theorem wm_897 : Cond.code yX5_copy cX5_copy 6 (some .int) ∈ wsL_law := inr_38 _ (List.mem_of_getElem? (i := 9) rfl)
theorem wm_898 : Cond.fieldLink RX5 302 "ElectingWind$Sheet" "form" "I" ∈ wsL_law := inr_38 _ (List.mem_of_getElem? (i := 10) rfl)
theorem wm_899 : Cond.fieldLink RX5 308 "ElectingWind$Sheet" "items" "[I" ∈ wsL_law := inr_38 _ (List.mem_of_getElem? (i := 11) rfl)
theorem wm_900 : Cond.methodLink RX5 311 arraycopyName ∈ wsL_law := inr_38 _ (List.mem_of_getElem? (i := 12) rfl)
theorem wm_901 : Cond.methodLink RX5 305 yX3_hasItems ∈ wsL_law := inr_38 _ (List.mem_of_getElem? (i := 13) rfl)
theorem wm_902 : Cond.instanceMethod yX3_hasItems ∈ wsL_law := inr_38 _ (List.mem_of_getElem? (i := 14) rfl)
theorem wm_903 : Cond.selects RX3 yX3_hasItems yX3_hasItems ∈ wsL_law := inr_38 _ (List.mem_of_getElem? (i := 15) rfl)
theorem wm_904 : Cond.code yX3_hasItems cX3_hasItems 3 (some .boolean) ∈ wsL_law := inr_38 _ (List.mem_of_getElem? (i := 16) rfl)
theorem wm_905 : Cond.methodLink RL 139 yX6_copy ∈ wsL_law := inr_38 _ (List.mem_of_getElem? (i := 17) rfl)
theorem wm_906 : Cond.instanceMethod yX6_copy ∈ wsL_law := inr_38 _ (List.mem_of_getElem? (i := 18) rfl)
theorem wm_907 : Cond.selects RX6 yX6_copy yX6_copy ∈ wsL_law := inr_38 _ (List.mem_of_getElem? (i := 19) rfl)
theorem wm_908 : Cond.code yX6_copy cX6_copy 7 (some .int) ∈ wsL_law := inr_38 _ (List.mem_of_getElem? (i := 20) rfl)
theorem wm_909 : Cond.methodLink RL 140 yX5_write ∈ wsL_law := inr_38 _ (List.mem_of_getElem? (i := 21) rfl)
theorem wm_910 : Cond.instanceMethod yX5_write ∈ wsL_law := inr_38 _ (List.mem_of_getElem? (i := 22) rfl)
theorem wm_911 : Cond.selects RX5 yX5_write yX5_write ∈ wsL_law := inr_38 _ (List.mem_of_getElem? (i := 23) rfl)
theorem wm_912 : Cond.code yX5_write cX5_write 5 (some .int) ∈ wsL_law := inr_39 _ (List.mem_of_getElem? (i := 0) rfl)
theorem wm_913 : Cond.methodLink RL 143 yX6_write ∈ wsL_law := inr_39 _ (List.mem_of_getElem? (i := 1) rfl)
theorem wm_914 : Cond.instanceMethod yX6_write ∈ wsL_law := inr_39 _ (List.mem_of_getElem? (i := 2) rfl)
theorem wm_915 : Cond.selects RX6 yX6_write yX6_write ∈ wsL_law := inr_39 _ (List.mem_of_getElem? (i := 3) rfl)
theorem wm_916 : Cond.code yX6_write cX6_write 4 (some .int) ∈ wsL_law := inr_39 _ (List.mem_of_getElem? (i := 4) rfl)
theorem wm_917 : Cond.methodLink RL 144 yX5_count ∈ wsL_law := inr_39 _ (List.mem_of_getElem? (i := 5) rfl)
theorem wm_918 : Cond.instanceMethod yX5_count ∈ wsL_law := inr_39 _ (List.mem_of_getElem? (i := 6) rfl)
theorem wm_919 : Cond.selects RX5 yX5_count yX5_count ∈ wsL_law := inr_39 _ (List.mem_of_getElem? (i := 7) rfl)
theorem wm_920 : Cond.code yX5_count cX5_count 2 (some .int) ∈ wsL_law := inr_39 _ (List.mem_of_getElem? (i := 8) rfl)
theorem wm_921 : Cond.methodLink RL 147 yX6_count ∈ wsL_law := inr_39 _ (List.mem_of_getElem? (i := 9) rfl)
theorem wm_922 : Cond.instanceMethod yX6_count ∈ wsL_law := inr_39 _ (List.mem_of_getElem? (i := 10) rfl)
theorem wm_923 : Cond.selects RX6 yX6_count yX6_count ∈ wsL_law := inr_39 _ (List.mem_of_getElem? (i := 11) rfl)
theorem wm_924 : Cond.code yX6_count cX6_count 2 (some .int) ∈ wsL_law := inr_39 _ (List.mem_of_getElem? (i := 12) rfl)
theorem wm_925 : Cond.methodLink RX6 279 yX6_sumOf ∈ wsL_law := inr_39 _ (List.mem_of_getElem? (i := 13) rfl)
theorem wm_926 : Cond.instanceMethod yX6_sumOf ∈ wsL_law := inr_39 _ (List.mem_of_getElem? (i := 14) rfl)
theorem wm_927 : Cond.selects RX6 yX6_sumOf yX6_sumOf ∈ wsL_law := inr_39 _ (List.mem_of_getElem? (i := 15) rfl)
theorem wm_928 : Cond.code yX6_sumOf cX6_sumOf 2 (some .int) ∈ wsL_law := inr_39 _ (List.mem_of_getElem? (i := 16) rfl)
theorem wm_929 : Cond.methodLink RL 148 yX5_digest ∈ wsL_law := inr_39 _ (List.mem_of_getElem? (i := 17) rfl)
theorem wm_930 : Cond.instanceMethod yX5_digest ∈ wsL_law := inr_39 _ (List.mem_of_getElem? (i := 18) rfl)
theorem wm_931 : Cond.selects RX5 yX5_digest yX5_digest ∈ wsL_law := inr_39 _ (List.mem_of_getElem? (i := 19) rfl)
theorem wm_932 : Cond.code yX5_digest cX5_digest 4 (some .long) ∈ wsL_law := inr_39 _ (List.mem_of_getElem? (i := 20) rfl)
theorem wm_933 : Cond.constantLong RX5 317 (17) ∈ wsL_law := inr_39 _ (List.mem_of_getElem? (i := 21) rfl)
theorem wm_934 : Cond.constantLong RX5 319 (31) ∈ wsL_law := inr_39 _ (List.mem_of_getElem? (i := 22) rfl)
theorem wm_935 : Cond.methodLink RX5 321 yX5_count ∈ wsL_law := inr_39 _ (List.mem_of_getElem? (i := 23) rfl)
theorem wm_936 : Cond.methodLink RX5 324 yX5_fault ∈ wsL_law := inr_40 _ (List.mem_of_getElem? (i := 0) rfl)
theorem wm_937 : Cond.methodLink RX5 327 yX5_cell ∈ wsL_law := inr_40 _ (List.mem_of_getElem? (i := 1) rfl)
theorem wm_938 : Cond.methodLink RX5 330 yX5_digestMinute ∈ wsL_law := inr_40 _ (List.mem_of_getElem? (i := 2) rfl)
theorem wm_939 : Cond.instanceMethod yX5_digestMinute ∈ wsL_law := inr_40 _ (List.mem_of_getElem? (i := 3) rfl)
theorem wm_940 : Cond.selects RX5 yX5_digestMinute yX5_digestMinute ∈ wsL_law := inr_40 _ (List.mem_of_getElem? (i := 4) rfl)
theorem wm_941 : Cond.code yX5_digestMinute cX5_digestMinute 7 (some .long) ∈ wsL_law := inr_40 _ (List.mem_of_getElem? (i := 5) rfl)
theorem wm_942 : Cond.methodLink RX5 350 yX5_gust ∈ wsL_law := inr_40 _ (List.mem_of_getElem? (i := 6) rfl)
theorem wm_943 : Cond.methodLink RX5 353 yX5_in ∈ wsL_law := inr_40 _ (List.mem_of_getElem? (i := 7) rfl)
theorem wm_944 : Cond.methodLink RX5 356 yX5_ask ∈ wsL_law := inr_40 _ (List.mem_of_getElem? (i := 8) rfl)
theorem wm_945 : Cond.methodLink RX5 359 yX5_blew ∈ wsL_law := inr_40 _ (List.mem_of_getElem? (i := 9) rfl)
theorem wm_946 : Cond.methodLink RX5 362 yX5_wind ∈ wsL_law := inr_40 _ (List.mem_of_getElem? (i := 10) rfl)
theorem wm_947 : Cond.methodLink RX5 365 yX5_ribs ∈ wsL_law := inr_40 _ (List.mem_of_getElem? (i := 11) rfl)
theorem wm_948 : Cond.methodLink RX5 334 yX5_digestCandidate ∈ wsL_law := inr_40 _ (List.mem_of_getElem? (i := 12) rfl)
theorem wm_949 : Cond.instanceMethod yX5_digestCandidate ∈ wsL_law := inr_40 _ (List.mem_of_getElem? (i := 13) rfl)
theorem wm_950 : Cond.selects RX5 yX5_digestCandidate yX5_digestCandidate ∈ wsL_law := inr_40 _ (List.mem_of_getElem? (i := 14) rfl)
theorem wm_951 : Cond.code yX5_digestCandidate cX5_digestCandidate 7 (some .long) ∈ wsL_law := inr_40 _ (List.mem_of_getElem? (i := 15) rfl)
theorem wm_952 : Cond.methodLink RX5 367 yX5_candidate ∈ wsL_law := inr_40 _ (List.mem_of_getElem? (i := 16) rfl)
theorem wm_953 : Cond.methodLink RX5 370 yX5_overturns ∈ wsL_law := inr_40 _ (List.mem_of_getElem? (i := 17) rfl)
theorem wm_954 : Cond.methodLink RX5 373 yX5_stand ∈ wsL_law := inr_40 _ (List.mem_of_getElem? (i := 18) rfl)
theorem wm_955 : Cond.methodLink RX5 376 yX5_shield ∈ wsL_law := inr_40 _ (List.mem_of_getElem? (i := 19) rfl)
theorem wm_956 : Cond.methodLink RX5 379 yX5_bribe ∈ wsL_law := inr_40 _ (List.mem_of_getElem? (i := 20) rfl)
theorem wm_957 : Cond.methodLink RX5 382 yX5_had ∈ wsL_law := inr_40 _ (List.mem_of_getElem? (i := 21) rfl)
theorem wm_958 : Cond.methodLink RX5 385 yX5_calm ∈ wsL_law := inr_40 _ (List.mem_of_getElem? (i := 22) rfl)
theorem wm_959 : Cond.methodLink RX5 337 yX5_first ∈ wsL_law := inr_40 _ (List.mem_of_getElem? (i := 23) rfl)
theorem wm_960 : Cond.methodLink RX5 340 yX5_lulls ∈ wsL_law := inr_41 _ (List.mem_of_getElem? (i := 0) rfl)
theorem wm_961 : Cond.methodLink RX5 343 yX5_move ∈ wsL_law := inr_41 _ (List.mem_of_getElem? (i := 1) rfl)
theorem wm_962 : Cond.methodLink RX5 346 yX5_weather ∈ wsL_law := inr_41 _ (List.mem_of_getElem? (i := 2) rfl)
theorem wm_963 : Cond.methodLink RL 152 yX6_digest ∈ wsL_law := inr_41 _ (List.mem_of_getElem? (i := 3) rfl)
theorem wm_964 : Cond.instanceMethod yX6_digest ∈ wsL_law := inr_41 _ (List.mem_of_getElem? (i := 4) rfl)
theorem wm_965 : Cond.selects RX6 yX6_digest yX6_digest ∈ wsL_law := inr_41 _ (List.mem_of_getElem? (i := 5) rfl)
theorem wm_966 : Cond.code yX6_digest cX6_digest 4 (some .long) ∈ wsL_law := inr_41 _ (List.mem_of_getElem? (i := 6) rfl)
theorem wm_967 : Cond.constantLong RX6 284 (17) ∈ wsL_law := inr_41 _ (List.mem_of_getElem? (i := 7) rfl)
theorem wm_968 : Cond.constantLong RX6 282 (31) ∈ wsL_law := inr_41 _ (List.mem_of_getElem? (i := 8) rfl)
theorem wm_969 : Cond.methodLink RX6 286 yX6_count ∈ wsL_law := inr_41 _ (List.mem_of_getElem? (i := 9) rfl)
theorem wm_970 : Cond.methodLink RX6 289 yX6_minuteDigest ∈ wsL_law := inr_41 _ (List.mem_of_getElem? (i := 10) rfl)
theorem wm_971 : Cond.instanceMethod yX6_minuteDigest ∈ wsL_law := inr_41 _ (List.mem_of_getElem? (i := 11) rfl)
theorem wm_972 : Cond.selects RX6 yX6_minuteDigest yX6_minuteDigest ∈ wsL_law := inr_41 _ (List.mem_of_getElem? (i := 12) rfl)
theorem wm_973 : Cond.code yX6_minuteDigest cX6_minuteDigest 7 (some .long) ∈ wsL_law := inr_41 _ (List.mem_of_getElem? (i := 13) rfl)
theorem wm_974 : Cond.methodLink RX6 293 yX6_candidateDigest ∈ wsL_law := inr_41 _ (List.mem_of_getElem? (i := 14) rfl)
theorem wm_975 : Cond.instanceMethod yX6_candidateDigest ∈ wsL_law := inr_41 _ (List.mem_of_getElem? (i := 15) rfl)
theorem wm_976 : Cond.selects RX6 yX6_candidateDigest yX6_candidateDigest ∈ wsL_law := inr_41 _ (List.mem_of_getElem? (i := 16) rfl)
theorem wm_977 : Cond.code yX6_candidateDigest cX6_candidateDigest 7 (some .long) ∈ wsL_law := inr_41 _ (List.mem_of_getElem? (i := 17) rfl)
theorem CLk0 : CLok 0 RX0 TX0 8 tyX0 := ⟨rfl, inlX0, rfl, tyX0_ok, nmX0⟩
theorem CLk1 : CLok 1 RX1 TX1 12 tyX1 := ⟨rfl, inlX1, rfl, tyX1_ok, nmX1⟩
theorem CLk2 : CLok 2 RX2 TX2 3 tyX2 := ⟨rfl, inlX2, rfl, tyX2_ok, nmX2⟩
theorem CLk3 : CLok 3 RX3 TX3 3 tyX3 := ⟨rfl, inlX3, rfl, tyX3_ok, nmX3⟩
theorem CLk4 : CLok 4 RX4 TX4 3 tyX4 := ⟨rfl, inlX4, rfl, tyX4_ok, nmX4⟩
theorem CLk5 : CLok 5 RX5 TX5 13 tyX5 := ⟨rfl, inlX5, rfl, tyX5_ok, nmX5⟩
theorem CLk6 : CLok 6 RX6 TX6 29 tyX6 := ⟨rfl, inlX6, rfl, tyX6_ok, nmX6⟩
theorem fl_RX0_12 : FLok RX0 12 0 0 := ⟨RX0, TX0, 8, tyX0, CLk0, by decide, wm_45⟩
theorem fl_RX0_18 : FLok RX0 18 0 1 := ⟨RX0, TX0, 8, tyX0, CLk0, by decide, wm_46⟩
theorem fp_RX0_18 : FPok RX0 18 0 1 .int := ⟨RX0, TX0, 8, tyX0, CLk0, by decide, wm_46, rfl, by decide +kernel⟩
theorem fl_RX0_22 : FLok RX0 22 0 2 := ⟨RX0, TX0, 8, tyX0, CLk0, by decide, wm_47⟩
theorem fl_RX0_26 : FLok RX0 26 0 3 := ⟨RX0, TX0, 8, tyX0, CLk0, by decide, wm_48⟩
theorem fl_RX0_29 : FLok RX0 29 0 4 := ⟨RX0, TX0, 8, tyX0, CLk0, by decide, wm_49⟩
theorem fl_RX0_32 : FLok RX0 32 0 5 := ⟨RX0, TX0, 8, tyX0, CLk0, by decide, wm_50⟩
theorem fl_RX0_35 : FLok RX0 35 0 6 := ⟨RX0, TX0, 8, tyX0, CLk0, by decide, wm_51⟩
theorem fl_RX0_38 : FLok RX0 38 0 7 := ⟨RX0, TX0, 8, tyX0, CLk0, by decide, wm_52⟩
theorem fl_RX0_54 : FLok RX0 54 1 2 := ⟨RX1, TX1, 12, tyX1, CLk1, by decide, wm_225⟩
theorem fp_RX0_54 : FPok RX0 54 1 2 .int := ⟨RX1, TX1, 12, tyX1, CLk1, by decide, wm_225, rfl, by decide +kernel⟩
theorem fl_RX0_73 : FLok RX0 73 1 3 := ⟨RX1, TX1, 12, tyX1, CLk1, by decide, wm_209⟩
theorem fp_RX0_73 : FPok RX0 73 1 3 .int := ⟨RX1, TX1, 12, tyX1, CLk1, by decide, wm_209, rfl, by decide +kernel⟩
theorem fl_RX0_76 : FLok RX0 76 1 9 := ⟨RX1, TX1, 12, tyX1, CLk1, by decide, wm_210⟩
theorem fl_RX0_79 : FLok RX0 79 1 10 := ⟨RX1, TX1, 12, tyX1, CLk1, by decide, wm_211⟩
theorem fl_RX0_90 : FLok RX0 90 1 11 := ⟨RX1, TX1, 12, tyX1, CLk1, by decide, wm_230⟩
theorem fl_RX0_100 : FLok RX0 100 1 1 := ⟨RX1, TX1, 12, tyX1, CLk1, by decide, wm_235⟩
theorem fp_RX0_100 : FPok RX0 100 1 1 .int := ⟨RX1, TX1, 12, tyX1, CLk1, by decide, wm_235, rfl, by decide +kernel⟩
theorem fl_RX0_103 : FLok RX0 103 1 7 := ⟨RX1, TX1, 12, tyX1, CLk1, by decide, wm_236⟩
theorem fl_RX0_106 : FLok RX0 106 1 6 := ⟨RX1, TX1, 12, tyX1, CLk1, by decide, wm_237⟩
theorem fl_RX0_109 : FLok RX0 109 1 8 := ⟨RX1, TX1, 12, tyX1, CLk1, by decide, wm_238⟩
theorem fl_RX0_112 : FLok RX0 112 1 5 := ⟨RX1, TX1, 12, tyX1, CLk1, by decide, wm_239⟩
theorem fl_RX1_9 : FLok RX1 9 1 0 := ⟨RX1, TX1, 12, tyX1, CLk1, by decide, wm_56⟩
theorem fp_RX1_9 : FPok RX1 9 1 0 .int := ⟨RX1, TX1, 12, tyX1, CLk1, by decide, wm_56, rfl, by decide +kernel⟩
theorem fl_RX1_15 : FLok RX1 15 1 1 := ⟨RX1, TX1, 12, tyX1, CLk1, by decide, wm_57⟩
theorem fp_RX1_15 : FPok RX1 15 1 1 .int := ⟨RX1, TX1, 12, tyX1, CLk1, by decide, wm_57, rfl, by decide +kernel⟩
theorem fl_RX1_18 : FLok RX1 18 1 2 := ⟨RX1, TX1, 12, tyX1, CLk1, by decide, wm_58⟩
theorem fp_RX1_18 : FPok RX1 18 1 2 .int := ⟨RX1, TX1, 12, tyX1, CLk1, by decide, wm_58, rfl, by decide +kernel⟩
theorem fl_RX1_21 : FLok RX1 21 1 3 := ⟨RX1, TX1, 12, tyX1, CLk1, by decide, wm_59⟩
theorem fp_RX1_21 : FPok RX1 21 1 3 .int := ⟨RX1, TX1, 12, tyX1, CLk1, by decide, wm_59, rfl, by decide +kernel⟩
theorem fl_RX1_24 : FLok RX1 24 1 4 := ⟨RX1, TX1, 12, tyX1, CLk1, by decide, wm_60⟩
theorem fl_RX1_28 : FLok RX1 28 1 5 := ⟨RX1, TX1, 12, tyX1, CLk1, by decide, wm_61⟩
theorem fl_RX1_31 : FLok RX1 31 1 6 := ⟨RX1, TX1, 12, tyX1, CLk1, by decide, wm_62⟩
theorem fl_RX1_34 : FLok RX1 34 1 7 := ⟨RX1, TX1, 12, tyX1, CLk1, by decide, wm_63⟩
theorem fl_RX1_37 : FLok RX1 37 1 8 := ⟨RX1, TX1, 12, tyX1, CLk1, by decide, wm_64⟩
theorem fl_RX1_40 : FLok RX1 40 1 9 := ⟨RX1, TX1, 12, tyX1, CLk1, by decide, wm_65⟩
theorem fl_RX1_43 : FLok RX1 43 1 10 := ⟨RX1, TX1, 12, tyX1, CLk1, by decide, wm_66⟩
theorem fl_RX1_46 : FLok RX1 46 1 11 := ⟨RX1, TX1, 12, tyX1, CLk1, by decide, wm_67⟩
theorem fl_RX2_9 : FLok RX2 9 2 0 := ⟨RX2, TX2, 3, tyX2, CLk2, by decide, wm_78⟩
theorem fl_RX2_15 : FLok RX2 15 2 2 := ⟨RX2, TX2, 3, tyX2, CLk2, by decide, wm_79⟩
theorem fp_RX2_15 : FPok RX2 15 2 2 .int := ⟨RX2, TX2, 3, tyX2, CLk2, by decide, wm_79, rfl, by decide +kernel⟩
theorem fl_RX2_25 : FLok RX2 25 2 1 := ⟨RX2, TX2, 3, tyX2, CLk2, by decide, wm_84⟩
theorem fl_RX3_9 : FLok RX3 9 3 0 := ⟨RX3, TX3, 3, tyX3, CLk3, by decide, wm_88⟩
theorem fp_RX3_9 : FPok RX3 9 3 0 .int := ⟨RX3, TX3, 3, tyX3, CLk3, by decide, wm_88, rfl, by decide +kernel⟩
theorem fl_RX3_15 : FLok RX3 15 3 1 := ⟨RX3, TX3, 3, tyX3, CLk3, by decide, wm_89⟩
theorem fp_RX3_15 : FPok RX3 15 3 1 .int := ⟨RX3, TX3, 3, tyX3, CLk3, by decide, wm_89, rfl, by decide +kernel⟩
theorem fl_RX3_18 : FLok RX3 18 3 2 := ⟨RX3, TX3, 3, tyX3, CLk3, by decide, wm_90⟩
theorem fl_RX4_9 : FLok RX4 9 4 0 := ⟨RX4, TX4, 3, tyX4, CLk4, by decide, wm_71⟩
theorem fp_RX4_9 : FPok RX4 9 4 0 .int := ⟨RX4, TX4, 3, tyX4, CLk4, by decide, wm_71, rfl, by decide +kernel⟩
theorem fl_RX4_15 : FLok RX4 15 4 1 := ⟨RX4, TX4, 3, tyX4, CLk4, by decide, wm_72⟩
theorem fl_RX4_19 : FLok RX4 19 4 2 := ⟨RX4, TX4, 3, tyX4, CLk4, by decide, wm_73⟩
theorem fl_RX4_22 : FLok RX4 22 0 0 := ⟨RX0, TX0, 8, tyX0, CLk0, by decide, wm_708⟩
theorem fl_RX4_28 : FLok RX4 28 1 2 := ⟨RX1, TX1, 12, tyX1, CLk1, by decide, wm_709⟩
theorem fp_RX4_28 : FPok RX4 28 1 2 .int := ⟨RX1, TX1, 12, tyX1, CLk1, by decide, wm_709, rfl, by decide +kernel⟩
theorem fl_RX5_11 : FLok RX5 11 5 0 := ⟨RX5, TX5, 13, tyX5, CLk5, by decide, wm_13⟩
theorem fl_RX5_15 : FLok RX5 15 5 1 := ⟨RX5, TX5, 13, tyX5, CLk5, by decide, wm_15⟩
theorem fl_RX5_22 : FLok RX5 22 5 2 := ⟨RX5, TX5, 13, tyX5, CLk5, by decide, wm_19⟩
theorem fl_RX5_26 : FLok RX5 26 5 3 := ⟨RX5, TX5, 13, tyX5, CLk5, by decide, wm_20⟩
theorem fl_RX5_32 : FLok RX5 32 5 4 := ⟨RX5, TX5, 13, tyX5, CLk5, by decide, wm_24⟩
theorem fl_RX5_38 : FLok RX5 38 5 5 := ⟨RX5, TX5, 13, tyX5, CLk5, by decide, wm_26⟩
theorem fl_RX5_42 : FLok RX5 42 5 6 := ⟨RX5, TX5, 13, tyX5, CLk5, by decide, wm_27⟩
theorem fp_RX5_42 : FPok RX5 42 5 6 .int := ⟨RX5, TX5, 13, tyX5, CLk5, by decide, wm_27, rfl, by decide +kernel⟩
theorem fl_RX5_46 : FLok RX5 46 5 7 := ⟨RX5, TX5, 13, tyX5, CLk5, by decide, wm_28⟩
theorem fp_RX5_46 : FPok RX5 46 5 7 .int := ⟨RX5, TX5, 13, tyX5, CLk5, by decide, wm_28, rfl, by decide +kernel⟩
theorem fl_RX5_49 : FLok RX5 49 5 8 := ⟨RX5, TX5, 13, tyX5, CLk5, by decide, wm_29⟩
theorem fp_RX5_49 : FPok RX5 49 5 8 .long := ⟨RX5, TX5, 13, tyX5, CLk5, by decide, wm_29, rfl, by decide +kernel⟩
theorem fl_RX5_53 : FLok RX5 53 5 9 := ⟨RX5, TX5, 13, tyX5, CLk5, by decide, wm_30⟩
theorem fl_RX5_56 : FLok RX5 56 5 10 := ⟨RX5, TX5, 13, tyX5, CLk5, by decide, wm_31⟩
theorem fp_RX5_56 : FPok RX5 56 5 10 .int := ⟨RX5, TX5, 13, tyX5, CLk5, by decide, wm_31, rfl, by decide +kernel⟩
theorem fl_RX5_59 : FLok RX5 59 5 11 := ⟨RX5, TX5, 13, tyX5, CLk5, by decide, wm_33⟩
theorem fl_RX5_63 : FLok RX5 63 5 12 := ⟨RX5, TX5, 13, tyX5, CLk5, by decide, wm_34⟩
theorem fl_RX5_91 : FLok RX5 91 0 0 := ⟨RX0, TX0, 8, tyX0, CLk0, by decide, wm_138⟩
theorem fl_RX5_106 : FLok RX5 106 1 7 := ⟨RX1, TX1, 12, tyX1, CLk1, by decide, wm_351⟩
theorem fl_RX5_109 : FLok RX5 109 1 8 := ⟨RX1, TX1, 12, tyX1, CLk1, by decide, wm_352⟩
theorem fl_RX5_115 : FLok RX5 115 1 9 := ⟨RX1, TX1, 12, tyX1, CLk1, by decide, wm_370⟩
theorem fl_RX5_118 : FLok RX5 118 1 10 := ⟨RX1, TX1, 12, tyX1, CLk1, by decide, wm_371⟩
theorem fl_RX5_121 : FLok RX5 121 1 11 := ⟨RX1, TX1, 12, tyX1, CLk1, by decide, wm_372⟩
theorem fl_RX5_150 : FLok RX5 150 1 2 := ⟨RX1, TX1, 12, tyX1, CLk1, by decide, wm_357⟩
theorem fp_RX5_150 : FPok RX5 150 1 2 .int := ⟨RX1, TX1, 12, tyX1, CLk1, by decide, wm_357, rfl, by decide +kernel⟩
theorem fl_RX5_157 : FLok RX5 157 1 1 := ⟨RX1, TX1, 12, tyX1, CLk1, by decide, wm_537⟩
theorem fp_RX5_157 : FPok RX5 157 1 1 .int := ⟨RX1, TX1, 12, tyX1, CLk1, by decide, wm_537, rfl, by decide +kernel⟩
theorem fl_RX5_167 : FLok RX5 167 1 3 := ⟨RX1, TX1, 12, tyX1, CLk1, by decide, wm_377⟩
theorem fp_RX5_167 : FPok RX5 167 1 3 .int := ⟨RX1, TX1, 12, tyX1, CLk1, by decide, wm_377, rfl, by decide +kernel⟩
theorem fl_RX5_188 : FLok RX5 188 1 4 := ⟨RX1, TX1, 12, tyX1, CLk1, by decide, wm_598⟩
theorem fl_RX5_201 : FLok RX5 201 4 0 := ⟨RX4, TX4, 3, tyX4, CLk4, by decide, wm_633⟩
theorem fp_RX5_201 : FPok RX5 201 4 0 .int := ⟨RX4, TX4, 3, tyX4, CLk4, by decide, wm_633, rfl, by decide +kernel⟩
theorem fl_RX5_213 : FLok RX5 213 3 1 := ⟨RX3, TX3, 3, tyX3, CLk3, by decide, wm_663⟩
theorem fp_RX5_213 : FPok RX5 213 3 1 .int := ⟨RX3, TX3, 3, tyX3, CLk3, by decide, wm_663, rfl, by decide +kernel⟩
theorem fl_RX5_302 : FLok RX5 302 3 0 := ⟨RX3, TX3, 3, tyX3, CLk3, by decide, wm_898⟩
theorem fp_RX5_302 : FPok RX5 302 3 0 .int := ⟨RX3, TX3, 3, tyX3, CLk3, by decide, wm_898, rfl, by decide +kernel⟩
theorem fl_RX5_308 : FLok RX5 308 3 2 := ⟨RX3, TX3, 3, tyX3, CLk3, by decide, wm_899⟩
theorem fl_RX6_7 : FLok RX6 7 6 0 := ⟨RX6, TX6, 29, tyX6, CLk6, by decide, wm_95⟩
theorem fl_RX6_13 : FLok RX6 13 6 1 := ⟨RX6, TX6, 29, tyX6, CLk6, by decide, wm_96⟩
theorem fl_RX6_16 : FLok RX6 16 6 4 := ⟨RX6, TX6, 29, tyX6, CLk6, by decide, wm_98⟩
theorem fl_RX6_20 : FLok RX6 20 6 6 := ⟨RX6, TX6, 29, tyX6, CLk6, by decide, wm_99⟩
theorem fl_RX6_23 : FLok RX6 23 6 7 := ⟨RX6, TX6, 29, tyX6, CLk6, by decide, wm_100⟩
theorem fl_RX6_26 : FLok RX6 26 6 9 := ⟨RX6, TX6, 29, tyX6, CLk6, by decide, wm_101⟩
theorem fl_RX6_29 : FLok RX6 29 6 10 := ⟨RX6, TX6, 29, tyX6, CLk6, by decide, wm_102⟩
theorem fl_RX6_32 : FLok RX6 32 6 11 := ⟨RX6, TX6, 29, tyX6, CLk6, by decide, wm_103⟩
theorem fl_RX6_35 : FLok RX6 35 6 12 := ⟨RX6, TX6, 29, tyX6, CLk6, by decide, wm_104⟩
theorem fl_RX6_38 : FLok RX6 38 6 13 := ⟨RX6, TX6, 29, tyX6, CLk6, by decide, wm_105⟩
theorem fl_RX6_41 : FLok RX6 41 6 14 := ⟨RX6, TX6, 29, tyX6, CLk6, by decide, wm_106⟩
theorem fl_RX6_44 : FLok RX6 44 6 15 := ⟨RX6, TX6, 29, tyX6, CLk6, by decide, wm_107⟩
theorem fl_RX6_47 : FLok RX6 47 6 16 := ⟨RX6, TX6, 29, tyX6, CLk6, by decide, wm_108⟩
theorem fl_RX6_50 : FLok RX6 50 6 18 := ⟨RX6, TX6, 29, tyX6, CLk6, by decide, wm_109⟩
theorem fl_RX6_53 : FLok RX6 53 6 19 := ⟨RX6, TX6, 29, tyX6, CLk6, by decide, wm_110⟩
theorem fl_RX6_56 : FLok RX6 56 6 20 := ⟨RX6, TX6, 29, tyX6, CLk6, by decide, wm_111⟩
theorem fl_RX6_59 : FLok RX6 59 6 21 := ⟨RX6, TX6, 29, tyX6, CLk6, by decide, wm_112⟩
theorem fl_RX6_62 : FLok RX6 62 6 22 := ⟨RX6, TX6, 29, tyX6, CLk6, by decide, wm_113⟩
theorem fl_RX6_65 : FLok RX6 65 6 23 := ⟨RX6, TX6, 29, tyX6, CLk6, by decide, wm_114⟩
theorem fl_RX6_68 : FLok RX6 68 6 24 := ⟨RX6, TX6, 29, tyX6, CLk6, by decide, wm_115⟩
theorem fl_RX6_71 : FLok RX6 71 6 25 := ⟨RX6, TX6, 29, tyX6, CLk6, by decide, wm_116⟩
theorem fl_RX6_74 : FLok RX6 74 6 26 := ⟨RX6, TX6, 29, tyX6, CLk6, by decide, wm_117⟩
theorem fl_RX6_77 : FLok RX6 77 6 27 := ⟨RX6, TX6, 29, tyX6, CLk6, by decide, wm_118⟩
theorem fl_RX6_94 : FLok RX6 94 6 3 := ⟨RX6, TX6, 29, tyX6, CLk6, by decide, wm_302⟩
theorem fp_RX6_94 : FPok RX6 94 6 3 .int := ⟨RX6, TX6, 29, tyX6, CLk6, by decide, wm_302, rfl, by decide +kernel⟩
theorem fl_RX6_98 : FLok RX6 98 6 2 := ⟨RX6, TX6, 29, tyX6, CLk6, by decide, wm_303⟩
theorem fp_RX6_98 : FPok RX6 98 6 2 .int := ⟨RX6, TX6, 29, tyX6, CLk6, by decide, wm_303, rfl, by decide +kernel⟩
theorem fl_RX6_101 : FLok RX6 101 6 5 := ⟨RX6, TX6, 29, tyX6, CLk6, by decide, wm_312⟩
theorem fp_RX6_101 : FPok RX6 101 6 5 .int := ⟨RX6, TX6, 29, tyX6, CLk6, by decide, wm_312, rfl, by decide +kernel⟩
theorem fl_RX6_112 : FLok RX6 112 6 8 := ⟨RX6, TX6, 29, tyX6, CLk6, by decide, wm_324⟩
theorem fp_RX6_112 : FPok RX6 112 6 8 .int := ⟨RX6, TX6, 29, tyX6, CLk6, by decide, wm_324, rfl, by decide +kernel⟩
theorem fl_RX6_217 : FLok RX6 217 6 17 := ⟨RX6, TX6, 29, tyX6, CLk6, by decide, wm_650⟩
theorem fp_RX6_217 : FPok RX6 217 6 17 .int := ⟨RX6, TX6, 29, tyX6, CLk6, by decide, wm_650, rfl, by decide +kernel⟩
theorem fl_RX6_268 : FLok RX6 268 6 28 := ⟨RX6, TX6, 29, tyX6, CLk6, by decide, wm_691⟩
theorem fp_RX6_268 : FPok RX6 268 6 28 .int := ⟨RX6, TX6, 29, tyX6, CLk6, by decide, wm_691, rfl, by decide +kernel⟩
def mX0_run : MI := (yX0_run, cX0_run, 1, none, 3, 79)
theorem mo_X0_run : MOv mX0_run 0 := ⟨wm_202, wm_203, wm_18, wm_204, by decide +kernel, by decide +kernel, by decide +kernel⟩
def mX0_runOnFrom : MI := (yX0_runOnFrom, cX0_runOnFrom, 3, none, 2, 57)
theorem mo_X0_runOnFrom : MOv mX0_runOnFrom 1 := ⟨wm_219, wm_220, wm_18, wm_221, by decide +kernel, by decide +kernel, by decide +kernel⟩
def mX0_runUntilTurned : MI := (yX0_runUntilTurned, cX0_runUntilTurned, 3, (some .int), 2, 57)
theorem mo_X0_runUntilTurned : MOv mX0_runUntilTurned 1 := ⟨wm_551, wm_552, wm_18, wm_553, by decide +kernel, by decide +kernel, by decide +kernel⟩
def mX0_start : MI := (yX0_start, cX0_start, 3, none, 1, 23)
theorem mo_X0_start : MOv mX0_start 0 := ⟨wm_206, wm_207, wm_18, wm_208, by decide +kernel, by decide +kernel, by decide +kernel⟩
def mX0_pass : MI := (yX0_pass, cX0_pass, 11, none, 1, 27)
theorem mo_X0_pass : MOv mX0_pass 1 := ⟨wm_227, wm_228, wm_18, wm_229, by decide +kernel, by decide +kernel, by decide +kernel⟩
def mX0_end : MI := (yX0_end, cX0_end, 1, none, 1, 27)
theorem mo_X0_end : MOv mX0_end 0 := ⟨wm_251, wm_252, wm_18, wm_253, by decide +kernel, by decide +kernel, by decide +kernel⟩
def mX0_strainOf : MI := (yX0_strainOf, cX0_strainOf, 2, (some .int), 0, 0)
theorem mo_X0_strainOf : MOs mX0_strainOf 2 := ⟨wm_241, wm_18, wm_242, by decide +kernel, by decide +kernel, by decide +kernel⟩
def mX0_elect : MI := (yX0_elect, cX0_elect, 8, none, 0, 0)
theorem mo_X0_elect : MOv mX0_elect 2 := ⟨wm_247, wm_248, wm_18, wm_249, by decide +kernel, by decide +kernel, by decide +kernel⟩
def mX0_windOn : MI := (yX0_windOn, cX0_windOn, 8, (some .int), 0, 0)
theorem mo_X0_windOn : MOv mX0_windOn 2 := ⟨wm_232, wm_233, wm_18, wm_234, by decide +kernel, by decide +kernel, by decide +kernel⟩
def mX0_has : MI := (yX0_has, cX0_has, 2, (some .boolean), 0, 0)
theorem mo_X0_has : MOs mX0_has 2 := ⟨wm_244, wm_18, wm_245, by decide +kernel, by decide +kernel, by decide +kernel⟩
def mX0_isSomewhere : MI := (yX0_isSomewhere, cX0_isSomewhere, 2, (some .boolean), 1, 21)
theorem mo_X0_isSomewhere : MOv mX0_isSomewhere 1 := ⟨wm_379, wm_380, wm_18, wm_381, by decide +kernel, by decide +kernel, by decide +kernel⟩
def mX0_isFree : MI := (yX0_isFree, cX0_isFree, 2, (some .boolean), 1, 21)
theorem mo_X0_isFree : MOv mX0_isFree 1 := ⟨wm_575, wm_576, wm_18, wm_577, by decide +kernel, by decide +kernel, by decide +kernel⟩
def mX0_isFreeFor : MI := (yX0_isFreeFor, cX0_isFreeFor, 3, (some .boolean), 1, 21)
theorem mo_X0_isFreeFor : MOv mX0_isFreeFor 2 := ⟨wm_547, wm_548, wm_18, wm_549, by decide +kernel, by decide +kernel, by decide +kernel⟩
def mX0_ribsAhead : MI := (yX0_ribsAhead, cX0_ribsAhead, 4, (some .int), 0, 0)
theorem mo_X0_ribsAhead : MOv mX0_ribsAhead 2 := ⟨wm_452, wm_453, wm_18, wm_454, by decide +kernel, by decide +kernel, by decide +kernel⟩
def mX0_turnsWhen : MI := (yX0_turnsWhen, cX0_turnsWhen, 3, (some .int), 1, 21)
theorem mo_X0_turnsWhen : MOv mX0_turnsWhen 1 := ⟨wm_468, wm_469, wm_18, wm_470, by decide +kernel, by decide +kernel, by decide +kernel⟩
def mX0_isReturned : MI := (yX0_isReturned, cX0_isReturned, 3, (some .boolean), 2, 43)
theorem mo_X0_isReturned : MOv mX0_isReturned 1 := ⟨wm_472, wm_473, wm_18, wm_474, by decide +kernel, by decide +kernel, by decide +kernel⟩
def mX0_isElected : MI := (yX0_isElected, cX0_isElected, 3, (some .boolean), 2, 43)
theorem mo_X0_isElected : MOv mX0_isElected 1 := ⟨wm_477, wm_478, wm_18, wm_479, by decide +kernel, by decide +kernel, by decide +kernel⟩
def mX0_minutesBehindWhichIn : MI := (yX0_minutesBehindWhichIn, cX0_minutesBehindWhichIn, 4, (some .int), 1, 21)
theorem mo_X0_minutesBehindWhichIn : MOv mX0_minutesBehindWhichIn 1 := ⟨wm_481, wm_482, wm_18, wm_483, by decide +kernel, by decide +kernel, by decide +kernel⟩
def mX0_whoIsIn : MI := (yX0_whoIsIn, cX0_whoIsIn, 2, (some .int), 0, 0)
theorem mo_X0_whoIsIn : MOv mX0_whoIsIn 1 := ⟨wm_485, wm_486, wm_18, wm_487, by decide +kernel, by decide +kernel, by decide +kernel⟩
def mX0_whoIsInLast : MI := (yX0_whoIsInLast, cX0_whoIsInLast, 1, (some .int), 1, 21)
theorem mo_X0_whoIsInLast : MOv mX0_whoIsInLast 0 := ⟨wm_602, wm_603, wm_18, wm_604, by decide +kernel, by decide +kernel, by decide +kernel⟩
def mX0_manyTurned : MI := (yX0_manyTurned, cX0_manyTurned, 2, (some .int), 1, 20)
theorem mo_X0_manyTurned : MOv mX0_manyTurned 0 := ⟨wm_812, wm_813, wm_18, wm_814, by decide +kernel, by decide +kernel, by decide +kernel⟩
def mX1_tellAs : MI := (yX1_tellAs, cX1_tellAs, 2, none, 1, 40)
theorem mo_X1_tellAs : MOv mX1_tellAs 1 := ⟨wm_539, wm_540, wm_44, wm_541, by decide +kernel, by decide +kernel, by decide +kernel⟩
def mX1_readCorner : MI := (yX1_readCorner, cX1_readCorner, 3, (some .int), 4, 91)
theorem mo_X1_readCorner : MOv mX1_readCorner 1 := ⟨wm_140, wm_141, wm_44, wm_142, by decide +kernel, by decide +kernel, by decide +kernel⟩
def mX1_readRows : MI := (yX1_readRows, cX1_readRows, 8, (some .int), 1, 21)
theorem mo_X1_readRows : MOv mX1_readRows 1 := ⟨wm_148, wm_149, wm_44, wm_150, by decide +kernel, by decide +kernel, by decide +kernel⟩
def mX1_addCell : MI := (yX1_addCell, cX1_addCell, 2, none, 0, 0)
theorem mo_X1_addCell : MOv mX1_addCell 1 := ⟨wm_156, wm_157, wm_44, wm_158, by decide +kernel, by decide +kernel, by decide +kernel⟩
def mX1_readGusts : MI := (yX1_readGusts, cX1_readGusts, 7, (some .int), 1, 23)
theorem mo_X1_readGusts : MOv mX1_readGusts 1 := ⟨wm_180, wm_181, wm_44, wm_182, by decide +kernel, by decide +kernel, by decide +kernel⟩
def mX1_readCandidates : MI := (yX1_readCandidates, cX1_readCandidates, 4, (some .int), 2, 46)
theorem mo_X1_readCandidates : MOv mX1_readCandidates 1 := ⟨wm_191, wm_192, wm_44, wm_193, by decide +kernel, by decide +kernel, by decide +kernel⟩
def mX1_readOfCandidate : MI := (yX1_readOfCandidate, cX1_readOfCandidate, 4, (some .boolean), 1, 23)
theorem mo_X1_readOfCandidate : MOv mX1_readOfCandidate 3 := ⟨wm_195, wm_196, wm_44, wm_197, by decide +kernel, by decide +kernel, by decide +kernel⟩
def mX1_figureOf : MI := (yX1_figureOf, cX1_figureOf, 4, (some .int), 0, 0)
theorem mo_X1_figureOf : MOs mX1_figureOf 3 := ⟨wm_188, wm_44, wm_189, by decide +kernel, by decide +kernel, by decide +kernel⟩
def mX1_wayOf : MI := (yX1_wayOf, cX1_wayOf, 1, (some .int), 0, 0)
theorem mo_X1_wayOf : MOs mX1_wayOf 1 := ⟨wm_185, wm_44, wm_186, by decide +kernel, by decide +kernel, by decide +kernel⟩
def mX1_holdOf : MI := (yX1_holdOf, cX1_holdOf, 1, (some .int), 0, 0)
theorem mo_X1_holdOf : MOs mX1_holdOf 1 := ⟨wm_199, wm_44, wm_200, by decide +kernel, by decide +kernel, by decide +kernel⟩
def mX1_isCell : MI := (yX1_isCell, cX1_isCell, 2, (some .boolean), 0, 0)
theorem mo_X1_isCell : MOv mX1_isCell 1 := ⟨wm_168, wm_169, wm_44, wm_170, by decide +kernel, by decide +kernel, by decide +kernel⟩
def mX1_isWall : MI := (yX1_isWall, cX1_isWall, 2, (some .boolean), 0, 0)
theorem mo_X1_isWall : MOv mX1_isWall 1 := ⟨wm_176, wm_177, wm_44, wm_178, by decide +kernel, by decide +kernel, by decide +kernel⟩
def mX1_beside : MI := (yX1_beside, cX1_beside, 4, (some .int), 1, 21)
theorem mo_X1_beside : MOv mX1_beside 2 := ⟨wm_164, wm_165, wm_44, wm_166, by decide +kernel, by decide +kernel, by decide +kernel⟩
def mX1_survey : MI := (yX1_survey, cX1_survey, 3, none, 3, 69)
theorem mo_X1_survey : MOv mX1_survey 0 := ⟨wm_160, wm_161, wm_44, wm_162, by decide +kernel, by decide +kernel, by decide +kernel⟩
def mX1_layOf : MI := (yX1_layOf, cX1_layOf, 6, (some .int), 2, 44)
theorem mo_X1_layOf : MOv mX1_layOf 2 := ⟨wm_172, wm_173, wm_44, wm_174, by decide +kernel, by decide +kernel, by decide +kernel⟩
def mX2_isFull : MI := (yX2_isFull, cX2_isFull, 1, (some .boolean), 0, 0)
theorem mo_X2_isFull : MOv mX2_isFull 0 := ⟨wm_127, wm_128, wm_36, wm_129, by decide +kernel, by decide +kernel, by decide +kernel⟩
def mX2_length : MI := (yX2_length, cX2_length, 1, (some .int), 0, 0)
theorem mo_X2_length : MOv mX2_length 0 := ⟨wm_144, wm_145, wm_36, wm_146, by decide +kernel, by decide +kernel, by decide +kernel⟩
def mX2_at : MI := (yX2_at, cX2_at, 2, (some .int), 0, 0)
theorem mo_X2_at : MOv mX2_at 1 := ⟨wm_152, wm_153, wm_36, wm_154, by decide +kernel, by decide +kernel, by decide +kernel⟩
def mX2_append : MI := (yX2_append, cX2_append, 2, none, 0, 0)
theorem mo_X2_append : MOv mX2_append 1 := ⟨wm_131, wm_132, wm_36, wm_133, by decide +kernel, by decide +kernel, by decide +kernel⟩
def mX2_shorten : MI := (yX2_shorten, cX2_shorten, 2, none, 1, 21)
theorem mo_X2_shorten : MOv mX2_shorten 1 := ⟨wm_270, wm_271, wm_36, wm_272, by decide +kernel, by decide +kernel, by decide +kernel⟩
def mX3_isLost : MI := (yX3_isLost, cX3_isLost, 1, (some .boolean), 0, 0)
theorem mo_X3_isLost : MOv mX3_isLost 0 := ⟨wm_668, wm_669, wm_38, wm_670, by decide +kernel, by decide +kernel, by decide +kernel⟩
def mX3_renew : MI := (yX3_renew, cX3_renew, 3, none, 1, 23)
theorem mo_X3_renew : MOv mX3_renew 2 := ⟨wm_837, wm_838, wm_38, wm_839, by decide +kernel, by decide +kernel, by decide +kernel⟩
def mX3_discard : MI := (yX3_discard, cX3_discard, 1, none, 0, 0)
theorem mo_X3_discard : MOv mX3_discard 0 := ⟨wm_852, wm_853, wm_38, wm_854, by decide +kernel, by decide +kernel, by decide +kernel⟩
def mX3_hindrance : MI := (yX3_hindrance, cX3_hindrance, 3, (some .int), 1, 20)
theorem mo_X3_hindrance : MOv mX3_hindrance 2 := ⟨wm_864, wm_865, wm_38, wm_866, by decide +kernel, by decide +kernel, by decide +kernel⟩
def mX3_hasItems : MI := (yX3_hasItems, cX3_hasItems, 3, (some .boolean), 0, 0)
theorem mo_X3_hasItems : MOv mX3_hasItems 2 := ⟨wm_902, wm_903, wm_38, wm_904, by decide +kernel, by decide +kernel, by decide +kernel⟩
def mX3_item : MI := (yX3_item, cX3_item, 2, (some .int), 0, 0)
theorem mo_X3_item : MOv mX3_item 1 := ⟨wm_676, wm_677, wm_38, wm_678, by decide +kernel, by decide +kernel, by decide +kernel⟩
def mX3_setItem : MI := (yX3_setItem, cX3_setItem, 3, none, 0, 0)
theorem mo_X3_setItem : MOv mX3_setItem 2 := ⟨wm_869, wm_870, wm_38, wm_871, by decide +kernel, by decide +kernel, by decide +kernel⟩
def mX4_isSighting : MI := (yX4_isSighting, cX4_isSighting, 3, (some .boolean), 0, 0)
theorem mo_X4_isSighting : MOv mX4_isSighting 2 := ⟨wm_635, wm_636, wm_23, wm_637, by decide +kernel, by decide +kernel, by decide +kernel⟩
def mX4_isFull : MI := (yX4_isFull, cX4_isFull, 1, (some .boolean), 0, 0)
theorem mo_X4_isFull : MOv mX4_isFull 0 := ⟨wm_639, wm_640, wm_23, wm_641, by decide +kernel, by decide +kernel, by decide +kernel⟩
def mX4_append : MI := (yX4_append, cX4_append, 3, none, 0, 0)
theorem mo_X4_append : MOv mX4_append 2 := ⟨wm_643, wm_644, wm_23, wm_645, by decide +kernel, by decide +kernel, by decide +kernel⟩
def mX4_comeOutSo : MI := (yX4_comeOutSo, cX4_comeOutSo, 4, (some .boolean), 1, 21)
theorem mo_X4_comeOutSo : MOv mX4_comeOutSo 1 := ⟨wm_705, wm_706, wm_23, wm_707, by decide +kernel, by decide +kernel, by decide +kernel⟩
def mX5_type : MI := (yX5_type, cX5_type, 3, (some .int), 6, 134)
theorem mo_X5_type : MOv mX5_type 2 := ⟨wm_120, wm_121, wm_2, wm_122, by decide +kernel, by decide +kernel, by decide +kernel⟩
def mX5_wipe : MI := (yX5_wipe, cX5_wipe, 3, (some .int), 6, 134)
theorem mo_X5_wipe : MOv mX5_wipe 1 := ⟨wm_266, wm_267, wm_2, wm_268, by decide +kernel, by decide +kernel, by decide +kernel⟩
def mX5_undo : MI := (yX5_undo, cX5_undo, 2, (some .int), 6, 134)
theorem mo_X5_undo : MOv mX5_undo 1 := ⟨wm_279, wm_280, wm_2, wm_281, by decide +kernel, by decide +kernel, by decide +kernel⟩
def mX5_fault : MI := (yX5_fault, cX5_fault, 2, (some .int), 1, 20)
theorem mo_X5_fault : MOv mX5_fault 1 := ⟨wm_287, wm_288, wm_2, wm_289, by decide +kernel, by decide +kernel, by decide +kernel⟩
def mX5_cell : MI := (yX5_cell, cX5_cell, 2, (some .int), 1, 21)
theorem mo_X5_cell : MOv mX5_cell 1 := ⟨wm_330, wm_331, wm_2, wm_332, by decide +kernel, by decide +kernel, by decide +kernel⟩
def mX5_gust : MI := (yX5_gust, cX5_gust, 3, (some .int), 1, 21)
theorem mo_X5_gust : MOv mX5_gust 2 := ⟨wm_348, wm_349, wm_2, wm_350, by decide +kernel, by decide +kernel, by decide +kernel⟩
def mX5_candidate : MI := (yX5_candidate, cX5_candidate, 3, (some .int), 2, 42)
theorem mo_X5_candidate : MOv mX5_candidate 2 := ⟨wm_367, wm_368, wm_2, wm_369, by decide +kernel, by decide +kernel, by decide +kernel⟩
def mX5_wind : MI := (yX5_wind, cX5_wind, 3, (some .int), 1, 27)
theorem mo_X5_wind : MOv mX5_wind 2 := ⟨wm_399, wm_400, wm_2, wm_401, by decide +kernel, by decide +kernel, by decide +kernel⟩
def mX5_ribs : MI := (yX5_ribs, cX5_ribs, 3, (some .int), 1, 23)
theorem mo_X5_ribs : MOv mX5_ribs 2 := ⟨wm_448, wm_449, wm_2, wm_450, by decide +kernel, by decide +kernel, by decide +kernel⟩
def mX5_overturns : MI := (yX5_overturns, cX5_overturns, 3, (some .int), 3, 65)
theorem mo_X5_overturns : MOv mX5_overturns 2 := ⟨wm_464, wm_465, wm_2, wm_466, by decide +kernel, by decide +kernel, by decide +kernel⟩
def mX5_in : MI := (yX5_in, cX5_in, 2, (some .int), 1, 21)
theorem mo_X5_in : MOv mX5_in 1 := ⟨wm_497, wm_498, wm_2, wm_499, by decide +kernel, by decide +kernel, by decide +kernel⟩
def mX5_first : MI := (yX5_first, cX5_first, 4, (some .int), 1, 21)
theorem mo_X5_first : MOv mX5_first 1 := ⟨wm_510, wm_511, wm_2, wm_512, by decide +kernel, by decide +kernel, by decide +kernel⟩
def mX5_lulls : MI := (yX5_lulls, cX5_lulls, 1, (some .int), 2, 44)
theorem mo_X5_lulls : MOv mX5_lulls 0 := ⟨wm_522, wm_523, wm_2, wm_524, by decide +kernel, by decide +kernel, by decide +kernel⟩
def mX5_stand : MI := (yX5_stand, cX5_stand, 7, (some .int), 3, 79)
theorem mo_X5_stand : MOv mX5_stand 2 := ⟨wm_534, wm_535, wm_2, wm_536, by decide +kernel, by decide +kernel, by decide +kernel⟩
def mX5_shield : MI := (yX5_shield, cX5_shield, 4, (some .int), 4, 102)
theorem mo_X5_shield : MOv mX5_shield 1 := ⟨wm_567, wm_568, wm_2, wm_569, by decide +kernel, by decide +kernel, by decide +kernel⟩
def mX5_move : MI := (yX5_move, cX5_move, 6, (some .int), 5, 122)
theorem mo_X5_move : MOv mX5_move 1 := ⟨wm_591, wm_592, wm_2, wm_593, by decide +kernel, by decide +kernel, by decide +kernel⟩
def mX5_bribe : MI := (yX5_bribe, cX5_bribe, 4, (some .int), 4, 99)
theorem mo_X5_bribe : MOv mX5_bribe 1 := ⟨wm_618, wm_619, wm_2, wm_620, by decide +kernel, by decide +kernel, by decide +kernel⟩
def mX5_placeToShield : MI := (yX5_placeToShield, cX5_placeToShield, 4, (some .int), 3, 79)
theorem mo_X5_placeToShield : MOv mX5_placeToShield 2 := ⟨wm_571, wm_572, wm_2, wm_573, by decide +kernel, by decide +kernel, by decide +kernel⟩
def mX5_movesAnotherIn : MI := (yX5_movesAnotherIn, cX5_movesAnotherIn, 4, (some .boolean), 4, 99)
theorem mo_X5_movesAnotherIn : MOv mX5_movesAnotherIn 2 := ⟨wm_595, wm_596, wm_2, wm_597, by decide +kernel, by decide +kernel, by decide +kernel⟩
def mX5_seen : MI := (yX5_seen, cX5_seen, 3, (some .int), 1, 22)
theorem mo_X5_seen : MOv mX5_seen 2 := ⟨wm_630, wm_631, wm_2, wm_632, by decide +kernel, by decide +kernel, by decide +kernel⟩
def mX5_forget : MI := (yX5_forget, cX5_forget, 2, (some .int), 0, 0)
theorem mo_X5_forget : MOv mX5_forget 0 := ⟨wm_652, wm_653, wm_2, wm_654, by decide +kernel, by decide +kernel, by decide +kernel⟩
def mX5_read : MI := (yX5_read, cX5_read, 4, (some .int), 2, 44)
theorem mo_X5_read : MOv mX5_read 1 := ⟨wm_660, wm_661, wm_2, wm_662, by decide +kernel, by decide +kernel, by decide +kernel⟩
def mX5_blew : MI := (yX5_blew, cX5_blew, 5, (some .int), 4, 101)
theorem mo_X5_blew : MOv mX5_blew 2 := ⟨wm_694, wm_695, wm_2, wm_696, by decide +kernel, by decide +kernel, by decide +kernel⟩
def mX5_had : MI := (yX5_had, cX5_had, 4, (some .int), 4, 99)
theorem mo_X5_had : MOv mX5_had 1 := ⟨wm_732, wm_733, wm_2, wm_734, by decide +kernel, by decide +kernel, by decide +kernel⟩
def mX5_ask : MI := (yX5_ask, cX5_ask, 4, (some .int), 4, 101)
theorem mo_X5_ask : MOv mX5_ask 1 := ⟨wm_744, wm_745, wm_2, wm_746, by decide +kernel, by decide +kernel, by decide +kernel⟩
def mX5_calm : MI := (yX5_calm, cX5_calm, 7, (some .long), 3, 87)
theorem mo_X5_calm : MOv mX5_calm 3 := ⟨wm_761, wm_762, wm_2, wm_763, by decide +kernel, by decide +kernel, by decide +kernel⟩
def mX5_weather : MI := (yX5_weather, cX5_weather, 6, (some .int), 4, 99)
theorem mo_X5_weather : MOv mX5_weather 3 := ⟨wm_804, wm_805, wm_2, wm_806, by decide +kernel, by decide +kernel, by decide +kernel⟩
def mX5_nextLots : MI := (yX5_nextLots, cX5_nextLots, 1, (some .int), 0, 0)
theorem mo_X5_nextLots : MOs mX5_nextLots 1 := ⟨wm_808, wm_2, wm_809, by decide +kernel, by decide +kernel, by decide +kernel⟩
def mX5_inquire : MI := (yX5_inquire, cX5_inquire, 3, none, 3, 79)
theorem mo_X5_inquire : MOv mX5_inquire 1 := ⟨wm_698, wm_699, wm_2, wm_700, by decide +kernel, by decide +kernel, by decide +kernel⟩
def mX5_tallyTrial : MI := (yX5_tallyTrial, cX5_tallyTrial, 4, none, 1, 21)
theorem mo_X5_tallyTrial : MOv mX5_tallyTrial 0 := ⟨wm_712, wm_713, wm_2, wm_714, by decide +kernel, by decide +kernel, by decide +kernel⟩
def mX5_greatestTally : MI := (yX5_greatestTally, cX5_greatestTally, 4, (some .int), 1, 21)
theorem mo_X5_greatestTally : MOv mX5_greatestTally 1 := ⟨wm_748, wm_749, wm_2, wm_750, by decide +kernel, by decide +kernel, by decide +kernel⟩
def mX5_weighCalms : MI := (yX5_weighCalms, cX5_weighCalms, 7, none, 2, 61)
theorem mo_X5_weighCalms : MOv mX5_weighCalms 1 := ⟨wm_766, wm_767, wm_2, wm_768, by decide +kernel, by decide +kernel, by decide +kernel⟩
def mX5_lowestBit : MI := (yX5_lowestBit, cX5_lowestBit, 1, (some .int), 1, 20)
theorem mo_X5_lowestBit : MOs mX5_lowestBit 1 := ⟨wm_774, wm_2, wm_775, by decide +kernel, by decide +kernel, by decide +kernel⟩
def mX5_sheet : MI := (yX5_sheet, cX5_sheet, 4, (some .int), 2, 45)
theorem mo_X5_sheet : MOv mX5_sheet 3 := ⟨wm_830, wm_831, wm_2, wm_832, by decide +kernel, by decide +kernel, by decide +kernel⟩
def mX5_lose : MI := (yX5_lose, cX5_lose, 3, (some .int), 1, 21)
theorem mo_X5_lose : MOv mX5_lose 1 := ⟨wm_848, wm_849, wm_2, wm_850, by decide +kernel, by decide +kernel, by decide +kernel⟩
def mX5_put : MI := (yX5_put, cX5_put, 6, (some .int), 2, 42)
theorem mo_X5_put : MOv mX5_put 4 := ⟨wm_860, wm_861, wm_2, wm_862, by decide +kernel, by decide +kernel, by decide +kernel⟩
def mX5_get : MI := (yX5_get, cX5_get, 5, (some .int), 2, 42)
theorem mo_X5_get : MOv mX5_get 3 := ⟨wm_885, wm_886, wm_2, wm_887, by decide +kernel, by decide +kernel, by decide +kernel⟩
def mX5_copy : MI := (yX5_copy, cX5_copy, 6, (some .int), 1, 40)
theorem mo_X5_copy : MOv mX5_copy 5 := ⟨wm_895, wm_896, wm_2, wm_897, by decide +kernel, by decide +kernel, by decide +kernel⟩
def mX5_write : MI := (yX5_write, cX5_write, 5, (some .int), 1, 27)
theorem mo_X5_write : MOv mX5_write 2 := ⟨wm_910, wm_911, wm_2, wm_912, by decide +kernel, by decide +kernel, by decide +kernel⟩
def mX5_count : MI := (yX5_count, cX5_count, 2, (some .int), 2, 41)
theorem mo_X5_count : MOv mX5_count 1 := ⟨wm_918, wm_919, wm_2, wm_920, by decide +kernel, by decide +kernel, by decide +kernel⟩
def mX5_digest : MI := (yX5_digest, cX5_digest, 4, (some .long), 6, 151)
theorem mo_X5_digest : MOv mX5_digest 0 := ⟨wm_930, wm_931, wm_2, wm_932, by decide +kernel, by decide +kernel, by decide +kernel⟩
def mX5_digestMinute : MI := (yX5_digestMinute, cX5_digestMinute, 7, (some .long), 5, 125)
theorem mo_X5_digestMinute : MOv mX5_digestMinute 2 := ⟨wm_939, wm_940, wm_2, wm_941, by decide +kernel, by decide +kernel, by decide +kernel⟩
def mX5_digestCandidate : MI := (yX5_digestCandidate, cX5_digestCandidate, 7, (some .long), 5, 125)
theorem mo_X5_digestCandidate : MOv mX5_digestCandidate 2 := ⟨wm_949, wm_950, wm_2, wm_951, by decide +kernel, by decide +kernel, by decide +kernel⟩
def mX5_isText : MI := (yX5_isText, cX5_isText, 1, (some .boolean), 0, 0)
theorem mo_X5_isText : MOs mX5_isText 1 := ⟨wm_124, wm_2, wm_125, by decide +kernel, by decide +kernel, by decide +kernel⟩
def mX5_isSheet : MI := (yX5_isSheet, cX5_isSheet, 1, (some .boolean), 0, 0)
theorem mo_X5_isSheet : MOs mX5_isSheet 1 := ⟨wm_665, wm_2, wm_666, by decide +kernel, by decide +kernel, by decide +kernel⟩
def mX5_isForm : MI := (yX5_isForm, cX5_isForm, 1, (some .boolean), 0, 0)
theorem mo_X5_isForm : MOs mX5_isForm 1 := ⟨wm_834, wm_2, wm_835, by decide +kernel, by decide +kernel, by decide +kernel⟩
def mX5_isMinute : MI := (yX5_isMinute, cX5_isMinute, 2, (some .boolean), 0, 0)
theorem mo_X5_isMinute : MOv mX5_isMinute 1 := ⟨wm_354, wm_355, wm_2, wm_356, by decide +kernel, by decide +kernel, by decide +kernel⟩
def mX5_isCandidate : MI := (yX5_isCandidate, cX5_isCandidate, 2, (some .boolean), 0, 0)
theorem mo_X5_isCandidate : MOv mX5_isCandidate 1 := ⟨wm_374, wm_375, wm_2, wm_376, by decide +kernel, by decide +kernel, by decide +kernel⟩
def mX5_finding : MI := (yX5_finding, cX5_finding, 2, (some .int), 0, 0)
theorem mo_X5_finding : MOv mX5_finding 1 := ⟨wm_672, wm_673, wm_2, wm_674, by decide +kernel, by decide +kernel, by decide +kernel⟩
def mX5_retell : MI := (yX5_retell, cX5_retell, 2, none, 5, 113)
theorem mo_X5_retell : MOv mX5_retell 1 := ⟨wm_135, wm_136, wm_2, wm_137, by decide +kernel, by decide +kernel, by decide +kernel⟩
def mX6_within : MI := (yX6_within, cX6_within, 3, (some .boolean), 0, 0)
theorem mo_X6_within : MOs mX6_within 3 := ⟨wm_263, wm_5, wm_264, by decide +kernel, by decide +kernel, by decide +kernel⟩
def mX6_isIn : MI := (yX6_isIn, cX6_isIn, 2, (some .boolean), 0, 0)
theorem mo_X6_isIn : MOs mX6_isIn 2 := ⟨wm_794, wm_5, wm_795, by decide +kernel, by decide +kernel, by decide +kernel⟩
def mX6_no : MI := (yX6_no, cX6_no, 1, (some .long), 0, 0)
theorem mo_X6_no : MOs mX6_no 1 := ⟨wm_800, wm_5, wm_801, by decide +kernel, by decide +kernel, by decide +kernel⟩
def mX6_lowest : MI := (yX6_lowest, cX6_lowest, 11, (some .long), 0, 0)
theorem mo_X6_lowest : MOs mX6_lowest 3 := ⟨wm_797, wm_5, wm_798, by decide +kernel, by decide +kernel, by decide +kernel⟩
def mX6_isText : MI := (yX6_isText, cX6_isText, 1, (some .boolean), 1, 22)
theorem mo_X6_isText : MOs mX6_isText 1 := ⟨wm_260, wm_5, wm_261, by decide +kernel, by decide +kernel, by decide +kernel⟩
def mX6_type : MI := (yX6_type, cX6_type, 3, (some .int), 2, 42)
theorem mo_X6_type : MOv mX6_type 2 := ⟨wm_256, wm_257, wm_5, wm_258, by decide +kernel, by decide +kernel, by decide +kernel⟩
def mX6_wipe : MI := (yX6_wipe, cX6_wipe, 3, (some .int), 2, 42)
theorem mo_X6_wipe : MOv mX6_wipe 1 := ⟨wm_275, wm_276, wm_5, wm_277, by decide +kernel, by decide +kernel, by decide +kernel⟩
def mX6_undo : MI := (yX6_undo, cX6_undo, 2, (some .int), 2, 42)
theorem mo_X6_undo : MOv mX6_undo 1 := ⟨wm_283, wm_284, wm_5, wm_285, by decide +kernel, by decide +kernel, by decide +kernel⟩
def mX6_byteAt : MI := (yX6_byteAt, cX6_byteAt, 3, (some .int), 0, 0)
theorem mo_X6_byteAt : MOv mX6_byteAt 2 := ⟨wm_305, wm_306, wm_5, wm_307, by decide +kernel, by decide +kernel, by decide +kernel⟩
def mX6_figureAt : MI := (yX6_figureAt, cX6_figureAt, 6, (some .int), 1, 22)
theorem mo_X6_figureAt : MOv mX6_figureAt 4 := ⟨wm_317, wm_318, wm_5, wm_319, by decide +kernel, by decide +kernel, by decide +kernel⟩
def mX6_readsCorner : MI := (yX6_readsCorner, cX6_readsCorner, 7, (some .int), 1, 22)
theorem mo_X6_readsCorner : MOv mX6_readsCorner 0 := ⟨wm_299, wm_300, wm_5, wm_301, by decide +kernel, by decide +kernel, by decide +kernel⟩
def mX6_wayOf : MI := (yX6_wayOf, cX6_wayOf, 1, (some .int), 0, 0)
theorem mo_X6_wayOf : MOs mX6_wayOf 1 := ⟨wm_314, wm_5, wm_315, by decide +kernel, by decide +kernel, by decide +kernel⟩
def mX6_readsGusts : MI := (yX6_readsGusts, cX6_readsGusts, 4, (some .int), 2, 47)
theorem mo_X6_readsGusts : MOv mX6_readsGusts 0 := ⟨wm_309, wm_310, wm_5, wm_311, by decide +kernel, by decide +kernel, by decide +kernel⟩
def mX6_readsCandidate : MI := (yX6_readsCandidate, cX6_readsCandidate, 8, (some .int), 2, 47)
theorem mo_X6_readsCandidate : MOv mX6_readsCandidate 2 := ⟨wm_326, wm_327, wm_5, wm_328, by decide +kernel, by decide +kernel, by decide +kernel⟩
def mX6_readsCandidates : MI := (yX6_readsCandidates, cX6_readsCandidates, 4, (some .int), 3, 74)
theorem mo_X6_readsCandidates : MOv mX6_readsCandidates 0 := ⟨wm_321, wm_322, wm_5, wm_323, by decide +kernel, by decide +kernel, by decide +kernel⟩
def mX6_faultOf : MI := (yX6_faultOf, cX6_faultOf, 5, (some .int), 4, 97)
theorem mo_X6_faultOf : MOv mX6_faultOf 1 := ⟨wm_295, wm_296, wm_5, wm_297, by decide +kernel, by decide +kernel, by decide +kernel⟩
def mX6_reads : MI := (yX6_reads, cX6_reads, 2, none, 5, 121)
theorem mo_X6_reads : MOv mX6_reads 0 := ⟨wm_344, wm_345, wm_5, wm_346, by decide +kernel, by decide +kernel, by decide +kernel⟩
def mX6_fault : MI := (yX6_fault, cX6_fault, 2, (some .int), 5, 121)
theorem mo_X6_fault : MOv mX6_fault 1 := ⟨wm_291, wm_292, wm_5, wm_293, by decide +kernel, by decide +kernel, by decide +kernel⟩
def mX6_isMinute : MI := (yX6_isMinute, cX6_isMinute, 2, (some .boolean), 6, 142)
theorem mo_X6_isMinute : MOv mX6_isMinute 1 := ⟨wm_363, wm_364, wm_5, wm_365, by decide +kernel, by decide +kernel, by decide +kernel⟩
def mX6_isCell : MI := (yX6_isCell, cX6_isCell, 2, (some .boolean), 6, 142)
theorem mo_X6_isCell : MOv mX6_isCell 1 := ⟨wm_340, wm_341, wm_5, wm_342, by decide +kernel, by decide +kernel, by decide +kernel⟩
def mX6_isCandidate : MI := (yX6_isCandidate, cX6_isCandidate, 2, (some .boolean), 6, 142)
theorem mo_X6_isCandidate : MOv mX6_isCandidate 1 := ⟨wm_387, wm_388, wm_5, wm_389, by decide +kernel, by decide +kernel, by decide +kernel⟩
def mX6_cell : MI := (yX6_cell, cX6_cell, 2, (some .int), 7, 163)
theorem mo_X6_cell : MOv mX6_cell 1 := ⟨wm_336, wm_337, wm_5, wm_338, by decide +kernel, by decide +kernel, by decide +kernel⟩
def mX6_gust : MI := (yX6_gust, cX6_gust, 3, (some .int), 7, 163)
theorem mo_X6_gust : MOv mX6_gust 2 := ⟨wm_359, wm_360, wm_5, wm_361, by decide +kernel, by decide +kernel, by decide +kernel⟩
def mX6_isSomewhere : MI := (yX6_isSomewhere, cX6_isSomewhere, 2, (some .boolean), 0, 0)
theorem mo_X6_isSomewhere : MOv mX6_isSomewhere 1 := ⟨wm_395, wm_396, wm_5, wm_397, by decide +kernel, by decide +kernel, by decide +kernel⟩
def mX6_candidateOf : MI := (yX6_candidateOf, cX6_candidateOf, 3, (some .int), 1, 21)
theorem mo_X6_candidateOf : MOv mX6_candidateOf 2 := ⟨wm_391, wm_392, wm_5, wm_393, by decide +kernel, by decide +kernel, by decide +kernel⟩
def mX6_candidate : MI := (yX6_candidate, cX6_candidate, 3, (some .int), 7, 163)
theorem mo_X6_candidate : MOv mX6_candidate 2 := ⟨wm_383, wm_384, wm_5, wm_385, by decide +kernel, by decide +kernel, by decide +kernel⟩
def mX6_beside : MI := (yX6_beside, cX6_beside, 4, (some .int), 1, 22)
theorem mo_X6_beside : MOv mX6_beside 2 := ⟨wm_428, wm_429, wm_5, wm_430, by decide +kernel, by decide +kernel, by decide +kernel⟩
def mX6_isWallAt : MI := (yX6_isWallAt, cX6_isWallAt, 2, (some .boolean), 0, 0)
theorem mo_X6_isWallAt : MOv mX6_isWallAt 1 := ⟨wm_432, wm_433, wm_5, wm_434, by decide +kernel, by decide +kernel, by decide +kernel⟩
def mX6_isLee : MI := (yX6_isLee, cX6_isLee, 5, (some .boolean), 0, 0)
theorem mo_X6_isLee : MOv mX6_isLee 2 := ⟨wm_436, wm_437, wm_5, wm_438, by decide +kernel, by decide +kernel, by decide +kernel⟩
def mX6_windNow : MI := (yX6_windNow, cX6_windNow, 8, (some .int), 2, 45)
theorem mo_X6_windNow : MOv mX6_windNow 2 := ⟨wm_424, wm_425, wm_5, wm_426, by decide +kernel, by decide +kernel, by decide +kernel⟩
def mX6_strain : MI := (yX6_strain, cX6_strain, 3, (some .int), 0, 0)
theorem mo_X6_strain : MOv mX6_strain 2 := ⟨wm_440, wm_441, wm_5, wm_442, by decide +kernel, by decide +kernel, by decide +kernel⟩
def mX6_elects : MI := (yX6_elects, cX6_elects, 5, none, 3, 72)
theorem mo_X6_elects : MOv mX6_elects 1 := ⟨wm_444, wm_445, wm_5, wm_446, by decide +kernel, by decide +kernel, by decide +kernel⟩
def mX6_goesBy : MI := (yX6_goesBy, cX6_goesBy, 5, none, 4, 96)
theorem mo_X6_goesBy : MOv mX6_goesBy 1 := ⟨wm_420, wm_421, wm_5, wm_422, by decide +kernel, by decide +kernel, by decide +kernel⟩
def mX6_runs : MI := (yX6_runs, cX6_runs, 2, none, 5, 120)
theorem mo_X6_runs : MOv mX6_runs 0 := ⟨wm_416, wm_417, wm_5, wm_418, by decide +kernel, by decide +kernel, by decide +kernel⟩
def mX6_runsTold : MI := (yX6_runsTold, cX6_runsTold, 1, none, 6, 142)
theorem mo_X6_runsTold : MOv mX6_runsTold 0 := ⟨wm_412, wm_413, wm_5, wm_414, by decide +kernel, by decide +kernel, by decide +kernel⟩
def mX6_windOf : MI := (yX6_windOf, cX6_windOf, 3, (some .int), 7, 162)
theorem mo_X6_windOf : MOv mX6_windOf 2 := ⟨wm_408, wm_409, wm_5, wm_410, by decide +kernel, by decide +kernel, by decide +kernel⟩
def mX6_wind : MI := (yX6_wind, cX6_wind, 3, (some .int), 8, 184)
theorem mo_X6_wind : MOv mX6_wind 2 := ⟨wm_404, wm_405, wm_5, wm_406, by decide +kernel, by decide +kernel, by decide +kernel⟩
def mX6_ribsOf : MI := (yX6_ribsOf, cX6_ribsOf, 3, (some .int), 7, 162)
theorem mo_X6_ribsOf : MOv mX6_ribsOf 2 := ⟨wm_460, wm_461, wm_5, wm_462, by decide +kernel, by decide +kernel, by decide +kernel⟩
def mX6_ribs : MI := (yX6_ribs, cX6_ribs, 3, (some .int), 8, 184)
theorem mo_X6_ribs : MOv mX6_ribs 2 := ⟨wm_456, wm_457, wm_5, wm_458, by decide +kernel, by decide +kernel, by decide +kernel⟩
def mX6_turnsOf : MI := (yX6_turnsOf, cX6_turnsOf, 5, (some .int), 7, 162)
theorem mo_X6_turnsOf : MOv mX6_turnsOf 2 := ⟨wm_493, wm_494, wm_5, wm_495, by decide +kernel, by decide +kernel, by decide +kernel⟩
def mX6_overturns : MI := (yX6_overturns, cX6_overturns, 3, (some .int), 8, 186)
theorem mo_X6_overturns : MOv mX6_overturns 2 := ⟨wm_489, wm_490, wm_5, wm_491, by decide +kernel, by decide +kernel, by decide +kernel⟩
def mX6_inOf : MI := (yX6_inOf, cX6_inOf, 2, (some .int), 7, 162)
theorem mo_X6_inOf : MOv mX6_inOf 1 := ⟨wm_506, wm_507, wm_5, wm_508, by decide +kernel, by decide +kernel, by decide +kernel⟩
def mX6_in : MI := (yX6_in, cX6_in, 2, (some .int), 8, 183)
theorem mo_X6_in : MOv mX6_in 1 := ⟨wm_502, wm_503, wm_5, wm_504, by decide +kernel, by decide +kernel, by decide +kernel⟩
def mX6_firstOf : MI := (yX6_firstOf, cX6_firstOf, 3, (some .int), 7, 162)
theorem mo_X6_firstOf : MOv mX6_firstOf 1 := ⟨wm_518, wm_519, wm_5, wm_520, by decide +kernel, by decide +kernel, by decide +kernel⟩
def mX6_first : MI := (yX6_first, cX6_first, 2, (some .int), 8, 184)
theorem mo_X6_first : MOv mX6_first 1 := ⟨wm_514, wm_515, wm_5, wm_516, by decide +kernel, by decide +kernel, by decide +kernel⟩
def mX6_lullsNow : MI := (yX6_lullsNow, cX6_lullsNow, 3, (some .int), 7, 162)
theorem mo_X6_lullsNow : MOv mX6_lullsNow 0 := ⟨wm_530, wm_531, wm_5, wm_532, by decide +kernel, by decide +kernel, by decide +kernel⟩
def mX6_lulls : MI := (yX6_lulls, cX6_lulls, 1, (some .int), 8, 184)
theorem mo_X6_lulls : MOv mX6_lulls 0 := ⟨wm_526, wm_527, wm_5, wm_528, by decide +kernel, by decide +kernel, by decide +kernel⟩
def mX6_isTaken : MI := (yX6_isTaken, cX6_isTaken, 5, (some .boolean), 0, 0)
theorem mo_X6_isTaken : MOv mX6_isTaken 2 := ⟨wm_563, wm_564, wm_5, wm_565, by decide +kernel, by decide +kernel, by decide +kernel⟩
def mX6_standOf : MI := (yX6_standOf, cX6_standOf, 8, (some .int), 6, 142)
theorem mo_X6_standOf : MOv mX6_standOf 2 := ⟨wm_559, wm_560, wm_5, wm_561, by decide +kernel, by decide +kernel, by decide +kernel⟩
def mX6_stand : MI := (yX6_stand, cX6_stand, 3, (some .int), 7, 169)
theorem mo_X6_stand : MOv mX6_stand 2 := ⟨wm_555, wm_556, wm_5, wm_557, by decide +kernel, by decide +kernel, by decide +kernel⟩
def mX6_doesStay : MI := (yX6_doesStay, cX6_doesStay, 5, (some .boolean), 6, 141)
theorem mo_X6_doesStay : MOv mX6_doesStay 3 := ⟨wm_587, wm_588, wm_5, wm_589, by decide +kernel, by decide +kernel, by decide +kernel⟩
def mX6_shieldOf : MI := (yX6_shieldOf, cX6_shieldOf, 4, (some .int), 7, 165)
theorem mo_X6_shieldOf : MOv mX6_shieldOf 1 := ⟨wm_583, wm_584, wm_5, wm_585, by decide +kernel, by decide +kernel, by decide +kernel⟩
def mX6_shield : MI := (yX6_shield, cX6_shield, 2, (some .int), 8, 188)
theorem mo_X6_shield : MOv mX6_shield 1 := ⟨wm_579, wm_580, wm_5, wm_581, by decide +kernel, by decide +kernel, by decide +kernel⟩
def mX6_lastIn : MI := (yX6_lastIn, cX6_lastIn, 1, (some .int), 0, 0)
theorem mo_X6_lastIn : MOv mX6_lastIn 0 := ⟨wm_614, wm_615, wm_5, wm_616, by decide +kernel, by decide +kernel, by decide +kernel⟩
def mX6_moveOf : MI := (yX6_moveOf, cX6_moveOf, 9, (some .int), 7, 162)
theorem mo_X6_moveOf : MOv mX6_moveOf 1 := ⟨wm_610, wm_611, wm_5, wm_612, by decide +kernel, by decide +kernel, by decide +kernel⟩
def mX6_move : MI := (yX6_move, cX6_move, 2, (some .int), 8, 190)
theorem mo_X6_move : MOv mX6_move 1 := ⟨wm_606, wm_607, wm_5, wm_608, by decide +kernel, by decide +kernel, by decide +kernel⟩
def mX6_bribeOf : MI := (yX6_bribeOf, cX6_bribeOf, 5, (some .int), 6, 142)
theorem mo_X6_bribeOf : MOv mX6_bribeOf 1 := ⟨wm_626, wm_627, wm_5, wm_628, by decide +kernel, by decide +kernel, by decide +kernel⟩
def mX6_bribe : MI := (yX6_bribe, cX6_bribe, 2, (some .int), 7, 166)
theorem mo_X6_bribe : MOv mX6_bribe 1 := ⟨wm_622, wm_623, wm_5, wm_624, by decide +kernel, by decide +kernel, by decide +kernel⟩
def mX6_seen : MI := (yX6_seen, cX6_seen, 3, (some .int), 1, 22)
theorem mo_X6_seen : MOv mX6_seen 2 := ⟨wm_647, wm_648, wm_5, wm_649, by decide +kernel, by decide +kernel, by decide +kernel⟩
def mX6_forget : MI := (yX6_forget, cX6_forget, 2, (some .int), 0, 0)
theorem mo_X6_forget : MOv mX6_forget 0 := ⟨wm_656, wm_657, wm_5, wm_658, by decide +kernel, by decide +kernel, by decide +kernel⟩
def mX6_read : MI := (yX6_read, cX6_read, 3, (some .int), 2, 44)
theorem mo_X6_read : MOv mX6_read 1 := ⟨wm_681, wm_682, wm_5, wm_683, by decide +kernel, by decide +kernel, by decide +kernel⟩
def mX6_isSeen : MI := (yX6_isSeen, cX6_isSeen, 4, (some .boolean), 6, 141)
theorem mo_X6_isSeen : MOv mX6_isSeen 0 := ⟨wm_728, wm_729, wm_5, wm_730, by decide +kernel, by decide +kernel, by decide +kernel⟩
def mX6_blows : MI := (yX6_blows, cX6_blows, 7, (some .int), 7, 164)
theorem mo_X6_blows : MOv mX6_blows 1 := ⟨wm_724, wm_725, wm_5, wm_726, by decide +kernel, by decide +kernel, by decide +kernel⟩
def mX6_blewOf : MI := (yX6_blewOf, cX6_blewOf, 6, (some .int), 8, 190)
theorem mo_X6_blewOf : MOv mX6_blewOf 2 := ⟨wm_720, wm_721, wm_5, wm_722, by decide +kernel, by decide +kernel, by decide +kernel⟩
def mX6_blew : MI := (yX6_blew, cX6_blew, 3, (some .int), 9, 215)
theorem mo_X6_blew : MOv mX6_blew 2 := ⟨wm_716, wm_717, wm_5, wm_718, by decide +kernel, by decide +kernel, by decide +kernel⟩
def mX6_hadOf : MI := (yX6_hadOf, cX6_hadOf, 5, (some .int), 7, 164)
theorem mo_X6_hadOf : MOv mX6_hadOf 1 := ⟨wm_740, wm_741, wm_5, wm_742, by decide +kernel, by decide +kernel, by decide +kernel⟩
def mX6_had : MI := (yX6_had, cX6_had, 2, (some .int), 8, 188)
theorem mo_X6_had : MOv mX6_had 1 := ⟨wm_736, wm_737, wm_5, wm_738, by decide +kernel, by decide +kernel, by decide +kernel⟩
def mX6_askOf : MI := (yX6_askOf, cX6_askOf, 10, (some .int), 8, 190)
theorem mo_X6_askOf : MOv mX6_askOf 1 := ⟨wm_757, wm_758, wm_5, wm_759, by decide +kernel, by decide +kernel, by decide +kernel⟩
def mX6_ask : MI := (yX6_ask, cX6_ask, 2, (some .int), 9, 219)
theorem mo_X6_ask : MOv mX6_ask 1 := ⟨wm_753, wm_754, wm_5, wm_755, by decide +kernel, by decide +kernel, by decide +kernel⟩
def mX6_calmOf : MI := (yX6_calmOf, cX6_calmOf, 10, (some .long), 6, 142)
theorem mo_X6_calmOf : MOv mX6_calmOf 3 := ⟨wm_790, wm_791, wm_5, wm_792, by decide +kernel, by decide +kernel, by decide +kernel⟩
def mX6_calm : MI := (yX6_calm, cX6_calm, 4, (some .long), 7, 171)
theorem mo_X6_calm : MOv mX6_calm 3 := ⟨wm_786, wm_787, wm_5, wm_788, by decide +kernel, by decide +kernel, by decide +kernel⟩
def mX6_turnedNow : MI := (yX6_turnedNow, cX6_turnedNow, 3, (some .int), 0, 0)
theorem mo_X6_turnedNow : MOv mX6_turnedNow 0 := ⟨wm_826, wm_827, wm_5, wm_828, by decide +kernel, by decide +kernel, by decide +kernel⟩
def mX6_weatherOf : MI := (yX6_weatherOf, cX6_weatherOf, 6, (some .int), 6, 142)
theorem mo_X6_weatherOf : MOv mX6_weatherOf 3 := ⟨wm_821, wm_822, wm_5, wm_823, by decide +kernel, by decide +kernel, by decide +kernel⟩
def mX6_weather : MI := (yX6_weather, cX6_weather, 4, (some .int), 7, 167)
theorem mo_X6_weather : MOv mX6_weather 3 := ⟨wm_817, wm_818, wm_5, wm_819, by decide +kernel, by decide +kernel, by decide +kernel⟩
def mX6_meets : MI := (yX6_meets, cX6_meets, 2, (some .int), 0, 0)
theorem mo_X6_meets : MOv mX6_meets 1 := ⟨wm_688, wm_689, wm_5, wm_690, by decide +kernel, by decide +kernel, by decide +kernel⟩
def mX6_isSheet : MI := (yX6_isSheet, cX6_isSheet, 1, (some .boolean), 1, 22)
theorem mo_X6_isSheet : MOs mX6_isSheet 1 := ⟨wm_685, wm_5, wm_686, by decide +kernel, by decide +kernel, by decide +kernel⟩
def mX6_sheet : MI := (yX6_sheet, cX6_sheet, 5, (some .int), 2, 42)
theorem mo_X6_sheet : MOv mX6_sheet 3 := ⟨wm_844, wm_845, wm_5, wm_846, by decide +kernel, by decide +kernel, by decide +kernel⟩
def mX6_lose : MI := (yX6_lose, cX6_lose, 2, (some .int), 2, 42)
theorem mo_X6_lose : MOv mX6_lose 1 := ⟨wm_856, wm_857, wm_5, wm_858, by decide +kernel, by decide +kernel, by decide +kernel⟩
def mX6_lacks : MI := (yX6_lacks, cX6_lacks, 4, (some .int), 1, 22)
theorem mo_X6_lacks : MOv mX6_lacks 3 := ⟨wm_877, wm_878, wm_5, wm_879, by decide +kernel, by decide +kernel, by decide +kernel⟩
def mX6_keep : MI := (yX6_keep, cX6_keep, 4, none, 0, 0)
theorem mo_X6_keep : MOv mX6_keep 3 := ⟨wm_881, wm_882, wm_5, wm_883, by decide +kernel, by decide +kernel, by decide +kernel⟩
def mX6_put : MI := (yX6_put, cX6_put, 6, (some .int), 2, 45)
theorem mo_X6_put : MOv mX6_put 4 := ⟨wm_873, wm_874, wm_5, wm_875, by decide +kernel, by decide +kernel, by decide +kernel⟩
def mX6_get : MI := (yX6_get, cX6_get, 5, (some .int), 2, 45)
theorem mo_X6_get : MOv mX6_get 3 := ⟨wm_890, wm_891, wm_5, wm_892, by decide +kernel, by decide +kernel, by decide +kernel⟩
def mX6_copy : MI := (yX6_copy, cX6_copy, 7, (some .int), 2, 42)
theorem mo_X6_copy : MOv mX6_copy 5 := ⟨wm_906, wm_907, wm_5, wm_908, by decide +kernel, by decide +kernel, by decide +kernel⟩
def mX6_write : MI := (yX6_write, cX6_write, 4, (some .int), 7, 163)
theorem mo_X6_write : MOv mX6_write 2 := ⟨wm_914, wm_915, wm_5, wm_916, by decide +kernel, by decide +kernel, by decide +kernel⟩
def mX6_sumOf : MI := (yX6_sumOf, cX6_sumOf, 2, (some .int), 7, 162)
theorem mo_X6_sumOf : MOv mX6_sumOf 1 := ⟨wm_926, wm_927, wm_5, wm_928, by decide +kernel, by decide +kernel, by decide +kernel⟩
def mX6_count : MI := (yX6_count, cX6_count, 2, (some .int), 8, 183)
theorem mo_X6_count : MOv mX6_count 1 := ⟨wm_922, wm_923, wm_5, wm_924, by decide +kernel, by decide +kernel, by decide +kernel⟩
def mX6_minuteDigest : MI := (yX6_minuteDigest, cX6_minuteDigest, 7, (some .long), 9, 219)
theorem mo_X6_minuteDigest : MOv mX6_minuteDigest 2 := ⟨wm_971, wm_972, wm_5, wm_973, by decide +kernel, by decide +kernel, by decide +kernel⟩
def mX6_candidateDigest : MI := (yX6_candidateDigest, cX6_candidateDigest, 7, (some .long), 8, 188)
theorem mo_X6_candidateDigest : MOv mX6_candidateDigest 2 := ⟨wm_975, wm_976, wm_5, wm_977, by decide +kernel, by decide +kernel, by decide +kernel⟩
def mX6_digest : MI := (yX6_digest, cX6_digest, 4, (some .long), 10, 245)
theorem mo_X6_digest : MOv mX6_digest 0 := ⟨wm_964, wm_965, wm_5, wm_966, by decide +kernel, by decide +kernel, by decide +kernel⟩
def mJ6_bitCount_0f7a4 : MI := (yJ6_bitCount_0f7a4, cJ6_bitCount_0f7a4, 1, (some .int), 0, 0)
theorem mo_J6_bitCount_0f7a4 : MOs mJ6_bitCount_0f7a4 1 := ⟨wm_777, wm_778, wm_779, by decide +kernel, by decide +kernel, by decide +kernel⟩
def mJ7_fill_d0a16 : MI := (yJ7_fill_d0a16, cJ7_fill_d0a16, 5, none, 0, 0)
theorem mo_J7_fill_d0a16 : MOs mJ7_fill_d0a16 2 := ⟨wm_771, wm_214, wm_772, by decide +kernel, by decide +kernel, by decide +kernel⟩
def mJ7_fill_53178 : MI := (yJ7_fill_53178, cJ7_fill_53178, 4, none, 0, 0)
theorem mo_J7_fill_53178 : MOs mJ7_fill_53178 2 := ⟨wm_213, wm_214, wm_215, by decide +kernel, by decide +kernel, by decide +kernel⟩
theorem w_max : Cond.static Lib.Math.max.name ∈ wsL_law ∧ Cond.initialized "java/lang/Math" ∈ wsL_law ∧ Cond.code Lib.Math.max.name Lib.Math.max.code 2 (some .int) ∈ wsL_law := ⟨wm_223, wm_82, wm_224⟩
theorem w_min : Cond.static Lib.Math.min.name ∈ wsL_law ∧ Cond.initialized "java/lang/Math" ∈ wsL_law ∧ Cond.code Lib.Math.min.name Lib.Math.min.code 2 (some .int) ∈ wsL_law := ⟨wm_81, wm_82, wm_83⟩
theorem w_copy : Cond.native arraycopyName ∈ wsL_law ∧ Cond.static arraycopyName ∈ wsL_law ∧ Cond.initialized "java/lang/System" ∈ wsL_law := ⟨wm_543, wm_544, wm_545⟩
theorem kcC_0 {o : Nat} (h : o = 9 ∨ o = 25) : kc (o) = (0, 0) := by rcases h with rfl | rfl <;> rfl
theorem srC_0_0 {o : Nat} (h : o = 9 ∨ o = 25) : sr (o) 0 = o + 1 := by rcases h with rfl | rfl <;> rfl
theorem srC_0_2 {o : Nat} (h : o = 9 ∨ o = 25) : sr (o) 2 = o + 10 := by rcases h with rfl | rfl <;> rfl
theorem srC_0_3 {o : Nat} (h : o = 9 ∨ o = 25) : sr (o) 3 = o + 11 := by rcases h with rfl | rfl <;> rfl
theorem srC_0_4 {o : Nat} (h : o = 9 ∨ o = 25) : sr (o) 4 = o + 12 := by rcases h with rfl | rfl <;> rfl
theorem srC_0_5 {o : Nat} (h : o = 9 ∨ o = 25) : sr (o) 5 = o + 13 := by rcases h with rfl | rfl <;> rfl
theorem srC_0_6 {o : Nat} (h : o = 9 ∨ o = 25) : sr (o) 6 = o + 14 := by rcases h with rfl | rfl <;> rfl
theorem srC_0_7 {o : Nat} (h : o = 9 ∨ o = 25) : sr (o) 7 = o + 15 := by rcases h with rfl | rfl <;> rfl
theorem kcC_1 {o : Nat} (h : o = 9 ∨ o = 25) : kc (o + 1) = (0, 1) := by rcases h with rfl | rfl <;> rfl
theorem srC_1_4 {o : Nat} (h : o = 9 ∨ o = 25) : sr (o + 1) 4 = o + 2 := by rcases h with rfl | rfl <;> rfl
theorem srC_1_5 {o : Nat} (h : o = 9 ∨ o = 25) : sr (o + 1) 5 = o + 3 := by rcases h with rfl | rfl <;> rfl
theorem srC_1_6 {o : Nat} (h : o = 9 ∨ o = 25) : sr (o + 1) 6 = o + 4 := by rcases h with rfl | rfl <;> rfl
theorem srC_1_7 {o : Nat} (h : o = 9 ∨ o = 25) : sr (o + 1) 7 = o + 5 := by rcases h with rfl | rfl <;> rfl
theorem srC_1_8 {o : Nat} (h : o = 9 ∨ o = 25) : sr (o + 1) 8 = o + 6 := by rcases h with rfl | rfl <;> rfl
theorem srC_1_9 {o : Nat} (h : o = 9 ∨ o = 25) : sr (o + 1) 9 = o + 7 := by rcases h with rfl | rfl <;> rfl
theorem srC_1_10 {o : Nat} (h : o = 9 ∨ o = 25) : sr (o + 1) 10 = o + 8 := by rcases h with rfl | rfl <;> rfl
theorem srC_1_11 {o : Nat} (h : o = 9 ∨ o = 25) : sr (o + 1) 11 = o + 9 := by rcases h with rfl | rfl <;> rfl
theorem kcC_2 {o : Nat} (h : o = 9 ∨ o = 25) : kc (o + 2) = (1, 25) := by rcases h with rfl | rfl <;> rfl
theorem kcC_3 {o : Nat} (h : o = 9 ∨ o = 25) : kc (o + 3) = (1, 100) := by rcases h with rfl | rfl <;> rfl
theorem kcC_4 {o : Nat} (h : o = 9 ∨ o = 25) : kc (o + 4) = (1, 100) := by rcases h with rfl | rfl <;> rfl
theorem kcC_5 {o : Nat} (h : o = 9 ∨ o = 25) : kc (o + 5) = (1, 12) := by rcases h with rfl | rfl <;> rfl
theorem kcC_6 {o : Nat} (h : o = 9 ∨ o = 25) : kc (o + 6) = (1, 12) := by rcases h with rfl | rfl <;> rfl
theorem kcC_7 {o : Nat} (h : o = 9 ∨ o = 25) : kc (o + 7) = (1, 8) := by rcases h with rfl | rfl <;> rfl
theorem kcC_8 {o : Nat} (h : o = 9 ∨ o = 25) : kc (o + 8) = (1, 8) := by rcases h with rfl | rfl <;> rfl
theorem kcC_9 {o : Nat} (h : o = 9 ∨ o = 25) : kc (o + 9) = (1, 8) := by rcases h with rfl | rfl <;> rfl
theorem kcC_10 {o : Nat} (h : o = 9 ∨ o = 25) : kc (o + 10) = (1, 25) := by rcases h with rfl | rfl <;> rfl
theorem kcC_11 {o : Nat} (h : o = 9 ∨ o = 25) : kc (o + 11) = (1, 13) := by rcases h with rfl | rfl <;> rfl
theorem kcC_12 {o : Nat} (h : o = 9 ∨ o = 25) : kc (o + 12) = (1, 104) := by rcases h with rfl | rfl <;> rfl
theorem kcC_13 {o : Nat} (h : o = 9 ∨ o = 25) : kc (o + 13) = (1, 12) := by rcases h with rfl | rfl <;> rfl
theorem kcC_14 {o : Nat} (h : o = 9 ∨ o = 25) : kc (o + 14) = (1, 12) := by rcases h with rfl | rfl <;> rfl
theorem kcC_15 {o : Nat} (h : o = 9 ∨ o = 25) : kc (o + 15) = (1, 12) := by rcases h with rfl | rfl <;> rfl
theorem kcT_0 {o : Nat} (h : o = 2 ∨ o = 3 ∨ o = 4) : kc (o) = (0, 2) := by rcases h with rfl | rfl | rfl <;> rfl
theorem srT_0_0 {o : Nat} (h : o = 2 ∨ o = 3 ∨ o = 4) : sr (o) 0 = o + 3 := by rcases h with rfl | rfl | rfl <;> rfl
theorem kcT_3 {o : Nat} (h : o = 2 ∨ o = 3 ∨ o = 4) : kc (o + 3) = (1, 39) := by rcases h with rfl | rfl | rfl <;> rfl
theorem kcS_0 {o : Nat} (h : o = 45 ∨ o = 46 ∨ o = 47 ∨ o = 48) : kc (o) = (0, 3) := by rcases h with rfl | rfl | rfl | rfl <;> rfl
theorem srS_0_2 {o : Nat} (h : o = 45 ∨ o = 46 ∨ o = 47 ∨ o = 48) : sr (o) 2 = o + 4 := by rcases h with rfl | rfl | rfl | rfl <;> rfl
theorem kcS_4 {o : Nat} (h : o = 45 ∨ o = 46 ∨ o = 47 ∨ o = 48) : kc (o + 4) = (1, 60) := by rcases h with rfl | rfl | rfl | rfl <;> rfl
theorem cas3 {e : Int} (h : 0 ≤ e ∧ e < 3) : e.toNat = 0 ∨ e.toNat = 1 ∨ e.toNat = 2 := by omega
theorem cas4 {e : Int} (h : 0 ≤ e ∧ e < 4) : e.toNat = 0 ∨ e.toNat = 1 ∨ e.toNat = 2 ∨ e.toNat = 3 := by omega
theorem srTE {e : Int} (h : 0 ≤ e ∧ e < 3) : sr 1 e.toNat = 2 + e.toNat := by rcases cas3 h with q | q | q <;> rw [q] <;> rfl
theorem srSE {e : Int} (h : 0 ≤ e ∧ e < 4) : sr 44 e.toNat = 45 + e.toNat := by rcases cas4 h with q | q | q | q <;> rw [q] <;> rfl
theorem kcTE_0 {e : Int} (h : 0 ≤ e ∧ e < 3) : kc (2 + e.toNat) = (0, 2) := by rcases cas3 h with q | q | q <;> rw [q] <;> rfl
theorem kcTE_3 {e : Int} (h : 0 ≤ e ∧ e < 3) : kc (5 + e.toNat) = (1, 39) := by rcases cas3 h with q | q | q <;> rw [q] <;> rfl
theorem kcSE_0 {e : Int} (h : 0 ≤ e ∧ e < 4) : kc (45 + e.toNat) = (0, 3) := by rcases cas4 h with q | q | q | q <;> rw [q] <;> rfl
theorem kcSE_4 {e : Int} (h : 0 ≤ e ∧ e < 4) : kc (49 + e.toNat) = (1, 60) := by rcases cas4 h with q | q | q | q <;> rw [q] <;> rfl
theorem srTE_0_0 {e : Int} (h : 0 ≤ e ∧ e < 3) : sr (2 + e.toNat) 0 = 5 + e.toNat := by rcases cas3 h with q | q | q <;> rw [q] <;> rfl
theorem srSE_0_2 {e : Int} (h : 0 ≤ e ∧ e < 4) : sr (45 + e.toNat) 2 = 49 + e.toNat := by rcases cas4 h with q | q | q | q <;> rw [q] <;> rfl
theorem hTE {e : Int} (h : 0 ≤ e ∧ e < 3) : 2 + e.toNat = 2 ∨ 2 + e.toNat = 3 ∨ 2 + e.toNat = 4 := by omega
theorem hSE {e : Int} (h : 0 ≤ e ∧ e < 4) : 45 + e.toNat = 45 ∨ 45 + e.toNat = 46 ∨ 45 + e.toNat = 47 ∨ 45 + e.toNat = 48 := by omega
theorem lookO_4 {a k1 k2 k3 k4 o1 o2 o3 o4 d : Int} (h : ¬ a = k1 ∧ ¬ a = k2 ∧ ¬ a = k3 ∧ ¬ a = k4) : Op.lookupswitch.offset [(k1, o1), (k2, o2), (k3, o3), (k4, o4)] d a = d := by
  rw [Op.lookupswitch.offset_cons, if_neg (by have := h.1; omega), Op.lookupswitch.offset_cons, if_neg (by have := h.2.1; omega), Op.lookupswitch.offset_cons, if_neg (by have := h.2.2.1; omega), Op.lookupswitch.offset_cons, if_neg (by have := h.2.2.2; omega)]
  rfl
theorem lookO_3 {a k1 k2 k3 o1 o2 o3 d : Int} (h : ¬ a = k1 ∧ ¬ a = k2 ∧ ¬ a = k3) : Op.lookupswitch.offset [(k1, o1), (k2, o2), (k3, o3)] d a = d := by
  rw [Op.lookupswitch.offset_cons, if_neg (by have := h.1; omega), Op.lookupswitch.offset_cons, if_neg (by have := h.2.1; omega), Op.lookupswitch.offset_cons, if_neg (by have := h.2.2; omega)]
  rfl
theorem WP_via {mi : MI} {Q : Option MV → HP → Prop} {pc pc1 : Nat} {ls st ls1 st1 : List MV} {D D1 : HP} (k : WP mi Q pc1 ls1 st1 D1 → WP mi Q pc ls st D) (h : WP mi Q pc1 ls1 st1 D1) : WP mi Q pc ls st D := k h
theorem ite_t {c : Prop} [Decidable c] {P : Int → Prop} {a b : Int} (h : P (if c then a else b)) (hc : c) : P a := by rw [if_pos hc] at h; exact h
theorem ite_f {c : Prop} [Decidable c] {P : Int → Prop} {a b : Int} (h : P (if c then a else b)) (hc : ¬ c) : P b := by rw [if_neg hc] at h; exact h
theorem bool_ite {c : Prop} [Decidable c] {x y : Int} (hx : x = 0 ∨ x = 1) (hy : y = 0 ∨ y = 1) : (if c then x else y) = 0 ∨ (if c then x else y) = 1 := by split <;> assumption
theorem ite10 {c : Prop} [Decidable c] : (if c then (1 : Int) else 0) = 0 ↔ ¬ c := by split <;> simp_all
theorem ite10n {c : Prop} [Decidable c] : ¬ (if c then (1 : Int) else 0) = 0 ↔ c := by split <;> simp_all
theorem ite01 {c : Prop} [Decidable c] : (if c then (0 : Int) else 1) = 0 ↔ c := by split <;> simp_all
theorem ite01n {c : Prop} [Decidable c] : ¬ (if c then (0 : Int) else 1) = 0 ↔ ¬ c := by split <;> simp_all
/-- a pure answer -/
def PF (r : MV) (D : HP) : Option MV → HP → Prop := fun v D' => v = some r ∧ D' = D
theorem WP_pcallV {mi g : MI} {Q : Option MV → HP → Prop} {pc idx n : Nat} {ls st rest as : List MV} {D : HP} {r : MV} {k ci : Nat} {T : u_T} {N : Nat} (hd : decode mi.2.1 pc = .ok (.invokevirtual idx, 3)) (hl0 : Cond.methodLink mi.1.cls idx g.1 ∈ wsL_law) (hm : MOv g n) (hk : kc k = (0, ci)) (hci : vwCl[ci]? = some (g.1.cls, T, N)) (hst : as.reverse ++ vR k :: rest = st) (hlen : as.length = n) (hR : RMok mi g) (hrest : (rest.map (fun v => if v.1 = 1 then 2 else 1)).sum ≤ 8)
    (hct : CT g (vR k :: as) D (PF r D)) (hn : WP mi Q (pc + 3) ls (r :: rest) D) : WP mi Q pc ls st D :=
  WP_callV hd hl0 hm hk hci hst hlen hR hrest hct (fun r' D' hq _ _ => by obtain ⟨rfl, rfl⟩ := hq; exact hn)
theorem WP_pcallS {mi g : MI} {Q : Option MV → HP → Prop} {pc idx n : Nat} {ls st rest as : List MV} {D : HP} {r : MV} (hd : decode mi.2.1 pc = .ok (.invokestatic idx, 3)) (hl0 : Cond.methodLink mi.1.cls idx g.1 ∈ wsL_law) (hm : MOs g n) (hst : as.reverse ++ rest = st) (hlen : as.length = n) (hR : RMok mi g) (hrest : (rest.map (fun v => if v.1 = 1 then 2 else 1)).sum ≤ 8)
    (hct : CT g as D (PF r D)) (hn : WP mi Q (pc + 3) ls (r :: rest) D) : WP mi Q pc ls st D :=
  WP_callS hd hl0 hm hst hlen hR hrest hct (fun r' D' hq _ _ => by obtain ⟨rfl, rfl⟩ := hq; exact hn)
