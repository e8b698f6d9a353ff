theorem all_good : wsL_law.all goodWord = true := by decide +kernel
theorem in_r1 : ∀ w ∈ wsL_law_r1, w ∈ wsL_law := fun _ h => (List.mem_append_left _ (List.mem_append_left _ (List.mem_append_left _ (List.mem_append_left _ (List.mem_append_left _ (List.mem_append_left _ (List.mem_append_left _ (List.mem_append_left _ (List.mem_append_left _ (List.mem_append_left _ (List.mem_append_left _ (List.mem_append_left _ (List.mem_append_left _ h)))))))))))))
theorem in_r2 : ∀ w ∈ wsL_law_r2, w ∈ wsL_law := fun _ h => (List.mem_append_left _ (List.mem_append_left _ (List.mem_append_left _ (List.mem_append_left _ (List.mem_append_left _ (List.mem_append_left _ (List.mem_append_left _ (List.mem_append_left _ (List.mem_append_left _ (List.mem_append_left _ (List.mem_append_left _ (List.mem_append_left _ (List.mem_append_right _ (List.mem_append_left _ h))))))))))))))
theorem in_r3 : ∀ w ∈ wsL_law_r3, w ∈ wsL_law := fun _ h => (List.mem_append_left _ (List.mem_append_left _ (List.mem_append_left _ (List.mem_append_left _ (List.mem_append_left _ (List.mem_append_left _ (List.mem_append_left _ (List.mem_append_left _ (List.mem_append_left _ (List.mem_append_left _ (List.mem_append_left _ (List.mem_append_left _ (List.mem_append_right _ (List.mem_append_right _ (List.mem_append_left _ h)))))))))))))))
theorem in_r4 : ∀ w ∈ wsL_law_r4, w ∈ wsL_law := fun _ h => (List.mem_append_left _ (List.mem_append_left _ (List.mem_append_left _ (List.mem_append_left _ (List.mem_append_left _ (List.mem_append_left _ (List.mem_append_left _ (List.mem_append_left _ (List.mem_append_left _ (List.mem_append_left _ (List.mem_append_left _ (List.mem_append_left _ (List.mem_append_right _ (List.mem_append_right _ (List.mem_append_right _ (List.mem_append_left _ h))))))))))))))))
theorem in_r5 : ∀ w ∈ wsL_law_r5, w ∈ wsL_law := fun _ h => (List.mem_append_left _ (List.mem_append_left _ (List.mem_append_left _ (List.mem_append_left _ (List.mem_append_left _ (List.mem_append_left _ (List.mem_append_left _ (List.mem_append_left _ (List.mem_append_left _ (List.mem_append_left _ (List.mem_append_left _ (List.mem_append_left _ (List.mem_append_right _ (List.mem_append_right _ (List.mem_append_right _ (List.mem_append_right _ (List.mem_append_left _ h)))))))))))))))))
theorem in_r6 : ∀ w ∈ wsL_law_r6, w ∈ wsL_law := fun _ h => (List.mem_append_left _ (List.mem_append_left _ (List.mem_append_left _ (List.mem_append_left _ (List.mem_append_left _ (List.mem_append_left _ (List.mem_append_left _ (List.mem_append_left _ (List.mem_append_left _ (List.mem_append_left _ (List.mem_append_left _ (List.mem_append_left _ (List.mem_append_right _ (List.mem_append_right _ (List.mem_append_right _ (List.mem_append_right _ (List.mem_append_right _ (List.mem_append_left _ h))))))))))))))))))
theorem in_r7 : ∀ w ∈ wsL_law_r7, w ∈ wsL_law := fun _ h => (List.mem_append_left _ (List.mem_append_left _ (List.mem_append_left _ (List.mem_append_left _ (List.mem_append_left _ (List.mem_append_left _ (List.mem_append_left _ (List.mem_append_left _ (List.mem_append_left _ (List.mem_append_left _ (List.mem_append_left _ (List.mem_append_left _ (List.mem_append_right _ (List.mem_append_right _ (List.mem_append_right _ (List.mem_append_right _ (List.mem_append_right _ (List.mem_append_right _ (List.mem_append_left _ h)))))))))))))))))))
theorem in_r8 : ∀ w ∈ wsL_law_r8, w ∈ wsL_law := fun _ h => (List.mem_append_left _ (List.mem_append_left _ (List.mem_append_left _ (List.mem_append_left _ (List.mem_append_left _ (List.mem_append_left _ (List.mem_append_left _ (List.mem_append_left _ (List.mem_append_left _ (List.mem_append_left _ (List.mem_append_left _ (List.mem_append_left _ (List.mem_append_right _ (List.mem_append_right _ (List.mem_append_right _ (List.mem_append_right _ (List.mem_append_right _ (List.mem_append_right _ (List.mem_append_right _ (List.mem_append_left _ h))))))))))))))))))))
theorem in_r9 : ∀ w ∈ wsL_law_r9, w ∈ wsL_law := fun _ h => (List.mem_append_left _ (List.mem_append_left _ (List.mem_append_left _ (List.mem_append_left _ (List.mem_append_left _ (List.mem_append_left _ (List.mem_append_left _ (List.mem_append_left _ (List.mem_append_left _ (List.mem_append_left _ (List.mem_append_left _ (List.mem_append_left _ (List.mem_append_right _ (List.mem_append_right _ (List.mem_append_right _ (List.mem_append_right _ (List.mem_append_right _ (List.mem_append_right _ (List.mem_append_right _ (List.mem_append_right _ (List.mem_append_left _ h)))))))))))))))))))))
theorem in_r10 : ∀ w ∈ wsL_law_r10, w ∈ wsL_law := fun _ h => (List.mem_append_left _ (List.mem_append_left _ (List.mem_append_left _ (List.mem_append_left _ (List.mem_append_left _ (List.mem_append_left _ (List.mem_append_left _ (List.mem_append_left _ (List.mem_append_left _ (List.mem_append_left _ (List.mem_append_left _ (List.mem_append_left _ (List.mem_append_right _ (List.mem_append_right _ (List.mem_append_right _ (List.mem_append_right _ (List.mem_append_right _ (List.mem_append_right _ (List.mem_append_right _ (List.mem_append_right _ (List.mem_append_right _ (List.mem_append_left _ h))))))))))))))))))))))
theorem in_r11 : ∀ w ∈ wsL_law_r11, w ∈ wsL_law := fun _ h => (List.mem_append_left _ (List.mem_append_left _ (List.mem_append_left _ (List.mem_append_left _ (List.mem_append_left _ (List.mem_append_left _ (List.mem_append_left _ (List.mem_append_left _ (List.mem_append_left _ (List.mem_append_left _ (List.mem_append_left _ (List.mem_append_left _ (List.mem_append_right _ (List.mem_append_right _ (List.mem_append_right _ (List.mem_append_right _ (List.mem_append_right _ (List.mem_append_right _ (List.mem_append_right _ (List.mem_append_right _ (List.mem_append_right _ (List.mem_append_right _ (List.mem_append_left _ h)))))))))))))))))))))))
theorem in_r12 : ∀ w ∈ wsL_law_r12, w ∈ wsL_law := fun _ h => (List.mem_append_left _ (List.mem_append_left _ (List.mem_append_left _ (List.mem_append_left _ (List.mem_append_left _ (List.mem_append_left _ (List.mem_append_left _ (List.mem_append_left _ (List.mem_append_left _ (List.mem_append_left _ (List.mem_append_left _ (List.mem_append_left _ (List.mem_append_right _ (List.mem_append_right _ (List.mem_append_right _ (List.mem_append_right _ (List.mem_append_right _ (List.mem_append_right _ (List.mem_append_right _ (List.mem_append_right _ (List.mem_append_right _ (List.mem_append_right _ (List.mem_append_right _ (List.mem_append_left _ h))))))))))))))))))))))))
theorem in_r13 : ∀ w ∈ wsL_law_r13, w ∈ wsL_law := fun _ h => (List.mem_append_left _ (List.mem_append_left _ (List.mem_append_left _ (List.mem_append_left _ (List.mem_append_left _ (List.mem_append_left _ (List.mem_append_left _ (List.mem_append_left _ (List.mem_append_left _ (List.mem_append_left _ (List.mem_append_left _ (List.mem_append_left _ (List.mem_append_right _ (List.mem_append_right _ (List.mem_append_right _ (List.mem_append_right _ (List.mem_append_right _ (List.mem_append_right _ (List.mem_append_right _ (List.mem_append_right _ (List.mem_append_right _ (List.mem_append_right _ (List.mem_append_right _ (List.mem_append_right _ (List.mem_append_left _ h)))))))))))))))))))))))))
theorem in_r14 : ∀ w ∈ wsL_law_r14, w ∈ wsL_law := fun _ h => (List.mem_append_left _ (List.mem_append_left _ (List.mem_append_left _ (List.mem_append_left _ (List.mem_append_left _ (List.mem_append_left _ (List.mem_append_left _ (List.mem_append_left _ (List.mem_append_left _ (List.mem_append_left _ (List.mem_append_left _ (List.mem_append_left _ (List.mem_append_right _ (List.mem_append_right _ (List.mem_append_right _ (List.mem_append_right _ (List.mem_append_right _ (List.mem_append_right _ (List.mem_append_right _ (List.mem_append_right _ (List.mem_append_right _ (List.mem_append_right _ (List.mem_append_right _ (List.mem_append_right _ (List.mem_append_right _ (List.mem_append_left _ h))))))))))))))))))))))))))
theorem in_r15 : ∀ w ∈ wsL_law_r15, w ∈ wsL_law := fun _ h => (List.mem_append_left _ (List.mem_append_left _ (List.mem_append_left _ (List.mem_append_left _ (List.mem_append_left _ (List.mem_append_left _ (List.mem_append_left _ (List.mem_append_left _ (List.mem_append_left _ (List.mem_append_left _ (List.mem_append_left _ (List.mem_append_left _ (List.mem_append_right _ (List.mem_append_right _ (List.mem_append_right _ (List.mem_append_right _ (List.mem_append_right _ (List.mem_append_right _ (List.mem_append_right _ (List.mem_append_right _ (List.mem_append_right _ (List.mem_append_right _ (List.mem_append_right _ (List.mem_append_right _ (List.mem_append_right _ (List.mem_append_right _ (List.mem_append_left _ h)))))))))))))))))))))))))))
theorem in_r16 : ∀ w ∈ wsL_law_r16, w ∈ wsL_law := fun _ h => (List.mem_append_left _ (List.mem_append_left _ (List.mem_append_left _ (List.mem_append_left _ (List.mem_append_left _ (List.mem_append_left _ (List.mem_append_left _ (List.mem_append_left _ (List.mem_append_left _ (List.mem_append_left _ (List.mem_append_left _ (List.mem_append_left _ (List.mem_append_right _ (List.mem_append_right _ (List.mem_append_right _ (List.mem_append_right _ (List.mem_append_right _ (List.mem_append_right _ (List.mem_append_right _ (List.mem_append_right _ (List.mem_append_right _ (List.mem_append_right _ (List.mem_append_right _ (List.mem_append_right _ (List.mem_append_right _ (List.mem_append_right _ (List.mem_append_right _ (List.mem_append_left _ h))))))))))))))))))))))))))))
theorem in_r17 : ∀ w ∈ wsL_law_r17, w ∈ wsL_law := fun _ h => (List.mem_append_left _ (List.mem_append_left _ (List.mem_append_left _ (List.mem_append_left _ (List.mem_append_left _ (List.mem_append_left _ (List.mem_append_left _ (List.mem_append_left _ (List.mem_append_left _ (List.mem_append_left _ (List.mem_append_left _ (List.mem_append_left _ (List.mem_append_right _ (List.mem_append_right _ (List.mem_append_right _ (List.mem_append_right _ (List.mem_append_right _ (List.mem_append_right _ (List.mem_append_right _ (List.mem_append_right _ (List.mem_append_right _ (List.mem_append_right _ (List.mem_append_right _ (List.mem_append_right _ (List.mem_append_right _ (List.mem_append_right _ (List.mem_append_right _ (List.mem_append_right _ (List.mem_append_left _ h)))))))))))))))))))))))))))))
theorem in_r18 : ∀ w ∈ wsL_law_r18, w ∈ wsL_law := fun _ h => (List.mem_append_left _ (List.mem_append_left _ (List.mem_append_left _ (List.mem_append_left _ (List.mem_append_left _ (List.mem_append_left _ (List.mem_append_left _ (List.mem_append_left _ (List.mem_append_left _ (List.mem_append_left _ (List.mem_append_left _ (List.mem_append_left _ (List.mem_append_right _ (List.mem_append_right _ (List.mem_append_right _ (List.mem_append_right _ (List.mem_append_right _ (List.mem_append_right _ (List.mem_append_right _ (List.mem_append_right _ (List.mem_append_right _ (List.mem_append_right _ (List.mem_append_right _ (List.mem_append_right _ (List.mem_append_right _ (List.mem_append_right _ (List.mem_append_right _ (List.mem_append_right _ (List.mem_append_right _ (List.mem_append_left _ h))))))))))))))))))))))))))))))
theorem in_r19 : ∀ w ∈ wsL_law_r19, w ∈ wsL_law := fun _ h => (List.mem_append_left _ (List.mem_append_left _ (List.mem_append_left _ (List.mem_append_left _ (List.mem_append_left _ (List.mem_append_left _ (List.mem_append_left _ (List.mem_append_left _ (List.mem_append_left _ (List.mem_append_left _ (List.mem_append_left _ (List.mem_append_left _ (List.mem_append_right _ (List.mem_append_right _ (List.mem_append_right _ (List.mem_append_right _ (List.mem_append_right _ (List.mem_append_right _ (List.mem_append_right _ (List.mem_append_right _ (List.mem_append_right _ (List.mem_append_right _ (List.mem_append_right _ (List.mem_append_right _ (List.mem_append_right _ (List.mem_append_right _ (List.mem_append_right _ (List.mem_append_right _ (List.mem_append_right _ (List.mem_append_right _ (List.mem_append_left _ h)))))))))))))))))))))))))))))))
theorem in_r20 : ∀ w ∈ wsL_law_r20, w ∈ wsL_law := fun _ h => (List.mem_append_left _ (List.mem_append_left _ (List.mem_append_left _ (List.mem_append_left _ (List.mem_append_left _ (List.mem_append_left _ (List.mem_append_left _ (List.mem_append_left _ (List.mem_append_left _ (List.mem_append_left _ (List.mem_append_left _ (List.mem_append_left _ (List.mem_append_right _ (List.mem_append_right _ (List.mem_append_right _ (List.mem_append_right _ (List.mem_append_right _ (List.mem_append_right _ (List.mem_append_right _ (List.mem_append_right _ (List.mem_append_right _ (List.mem_append_right _ (List.mem_append_right _ (List.mem_append_right _ (List.mem_append_right _ (List.mem_append_right _ (List.mem_append_right _ (List.mem_append_right _ (List.mem_append_right _ (List.mem_append_right _ (List.mem_append_right _ (List.mem_append_left _ h))))))))))))))))))))))))))))))))
theorem in_r21 : ∀ w ∈ wsL_law_r21, w ∈ wsL_law := fun _ h => (List.mem_append_left _ (List.mem_append_left _ (List.mem_append_left _ (List.mem_append_left _ (List.mem_append_left _ (List.mem_append_left _ (List.mem_append_left _ (List.mem_append_left _ (List.mem_append_left _ (List.mem_append_left _ (List.mem_append_left _ (List.mem_append_left _ (List.mem_append_right _ (List.mem_append_right _ (List.mem_append_right _ (List.mem_append_right _ (List.mem_append_right _ (List.mem_append_right _ (List.mem_append_right _ (List.mem_append_right _ (List.mem_append_right _ (List.mem_append_right _ (List.mem_append_right _ (List.mem_append_right _ (List.mem_append_right _ (List.mem_append_right _ (List.mem_append_right _ (List.mem_append_right _ (List.mem_append_right _ (List.mem_append_right _ (List.mem_append_right _ (List.mem_append_right _ (List.mem_append_left _ h)))))))))))))))))))))))))))))))))
theorem in_r22 : ∀ w ∈ wsL_law_r22, w ∈ wsL_law := fun _ h => (List.mem_append_left _ (List.mem_append_left _ (List.mem_append_left _ (List.mem_append_left _ (List.mem_append_left _ (List.mem_append_left _ (List.mem_append_left _ (List.mem_append_left _ (List.mem_append_left _ (List.mem_append_left _ (List.mem_append_left _ (List.mem_append_left _ (List.mem_append_right _ (List.mem_append_right _ (List.mem_append_right _ (List.mem_append_right _ (List.mem_append_right _ (List.mem_append_right _ (List.mem_append_right _ (List.mem_append_right _ (List.mem_append_right _ (List.mem_append_right _ (List.mem_append_right _ (List.mem_append_right _ (List.mem_append_right _ (List.mem_append_right _ (List.mem_append_right _ (List.mem_append_right _ (List.mem_append_right _ (List.mem_append_right _ (List.mem_append_right _ (List.mem_append_right _ (List.mem_append_right _ (List.mem_append_left _ h))))))))))))))))))))))))))))))))))
theorem in_r23 : ∀ w ∈ wsL_law_r23, w ∈ wsL_law := fun _ h => (List.mem_append_left _ (List.mem_append_left _ (List.mem_append_left _ (List.mem_append_left _ (List.mem_append_left _ (List.mem_append_left _ (List.mem_append_left _ (List.mem_append_left _ (List.mem_append_left _ (List.mem_append_left _ (List.mem_append_left _ (List.mem_append_left _ (List.mem_append_right _ (List.mem_append_right _ (List.mem_append_right _ (List.mem_append_right _ (List.mem_append_right _ (List.mem_append_right _ (List.mem_append_right _ (List.mem_append_right _ (List.mem_append_right _ (List.mem_append_right _ (List.mem_append_right _ (List.mem_append_right _ (List.mem_append_right _ (List.mem_append_right _ (List.mem_append_right _ (List.mem_append_right _ (List.mem_append_right _ (List.mem_append_right _ (List.mem_append_right _ (List.mem_append_right _ (List.mem_append_right _ (List.mem_append_right _ (List.mem_append_left _ h)))))))))))))))))))))))))))))))))))
theorem in_r24 : ∀ w ∈ wsL_law_r24, w ∈ wsL_law := fun _ h => (List.mem_append_left _ (List.mem_append_left _ (List.mem_append_left _ (List.mem_append_left _ (List.mem_append_left _ (List.mem_append_left _ (List.mem_append_left _ (List.mem_append_left _ (List.mem_append_left _ (List.mem_append_left _ (List.mem_append_left _ (List.mem_append_left _ (List.mem_append_right _ (List.mem_append_right _ (List.mem_append_right _ (List.mem_append_right _ (List.mem_append_right _ (List.mem_append_right _ (List.mem_append_right _ (List.mem_append_right _ (List.mem_append_right _ (List.mem_append_right _ (List.mem_append_right _ (List.mem_append_right _ (List.mem_append_right _ (List.mem_append_right _ (List.mem_append_right _ (List.mem_append_right _ (List.mem_append_right _ (List.mem_append_right _ (List.mem_append_right _ (List.mem_append_right _ (List.mem_append_right _ (List.mem_append_right _ (List.mem_append_right _ (List.mem_append_left _ h))))))))))))))))))))))))))))))))))))
theorem in_r25 : ∀ w ∈ wsL_law_r25, w ∈ wsL_law := fun _ h => (List.mem_append_left _ (List.mem_append_left _ (List.mem_append_left _ (List.mem_append_left _ (List.mem_append_left _ (List.mem_append_left _ (List.mem_append_left _ (List.mem_append_left _ (List.mem_append_left _ (List.mem_append_left _ (List.mem_append_left _ (List.mem_append_left _ (List.mem_append_right _ (List.mem_append_right _ (List.mem_append_right _ (List.mem_append_right _ (List.mem_append_right _ (List.mem_append_right _ (List.mem_append_right _ (List.mem_append_right _ (List.mem_append_right _ (List.mem_append_right _ (List.mem_append_right _ (List.mem_append_right _ (List.mem_append_right _ (List.mem_append_right _ (List.mem_append_right _ (List.mem_append_right _ (List.mem_append_right _ (List.mem_append_right _ (List.mem_append_right _ (List.mem_append_right _ (List.mem_append_right _ (List.mem_append_right _ (List.mem_append_right _ (List.mem_append_right _ (List.mem_append_left _ h)))))))))))))))))))))))))))))))))))))
theorem in_r26 : ∀ w ∈ wsL_law_r26, w ∈ wsL_law := fun _ h => (List.mem_append_left _ (List.mem_append_left _ (List.mem_append_left _ (List.mem_append_left _ (List.mem_append_left _ (List.mem_append_left _ (List.mem_append_left _ (List.mem_append_left _ (List.mem_append_left _ (List.mem_append_left _ (List.mem_append_left _ (List.mem_append_left _ (List.mem_append_right _ (List.mem_append_right _ (List.mem_append_right _ (List.mem_append_right _ (List.mem_append_right _ (List.mem_append_right _ (List.mem_append_right _ (List.mem_append_right _ (List.mem_append_right _ (List.mem_append_right _ (List.mem_append_right _ (List.mem_append_right _ (List.mem_append_right _ (List.mem_append_right _ (List.mem_append_right _ (List.mem_append_right _ (List.mem_append_right _ (List.mem_append_right _ (List.mem_append_right _ (List.mem_append_right _ (List.mem_append_right _ (List.mem_append_right _ (List.mem_append_right _ (List.mem_append_right _ (List.mem_append_right _ (List.mem_append_left _ h))))))))))))))))))))))))))))))))))))))
theorem in_r27 : ∀ w ∈ wsL_law_r27, w ∈ wsL_law := fun _ h => (List.mem_append_left _ (List.mem_append_left _ (List.mem_append_left _ (List.mem_append_left _ (List.mem_append_left _ (List.mem_append_left _ (List.mem_append_left _ (List.mem_append_left _ (List.mem_append_left _ (List.mem_append_left _ (List.mem_append_left _ (List.mem_append_left _ (List.mem_append_right _ (List.mem_append_right _ (List.mem_append_right _ (List.mem_append_right _ (List.mem_append_right _ (List.mem_append_right _ (List.mem_append_right _ (List.mem_append_right _ (List.mem_append_right _ (List.mem_append_right _ (List.mem_append_right _ (List.mem_append_right _ (List.mem_append_right _ (List.mem_append_right _ (List.mem_append_right _ (List.mem_append_right _ (List.mem_append_right _ (List.mem_append_right _ (List.mem_append_right _ (List.mem_append_right _ (List.mem_append_right _ (List.mem_append_right _ (List.mem_append_right _ (List.mem_append_right _ (List.mem_append_right _ (List.mem_append_right _ (List.mem_append_left _ h)))))))))))))))))))))))))))))))))))))))
theorem in_r28 : ∀ w ∈ wsL_law_r28, w ∈ wsL_law := fun _ h => (List.mem_append_left _ (List.mem_append_left _ (List.mem_append_left _ (List.mem_append_left _ (List.mem_append_left _ (List.mem_append_left _ (List.mem_append_left _ (List.mem_append_left _ (List.mem_append_left _ (List.mem_append_left _ (List.mem_append_left _ (List.mem_append_left _ (List.mem_append_right _ (List.mem_append_right _ (List.mem_append_right _ (List.mem_append_right _ (List.mem_append_right _ (List.mem_append_right _ (List.mem_append_right _ (List.mem_append_right _ (List.mem_append_right _ (List.mem_append_right _ (List.mem_append_right _ (List.mem_append_right _ (List.mem_append_right _ (List.mem_append_right _ (List.mem_append_right _ (List.mem_append_right _ (List.mem_append_right _ (List.mem_append_right _ (List.mem_append_right _ (List.mem_append_right _ (List.mem_append_right _ (List.mem_append_right _ (List.mem_append_right _ (List.mem_append_right _ (List.mem_append_right _ (List.mem_append_right _ (List.mem_append_right _ (List.mem_append_left _ h))))))))))))))))))))))))))))))))))))))))
theorem in_r29 : ∀ w ∈ wsL_law_r29, w ∈ wsL_law := fun _ h => (List.mem_append_left _ (List.mem_append_left _ (List.mem_append_left _ (List.mem_append_left _ (List.mem_append_left _ (List.mem_append_left _ (List.mem_append_left _ (List.mem_append_left _ (List.mem_append_left _ (List.mem_append_left _ (List.mem_append_left _ (List.mem_append_left _ (List.mem_append_right _ (List.mem_append_right _ (List.mem_append_right _ (List.mem_append_right _ (List.mem_append_right _ (List.mem_append_right _ (List.mem_append_right _ (List.mem_append_right _ (List.mem_append_right _ (List.mem_append_right _ (List.mem_append_right _ (List.mem_append_right _ (List.mem_append_right _ (List.mem_append_right _ (List.mem_append_right _ (List.mem_append_right _ (List.mem_append_right _ (List.mem_append_right _ (List.mem_append_right _ (List.mem_append_right _ (List.mem_append_right _ (List.mem_append_right _ (List.mem_append_right _ (List.mem_append_right _ (List.mem_append_right _ (List.mem_append_right _ (List.mem_append_right _ (List.mem_append_right _ (List.mem_append_left _ h)))))))))))))))))))))))))))))))))))))))))
theorem in_r30 : ∀ w ∈ wsL_law_r30, w ∈ wsL_law := fun _ h => (List.mem_append_left _ (List.mem_append_left _ (List.mem_append_left _ (List.mem_append_left _ (List.mem_append_left _ (List.mem_append_left _ (List.mem_append_left _ (List.mem_append_left _ (List.mem_append_left _ (List.mem_append_left _ (List.mem_append_left _ (List.mem_append_left _ (List.mem_append_right _ (List.mem_append_right _ (List.mem_append_right _ (List.mem_append_right _ (List.mem_append_right _ (List.mem_append_right _ (List.mem_append_right _ (List.mem_append_right _ (List.mem_append_right _ (List.mem_append_right _ (List.mem_append_right _ (List.mem_append_right _ (List.mem_append_right _ (List.mem_append_right _ (List.mem_append_right _ (List.mem_append_right _ (List.mem_append_right _ (List.mem_append_right _ (List.mem_append_right _ (List.mem_append_right _ (List.mem_append_right _ (List.mem_append_right _ (List.mem_append_right _ (List.mem_append_right _ (List.mem_append_right _ (List.mem_append_right _ (List.mem_append_right _ (List.mem_append_right _ (List.mem_append_right _ (List.mem_append_left _ h))))))))))))))))))))))))))))))))))))))))))
theorem in_r31 : ∀ w ∈ wsL_law_r31, w ∈ wsL_law := fun _ h => (List.mem_append_left _ (List.mem_append_left _ (List.mem_append_left _ (List.mem_append_left _ (List.mem_append_left _ (List.mem_append_left _ (List.mem_append_left _ (List.mem_append_left _ (List.mem_append_left _ (List.mem_append_left _ (List.mem_append_left _ (List.mem_append_left _ (List.mem_append_right _ (List.mem_append_right _ (List.mem_append_right _ (List.mem_append_right _ (List.mem_append_right _ (List.mem_append_right _ (List.mem_append_right _ (List.mem_append_right _ (List.mem_append_right _ (List.mem_append_right _ (List.mem_append_right _ (List.mem_append_right _ (List.mem_append_right _ (List.mem_append_right _ (List.mem_append_right _ (List.mem_append_right _ (List.mem_append_right _ (List.mem_append_right _ (List.mem_append_right _ (List.mem_append_right _ (List.mem_append_right _ (List.mem_append_right _ (List.mem_append_right _ (List.mem_append_right _ (List.mem_append_right _ (List.mem_append_right _ (List.mem_append_right _ (List.mem_append_right _ (List.mem_append_right _ (List.mem_append_right _ (List.mem_append_left _ h)))))))))))))))))))))))))))))))))))))))))))
theorem in_r32 : ∀ w ∈ wsL_law_r32, w ∈ wsL_law := fun _ h => (List.mem_append_left _ (List.mem_append_left _ (List.mem_append_left _ (List.mem_append_left _ (List.mem_append_left _ (List.mem_append_left _ (List.mem_append_left _ (List.mem_append_left _ (List.mem_append_left _ (List.mem_append_left _ (List.mem_append_left _ (List.mem_append_left _ (List.mem_append_right _ (List.mem_append_right _ (List.mem_append_right _ (List.mem_append_right _ (List.mem_append_right _ (List.mem_append_right _ (List.mem_append_right _ (List.mem_append_right _ (List.mem_append_right _ (List.mem_append_right _ (List.mem_append_right _ (List.mem_append_right _ (List.mem_append_right _ (List.mem_append_right _ (List.mem_append_right _ (List.mem_append_right _ (List.mem_append_right _ (List.mem_append_right _ (List.mem_append_right _ (List.mem_append_right _ (List.mem_append_right _ (List.mem_append_right _ (List.mem_append_right _ (List.mem_append_right _ (List.mem_append_right _ (List.mem_append_right _ (List.mem_append_right _ (List.mem_append_right _ (List.mem_append_right _ (List.mem_append_right _ (List.mem_append_right _ (List.mem_append_left _ h))))))))))))))))))))))))))))))))))))))))))))
theorem in_r33 : ∀ w ∈ wsL_law_r33, w ∈ wsL_law := fun _ h => (List.mem_append_left _ (List.mem_append_left _ (List.mem_append_left _ (List.mem_append_left _ (List.mem_append_left _ (List.mem_append_left _ (List.mem_append_left _ (List.mem_append_left _ (List.mem_append_left _ (List.mem_append_left _ (List.mem_append_left _ (List.mem_append_left _ (List.mem_append_right _ (List.mem_append_right _ (List.mem_append_right _ (List.mem_append_right _ (List.mem_append_right _ (List.mem_append_right _ (List.mem_append_right _ (List.mem_append_right _ (List.mem_append_right _ (List.mem_append_right _ (List.mem_append_right _ (List.mem_append_right _ (List.mem_append_right _ (List.mem_append_right _ (List.mem_append_right _ (List.mem_append_right _ (List.mem_append_right _ (List.mem_append_right _ (List.mem_append_right _ (List.mem_append_right _ (List.mem_append_right _ (List.mem_append_right _ (List.mem_append_right _ (List.mem_append_right _ (List.mem_append_right _ (List.mem_append_right _ (List.mem_append_right _ (List.mem_append_right _ (List.mem_append_right _ (List.mem_append_right _ (List.mem_append_right _ (List.mem_append_right _ (List.mem_append_left _ h)))))))))))))))))))))))))))))))))))))))))))))
theorem in_r34 : ∀ w ∈ wsL_law_r34, w ∈ wsL_law := fun _ h => (List.mem_append_left _ (List.mem_append_left _ (List.mem_append_left _ (List.mem_append_left _ (List.mem_append_left _ (List.mem_append_left _ (List.mem_append_left _ (List.mem_append_left _ (List.mem_append_left _ (List.mem_append_left _ (List.mem_append_left _ (List.mem_append_left _ (List.mem_append_right _ (List.mem_append_right _ (List.mem_append_right _ (List.mem_append_right _ (List.mem_append_right _ (List.mem_append_right _ (List.mem_append_right _ (List.mem_append_right _ (List.mem_append_right _ (List.mem_append_right _ (List.mem_append_right _ (List.mem_append_right _ (List.mem_append_right _ (List.mem_append_right _ (List.mem_append_right _ (List.mem_append_right _ (List.mem_append_right _ (List.mem_append_right _ (List.mem_append_right _ (List.mem_append_right _ (List.mem_append_right _ (List.mem_append_right _ (List.mem_append_right _ (List.mem_append_right _ (List.mem_append_right _ (List.mem_append_right _ (List.mem_append_right _ (List.mem_append_right _ (List.mem_append_right _ (List.mem_append_right _ (List.mem_append_right _ (List.mem_append_right _ (List.mem_append_right _ (List.mem_append_left _ h))))))))))))))))))))))))))))))))))))))))))))))
theorem in_r35 : ∀ w ∈ wsL_law_r35, w ∈ wsL_law := fun _ h => (List.mem_append_left _ (List.mem_append_left _ (List.mem_append_left _ (List.mem_append_left _ (List.mem_append_left _ (List.mem_append_left _ (List.mem_append_left _ (List.mem_append_left _ (List.mem_append_left _ (List.mem_append_left _ (List.mem_append_left _ (List.mem_append_left _ (List.mem_append_right _ (List.mem_append_right _ (List.mem_append_right _ (List.mem_append_right _ (List.mem_append_right _ (List.mem_append_right _ (List.mem_append_right _ (List.mem_append_right _ (List.mem_append_right _ (List.mem_append_right _ (List.mem_append_right _ (List.mem_append_right _ (List.mem_append_right _ (List.mem_append_right _ (List.mem_append_right _ (List.mem_append_right _ (List.mem_append_right _ (List.mem_append_right _ (List.mem_append_right _ (List.mem_append_right _ (List.mem_append_right _ (List.mem_append_right _ (List.mem_append_right _ (List.mem_append_right _ (List.mem_append_right _ (List.mem_append_right _ (List.mem_append_right _ (List.mem_append_right _ (List.mem_append_right _ (List.mem_append_right _ (List.mem_append_right _ (List.mem_append_right _ (List.mem_append_right _ (List.mem_append_right _ (List.mem_append_left _ h)))))))))))))))))))))))))))))))))))))))))))))))
theorem in_r36 : ∀ w ∈ wsL_law_r36, w ∈ wsL_law := fun _ h => (List.mem_append_left _ (List.mem_append_left _ (List.mem_append_left _ (List.mem_append_left _ (List.mem_append_left _ (List.mem_append_left _ (List.mem_append_left _ (List.mem_append_left _ (List.mem_append_left _ (List.mem_append_left _ (List.mem_append_left _ (List.mem_append_left _ (List.mem_append_right _ (List.mem_append_right _ (List.mem_append_right _ (List.mem_append_right _ (List.mem_append_right _ (List.mem_append_right _ (List.mem_append_right _ (List.mem_append_right _ (List.mem_append_right _ (List.mem_append_right _ (List.mem_append_right _ (List.mem_append_right _ (List.mem_append_right _ (List.mem_append_right _ (List.mem_append_right _ (List.mem_append_right _ (List.mem_append_right _ (List.mem_append_right _ (List.mem_append_right _ (List.mem_append_right _ (List.mem_append_right _ (List.mem_append_right _ (List.mem_append_right _ (List.mem_append_right _ (List.mem_append_right _ (List.mem_append_right _ (List.mem_append_right _ (List.mem_append_right _ (List.mem_append_right _ (List.mem_append_right _ (List.mem_append_right _ (List.mem_append_right _ (List.mem_append_right _ (List.mem_append_right _ (List.mem_append_right _ h)))))))))))))))))))))))))))))))))))))))))))))))
theorem wr_0 : Cond.classLink RL 7 RX9 ∈ wsL_law := in_r1 _ (List.mem_of_getElem? (i := 0) rfl)
theorem wm_0 {c0 : Cond} : Cond.classLink RL 7 RX9 ∈ c0 :: wsL_law := List.mem_cons_of_mem _ wr_0
theorem wr_1 : Cond.instantiable RX9 11 ∈ wsL_law := in_r1 _ (List.mem_of_getElem? (i := 1) rfl)
theorem wm_1 {c0 : Cond} : Cond.instantiable RX9 11 ∈ c0 :: wsL_law := List.mem_cons_of_mem _ wr_1
theorem wr_2 : Cond.initialized RX9 ∈ wsL_law := in_r1 _ (List.mem_of_getElem? (i := 2) rfl)
theorem wm_2 {c0 : Cond} : Cond.initialized RX9 ∈ c0 :: wsL_law := List.mem_cons_of_mem _ wr_2
theorem wr_3 : Cond.classLink RL 10 RX10 ∈ wsL_law := in_r1 _ (List.mem_of_getElem? (i := 3) rfl)
theorem wm_3 {c0 : Cond} : Cond.classLink RL 10 RX10 ∈ c0 :: wsL_law := List.mem_cons_of_mem _ wr_3
theorem wr_4 : Cond.instantiable RX10 35 ∈ wsL_law := in_r1 _ (List.mem_of_getElem? (i := 4) rfl)
theorem wm_4 {c0 : Cond} : Cond.instantiable RX10 35 ∈ c0 :: wsL_law := List.mem_cons_of_mem _ wr_4
theorem wr_5 : Cond.initialized RX10 ∈ wsL_law := in_r1 _ (List.mem_of_getElem? (i := 5) rfl)
theorem wm_5 {c0 : Cond} : Cond.initialized RX10 ∈ c0 :: wsL_law := List.mem_cons_of_mem _ wr_5
theorem wr_6 : Cond.constantLong RL 77 (4294967295) ∈ wsL_law := in_r1 _ (List.mem_of_getElem? (i := 6) rfl)
theorem wm_6 {c0 : Cond} : Cond.constantLong RL 77 (4294967295) ∈ c0 :: wsL_law := List.mem_cons_of_mem _ wr_6
theorem wr_7 : Cond.methodLink RL 9 yX9_init ∈ wsL_law := in_r1 _ (List.mem_of_getElem? (i := 7) rfl)
theorem wm_7 {c0 : Cond} : Cond.methodLink RL 9 yX9_init ∈ c0 :: wsL_law := List.mem_cons_of_mem _ wr_7
theorem wr_8 : Cond.instanceMethod yX9_init ∈ wsL_law := in_r1 _ (List.mem_of_getElem? (i := 8) rfl)
theorem wm_8 {c0 : Cond} : Cond.instanceMethod yX9_init ∈ c0 :: wsL_law := List.mem_cons_of_mem _ wr_8
theorem wr_9 : Cond.code yX9_init cX9_init 1 none ∈ wsL_law := in_r1 _ (List.mem_of_getElem? (i := 9) rfl)
theorem wm_9 {c0 : Cond} : Cond.code yX9_init cX9_init 1 none ∈ c0 :: wsL_law := List.mem_cons_of_mem _ wr_9
theorem wr_10 : Cond.methodLink RX9 1 objectInit ∈ wsL_law := in_r1 _ (List.mem_of_getElem? (i := 10) rfl)
theorem wm_10 {c0 : Cond} : Cond.methodLink RX9 1 objectInit ∈ c0 :: wsL_law := List.mem_cons_of_mem _ wr_10
theorem wr_11 : Cond.instanceMethod objectInit ∈ wsL_law := in_r1 _ (List.mem_of_getElem? (i := 11) rfl)
theorem wm_11 {c0 : Cond} : Cond.instanceMethod objectInit ∈ c0 :: wsL_law := List.mem_cons_of_mem _ wr_11
theorem wr_12 : Cond.code objectInit ⟨#[0xb1]⟩ 1 none ∈ wsL_law := in_r1 _ (List.mem_of_getElem? (i := 12) rfl)
theorem wm_12 {c0 : Cond} : Cond.code objectInit ⟨#[0xb1]⟩ 1 none ∈ c0 :: wsL_law := List.mem_cons_of_mem _ wr_12
theorem wr_13 : Cond.classLink RX9 7 RX7 ∈ wsL_law := in_r1 _ (List.mem_of_getElem? (i := 13) rfl)
theorem wm_13 {c0 : Cond} : Cond.classLink RX9 7 RX7 ∈ c0 :: wsL_law := List.mem_cons_of_mem _ wr_13
theorem wr_14 : Cond.instantiable RX7 2 ∈ wsL_law := in_r1 _ (List.mem_of_getElem? (i := 14) rfl)
theorem wm_14 {c0 : Cond} : Cond.instantiable RX7 2 ∈ c0 :: wsL_law := List.mem_cons_of_mem _ wr_14
theorem wr_15 : Cond.initialized RX7 ∈ wsL_law := in_r1 _ (List.mem_of_getElem? (i := 15) rfl)
theorem wm_15 {c0 : Cond} : Cond.initialized RX7 ∈ c0 :: wsL_law := List.mem_cons_of_mem _ wr_15
theorem wr_16 : Cond.fieldLink RX9 10 "WireGuess" "text" "LWireGuess$Text;" ∈ wsL_law := in_r1 _ (List.mem_of_getElem? (i := 16) rfl)
theorem wm_16 {c0 : Cond} : Cond.fieldLink RX9 10 "WireGuess" "text" "LWireGuess$Text;" ∈ c0 :: wsL_law := List.mem_cons_of_mem _ wr_16
theorem wr_17 : Cond.classLink RX9 16 RX8 ∈ wsL_law := in_r1 _ (List.mem_of_getElem? (i := 17) rfl)
theorem wm_17 {c0 : Cond} : Cond.classLink RX9 16 RX8 ∈ c0 :: wsL_law := List.mem_cons_of_mem _ wr_17
theorem wr_18 : Cond.instantiable RX8 2 ∈ wsL_law := in_r1 _ (List.mem_of_getElem? (i := 18) rfl)
theorem wm_18 {c0 : Cond} : Cond.instantiable RX8 2 ∈ c0 :: wsL_law := List.mem_cons_of_mem _ wr_18
theorem wr_19 : Cond.initialized RX8 ∈ wsL_law := in_r1 _ (List.mem_of_getElem? (i := 19) rfl)
theorem wm_19 {c0 : Cond} : Cond.initialized RX8 ∈ c0 :: wsL_law := List.mem_cons_of_mem _ wr_19
theorem wr_20 : Cond.fieldLink RX9 19 "WireGuess" "wire" "LWireGuess$Wire;" ∈ wsL_law := in_r1 _ (List.mem_of_getElem? (i := 20) rfl)
theorem wm_20 {c0 : Cond} : Cond.fieldLink RX9 19 "WireGuess" "wire" "LWireGuess$Wire;" ∈ c0 :: wsL_law := List.mem_cons_of_mem _ wr_20
theorem wr_21 : Cond.fieldLink RX9 23 "WireGuess" "trial" "LWireGuess$Wire;" ∈ wsL_law := in_r1 _ (List.mem_of_getElem? (i := 21) rfl)
theorem wm_21 {c0 : Cond} : Cond.fieldLink RX9 23 "WireGuess" "trial" "LWireGuess$Wire;" ∈ c0 :: wsL_law := List.mem_cons_of_mem _ wr_21
theorem wr_22 : Cond.classLink RX9 26 RX6 ∈ wsL_law := in_r1 _ (List.mem_of_getElem? (i := 22) rfl)
theorem wm_22 {c0 : Cond} : Cond.classLink RX9 26 RX6 ∈ c0 :: wsL_law := List.mem_cons_of_mem _ wr_22
theorem wr_23 : Cond.instantiable RX6 2 ∈ wsL_law := in_r1 _ (List.mem_of_getElem? (i := 23) rfl)
theorem wm_23 {c0 : Cond} : Cond.instantiable RX6 2 ∈ c0 :: wsL_law := List.mem_cons_of_mem _ wr_23
theorem wr_24 : Cond.initialized RX6 ∈ wsL_law := in_r2 _ (List.mem_of_getElem? (i := 0) rfl)
theorem wm_24 {c0 : Cond} : Cond.initialized RX6 ∈ c0 :: wsL_law := List.mem_cons_of_mem _ wr_24
theorem wr_25 : Cond.fieldLink RX9 29 "WireGuess" "slots" "LWireGuess$Slots;" ∈ wsL_law := in_r2 _ (List.mem_of_getElem? (i := 1) rfl)
theorem wm_25 {c0 : Cond} : Cond.fieldLink RX9 29 "WireGuess" "slots" "LWireGuess$Slots;" ∈ c0 :: wsL_law := List.mem_cons_of_mem _ wr_25
theorem wr_26 : Cond.classLink RX9 33 RX0 ∈ wsL_law := in_r2 _ (List.mem_of_getElem? (i := 2) rfl)
theorem wm_26 {c0 : Cond} : Cond.classLink RX9 33 RX0 ∈ c0 :: wsL_law := List.mem_cons_of_mem _ wr_26
theorem wr_27 : Cond.instantiable RX0 5 ∈ wsL_law := in_r2 _ (List.mem_of_getElem? (i := 3) rfl)
theorem wm_27 {c0 : Cond} : Cond.instantiable RX0 5 ∈ c0 :: wsL_law := List.mem_cons_of_mem _ wr_27
theorem wr_28 : Cond.initialized RX0 ∈ wsL_law := in_r2 _ (List.mem_of_getElem? (i := 4) rfl)
theorem wm_28 {c0 : Cond} : Cond.initialized RX0 ∈ c0 :: wsL_law := List.mem_cons_of_mem _ wr_28
theorem wr_29 : Cond.fieldLink RX9 36 "WireGuess" "acts" "LWireGuess$Acts;" ∈ wsL_law := in_r2 _ (List.mem_of_getElem? (i := 5) rfl)
theorem wm_29 {c0 : Cond} : Cond.fieldLink RX9 36 "WireGuess" "acts" "LWireGuess$Acts;" ∈ c0 :: wsL_law := List.mem_cons_of_mem _ wr_29
theorem wr_30 : Cond.classLink RX9 40 RX2 ∈ wsL_law := in_r2 _ (List.mem_of_getElem? (i := 6) rfl)
theorem wm_30 {c0 : Cond} : Cond.classLink RX9 40 RX2 ∈ c0 :: wsL_law := List.mem_cons_of_mem _ wr_30
theorem wr_31 : Cond.instantiable RX2 3 ∈ wsL_law := in_r2 _ (List.mem_of_getElem? (i := 7) rfl)
theorem wm_31 {c0 : Cond} : Cond.instantiable RX2 3 ∈ c0 :: wsL_law := List.mem_cons_of_mem _ wr_31
theorem wr_32 : Cond.initialized RX2 ∈ wsL_law := in_r2 _ (List.mem_of_getElem? (i := 8) rfl)
theorem wm_32 {c0 : Cond} : Cond.initialized RX2 ∈ c0 :: wsL_law := List.mem_cons_of_mem _ wr_32
theorem wr_33 : Cond.fieldLink RX9 43 "WireGuess" "known" "LWireGuess$Known;" ∈ wsL_law := in_r2 _ (List.mem_of_getElem? (i := 9) rfl)
theorem wm_33 {c0 : Cond} : Cond.fieldLink RX9 43 "WireGuess" "known" "LWireGuess$Known;" ∈ c0 :: wsL_law := List.mem_cons_of_mem _ wr_33
theorem wr_34 : Cond.classLink RX9 47 RX1 ∈ wsL_law := in_r2 _ (List.mem_of_getElem? (i := 10) rfl)
theorem wm_34 {c0 : Cond} : Cond.classLink RX9 47 RX1 ∈ c0 :: wsL_law := List.mem_cons_of_mem _ wr_34
theorem wr_35 : Cond.instantiable RX1 5 ∈ wsL_law := in_r2 _ (List.mem_of_getElem? (i := 11) rfl)
theorem wm_35 {c0 : Cond} : Cond.instantiable RX1 5 ∈ c0 :: wsL_law := List.mem_cons_of_mem _ wr_35
theorem wr_36 : Cond.initialized RX1 ∈ wsL_law := in_r2 _ (List.mem_of_getElem? (i := 12) rfl)
theorem wm_36 {c0 : Cond} : Cond.initialized RX1 ∈ c0 :: wsL_law := List.mem_cons_of_mem _ wr_36
theorem wr_37 : Cond.fieldLink RX9 50 "WireGuess" "asked" "LWireGuess$Guess;" ∈ wsL_law := in_r2 _ (List.mem_of_getElem? (i := 13) rfl)
theorem wm_37 {c0 : Cond} : Cond.fieldLink RX9 50 "WireGuess" "asked" "LWireGuess$Guess;" ∈ c0 :: wsL_law := List.mem_cons_of_mem _ wr_37
theorem wr_38 : Cond.classLink RX9 54 RX4 ∈ wsL_law := in_r2 _ (List.mem_of_getElem? (i := 14) rfl)
theorem wm_38 {c0 : Cond} : Cond.classLink RX9 54 RX4 ∈ c0 :: wsL_law := List.mem_cons_of_mem _ wr_38
theorem wr_39 : Cond.instantiable RX4 8 ∈ wsL_law := in_r2 _ (List.mem_of_getElem? (i := 15) rfl)
theorem wm_39 {c0 : Cond} : Cond.instantiable RX4 8 ∈ c0 :: wsL_law := List.mem_cons_of_mem _ wr_39
theorem wr_40 : Cond.initialized RX4 ∈ wsL_law := in_r2 _ (List.mem_of_getElem? (i := 16) rfl)
theorem wm_40 {c0 : Cond} : Cond.initialized RX4 ∈ c0 :: wsL_law := List.mem_cons_of_mem _ wr_40
theorem wr_41 : Cond.fieldLink RX9 57 "WireGuess" "reader" "LWireGuess$Reader;" ∈ wsL_law := in_r2 _ (List.mem_of_getElem? (i := 17) rfl)
theorem wm_41 {c0 : Cond} : Cond.fieldLink RX9 57 "WireGuess" "reader" "LWireGuess$Reader;" ∈ c0 :: wsL_law := List.mem_cons_of_mem _ wr_41
theorem wr_42 : Cond.classLink RX9 61 RX3 ∈ wsL_law := in_r2 _ (List.mem_of_getElem? (i := 18) rfl)
theorem wm_42 {c0 : Cond} : Cond.classLink RX9 61 RX3 ∈ c0 :: wsL_law := List.mem_cons_of_mem _ wr_42
theorem wr_43 : Cond.instantiable RX3 8 ∈ wsL_law := in_r2 _ (List.mem_of_getElem? (i := 19) rfl)
theorem wm_43 {c0 : Cond} : Cond.instantiable RX3 8 ∈ c0 :: wsL_law := List.mem_cons_of_mem _ wr_43
theorem wr_44 : Cond.initialized RX3 ∈ wsL_law := in_r2 _ (List.mem_of_getElem? (i := 20) rfl)
theorem wm_44 {c0 : Cond} : Cond.initialized RX3 ∈ c0 :: wsL_law := List.mem_cons_of_mem _ wr_44
theorem wr_45 : Cond.fieldLink RX9 64 "WireGuess" "ranking" "LWireGuess$Ranking;" ∈ wsL_law := in_r2 _ (List.mem_of_getElem? (i := 21) rfl)
theorem wm_45 {c0 : Cond} : Cond.fieldLink RX9 64 "WireGuess" "ranking" "LWireGuess$Ranking;" ∈ c0 :: wsL_law := List.mem_cons_of_mem _ wr_45
theorem wr_46 : Cond.arrayClass .int ∈ wsL_law := in_r2 _ (List.mem_of_getElem? (i := 22) rfl)
theorem wm_46 {c0 : Cond} : Cond.arrayClass .int ∈ c0 :: wsL_law := List.mem_cons_of_mem _ wr_46
theorem wr_47 : Cond.fieldLink RX9 68 "WireGuess" "shakyTicks" "[I" ∈ wsL_law := in_r2 _ (List.mem_of_getElem? (i := 23) rfl)
theorem wm_47 {c0 : Cond} : Cond.fieldLink RX9 68 "WireGuess" "shakyTicks" "[I" ∈ c0 :: wsL_law := List.mem_cons_of_mem _ wr_47
theorem wr_48 : Cond.fieldLink RX9 72 "WireGuess" "seedNow" "J" ∈ wsL_law := in_r3 _ (List.mem_of_getElem? (i := 0) rfl)
theorem wm_48 {c0 : Cond} : Cond.fieldLink RX9 72 "WireGuess" "seedNow" "J" ∈ c0 :: wsL_law := List.mem_cons_of_mem _ wr_48
theorem wr_49 : Cond.instanceMethod yX7_init ∈ wsL_law := in_r3 _ (List.mem_of_getElem? (i := 1) rfl)
theorem wm_49 {c0 : Cond} : Cond.instanceMethod yX7_init ∈ c0 :: wsL_law := List.mem_cons_of_mem _ wr_49
theorem wr_50 : Cond.code yX7_init cX7_init 1 none ∈ wsL_law := in_r3 _ (List.mem_of_getElem? (i := 2) rfl)
theorem wm_50 {c0 : Cond} : Cond.code yX7_init cX7_init 1 none ∈ c0 :: wsL_law := List.mem_cons_of_mem _ wr_50
theorem wr_51 : Cond.methodLink RX7 3 objectInit ∈ wsL_law := in_r3 _ (List.mem_of_getElem? (i := 3) rfl)
theorem wm_51 {c0 : Cond} : Cond.methodLink RX7 3 objectInit ∈ c0 :: wsL_law := List.mem_cons_of_mem _ wr_51
theorem wr_52 : Cond.fieldLink RX7 9 "WireGuess$Text" "letters" "[I" ∈ wsL_law := in_r3 _ (List.mem_of_getElem? (i := 4) rfl)
theorem wm_52 {c0 : Cond} : Cond.fieldLink RX7 9 "WireGuess$Text" "letters" "[I" ∈ c0 :: wsL_law := List.mem_cons_of_mem _ wr_52
theorem wr_53 : Cond.fieldLink RX7 15 "WireGuess$Text" "length" "I" ∈ wsL_law := in_r3 _ (List.mem_of_getElem? (i := 5) rfl)
theorem wm_53 {c0 : Cond} : Cond.fieldLink RX7 15 "WireGuess$Text" "length" "I" ∈ c0 :: wsL_law := List.mem_cons_of_mem _ wr_53
theorem wr_54 : Cond.instanceMethod yX8_init ∈ wsL_law := in_r3 _ (List.mem_of_getElem? (i := 6) rfl)
theorem wm_54 {c0 : Cond} : Cond.instanceMethod yX8_init ∈ c0 :: wsL_law := List.mem_cons_of_mem _ wr_54
theorem wr_55 : Cond.code yX8_init cX8_init 1 none ∈ wsL_law := in_r3 _ (List.mem_of_getElem? (i := 7) rfl)
theorem wm_55 {c0 : Cond} : Cond.code yX8_init cX8_init 1 none ∈ c0 :: wsL_law := List.mem_cons_of_mem _ wr_55
theorem wr_56 : Cond.methodLink RX8 3 objectInit ∈ wsL_law := in_r3 _ (List.mem_of_getElem? (i := 8) rfl)
theorem wm_56 {c0 : Cond} : Cond.methodLink RX8 3 objectInit ∈ c0 :: wsL_law := List.mem_cons_of_mem _ wr_56
theorem wr_57 : Cond.fieldLink RX8 9 "WireGuess$Wire" "levels" "[I" ∈ wsL_law := in_r3 _ (List.mem_of_getElem? (i := 9) rfl)
theorem wm_57 {c0 : Cond} : Cond.fieldLink RX8 9 "WireGuess$Wire" "levels" "[I" ∈ c0 :: wsL_law := List.mem_cons_of_mem _ wr_57
theorem wr_58 : Cond.fieldLink RX8 15 "WireGuess$Wire" "ticks" "I" ∈ wsL_law := in_r3 _ (List.mem_of_getElem? (i := 10) rfl)
theorem wm_58 {c0 : Cond} : Cond.fieldLink RX8 15 "WireGuess$Wire" "ticks" "I" ∈ c0 :: wsL_law := List.mem_cons_of_mem _ wr_58
theorem wr_59 : Cond.instanceMethod yX6_init ∈ wsL_law := in_r3 _ (List.mem_of_getElem? (i := 11) rfl)
theorem wm_59 {c0 : Cond} : Cond.instanceMethod yX6_init ∈ c0 :: wsL_law := List.mem_cons_of_mem _ wr_59
theorem wr_60 : Cond.code yX6_init cX6_init 1 none ∈ wsL_law := in_r3 _ (List.mem_of_getElem? (i := 12) rfl)
theorem wm_60 {c0 : Cond} : Cond.code yX6_init cX6_init 1 none ∈ c0 :: wsL_law := List.mem_cons_of_mem _ wr_60
theorem wr_61 : Cond.methodLink RX6 3 objectInit ∈ wsL_law := in_r3 _ (List.mem_of_getElem? (i := 13) rfl)
theorem wm_61 {c0 : Cond} : Cond.methodLink RX6 3 objectInit ∈ c0 :: wsL_law := List.mem_cons_of_mem _ wr_61
theorem wr_62 : Cond.classLink RX6 9 RX8 ∈ wsL_law := in_r3 _ (List.mem_of_getElem? (i := 14) rfl)
theorem wm_62 {c0 : Cond} : Cond.classLink RX6 9 RX8 ∈ c0 :: wsL_law := List.mem_cons_of_mem _ wr_62
theorem wr_63 : Cond.fieldLink RX6 12 "WireGuess$Slots" "wires" "[LWireGuess$Wire;" ∈ wsL_law := in_r3 _ (List.mem_of_getElem? (i := 15) rfl)
theorem wm_63 {c0 : Cond} : Cond.fieldLink RX6 12 "WireGuess$Slots" "wires" "[LWireGuess$Wire;" ∈ c0 :: wsL_law := List.mem_cons_of_mem _ wr_63
theorem wr_64 : Cond.arrayClass .boolean ∈ wsL_law := in_r3 _ (List.mem_of_getElem? (i := 16) rfl)
theorem wm_64 {c0 : Cond} : Cond.arrayClass .boolean ∈ c0 :: wsL_law := List.mem_cons_of_mem _ wr_64
theorem wr_65 : Cond.fieldLink RX6 18 "WireGuess$Slots" "used" "[Z" ∈ wsL_law := in_r3 _ (List.mem_of_getElem? (i := 17) rfl)
theorem wm_65 {c0 : Cond} : Cond.fieldLink RX6 18 "WireGuess$Slots" "used" "[Z" ∈ c0 :: wsL_law := List.mem_cons_of_mem _ wr_65
theorem wr_66 : Cond.instanceMethod yX0_init ∈ wsL_law := in_r3 _ (List.mem_of_getElem? (i := 18) rfl)
theorem wm_66 {c0 : Cond} : Cond.instanceMethod yX0_init ∈ c0 :: wsL_law := List.mem_cons_of_mem _ wr_66
theorem wr_67 : Cond.code yX0_init cX0_init 1 none ∈ wsL_law := in_r3 _ (List.mem_of_getElem? (i := 19) rfl)
theorem wm_67 {c0 : Cond} : Cond.code yX0_init cX0_init 1 none ∈ c0 :: wsL_law := List.mem_cons_of_mem _ wr_67
theorem wr_68 : Cond.methodLink RX0 3 objectInit ∈ wsL_law := in_r3 _ (List.mem_of_getElem? (i := 20) rfl)
theorem wm_68 {c0 : Cond} : Cond.methodLink RX0 3 objectInit ∈ c0 :: wsL_law := List.mem_cons_of_mem _ wr_68
theorem wr_69 : Cond.fieldLink RX0 9 "WireGuess$Acts" "kinds" "[I" ∈ wsL_law := in_r3 _ (List.mem_of_getElem? (i := 21) rfl)
theorem wm_69 {c0 : Cond} : Cond.fieldLink RX0 9 "WireGuess$Acts" "kinds" "[I" ∈ c0 :: wsL_law := List.mem_cons_of_mem _ wr_69
theorem wr_70 : Cond.fieldLink RX0 15 "WireGuess$Acts" "amounts" "[I" ∈ wsL_law := in_r3 _ (List.mem_of_getElem? (i := 22) rfl)
theorem wm_70 {c0 : Cond} : Cond.fieldLink RX0 15 "WireGuess$Acts" "amounts" "[I" ∈ c0 :: wsL_law := List.mem_cons_of_mem _ wr_70
theorem wr_71 : Cond.arrayClass .long ∈ wsL_law := in_r3 _ (List.mem_of_getElem? (i := 23) rfl)
theorem wm_71 {c0 : Cond} : Cond.arrayClass .long ∈ c0 :: wsL_law := List.mem_cons_of_mem _ wr_71
theorem wr_72 : Cond.fieldLink RX0 18 "WireGuess$Acts" "gone" "[J" ∈ wsL_law := in_r4 _ (List.mem_of_getElem? (i := 0) rfl)
theorem wm_72 {c0 : Cond} : Cond.fieldLink RX0 18 "WireGuess$Acts" "gone" "[J" ∈ c0 :: wsL_law := List.mem_cons_of_mem _ wr_72
theorem wr_73 : Cond.fieldLink RX0 22 "WireGuess$Acts" "first" "I" ∈ wsL_law := in_r4 _ (List.mem_of_getElem? (i := 1) rfl)
theorem wm_73 {c0 : Cond} : Cond.fieldLink RX0 22 "WireGuess$Acts" "first" "I" ∈ c0 :: wsL_law := List.mem_cons_of_mem _ wr_73
theorem wr_74 : Cond.fieldLink RX0 26 "WireGuess$Acts" "size" "I" ∈ wsL_law := in_r4 _ (List.mem_of_getElem? (i := 2) rfl)
theorem wm_74 {c0 : Cond} : Cond.fieldLink RX0 26 "WireGuess$Acts" "size" "I" ∈ c0 :: wsL_law := List.mem_cons_of_mem _ wr_74
theorem wr_75 : Cond.instanceMethod yX2_init ∈ wsL_law := in_r4 _ (List.mem_of_getElem? (i := 3) rfl)
theorem wm_75 {c0 : Cond} : Cond.instanceMethod yX2_init ∈ c0 :: wsL_law := List.mem_cons_of_mem _ wr_75
theorem wr_76 : Cond.code yX2_init cX2_init 1 none ∈ wsL_law := in_r4 _ (List.mem_of_getElem? (i := 4) rfl)
theorem wm_76 {c0 : Cond} : Cond.code yX2_init cX2_init 1 none ∈ c0 :: wsL_law := List.mem_cons_of_mem _ wr_76
theorem wr_77 : Cond.methodLink RX2 3 objectInit ∈ wsL_law := in_r4 _ (List.mem_of_getElem? (i := 5) rfl)
theorem wm_77 {c0 : Cond} : Cond.methodLink RX2 3 objectInit ∈ c0 :: wsL_law := List.mem_cons_of_mem _ wr_77
theorem wr_78 : Cond.fieldLink RX2 9 "WireGuess$Known" "numbers" "[I" ∈ wsL_law := in_r4 _ (List.mem_of_getElem? (i := 6) rfl)
theorem wm_78 {c0 : Cond} : Cond.fieldLink RX2 9 "WireGuess$Known" "numbers" "[I" ∈ c0 :: wsL_law := List.mem_cons_of_mem _ wr_78
theorem wr_79 : Cond.fieldLink RX2 15 "WireGuess$Known" "values" "[I" ∈ wsL_law := in_r4 _ (List.mem_of_getElem? (i := 7) rfl)
theorem wm_79 {c0 : Cond} : Cond.fieldLink RX2 15 "WireGuess$Known" "values" "[I" ∈ c0 :: wsL_law := List.mem_cons_of_mem _ wr_79
theorem wr_80 : Cond.fieldLink RX2 18 "WireGuess$Known" "size" "I" ∈ wsL_law := in_r4 _ (List.mem_of_getElem? (i := 8) rfl)
theorem wm_80 {c0 : Cond} : Cond.fieldLink RX2 18 "WireGuess$Known" "size" "I" ∈ c0 :: wsL_law := List.mem_cons_of_mem _ wr_80
theorem wr_81 : Cond.instanceMethod yX1_init ∈ wsL_law := in_r4 _ (List.mem_of_getElem? (i := 9) rfl)
theorem wm_81 {c0 : Cond} : Cond.instanceMethod yX1_init ∈ c0 :: wsL_law := List.mem_cons_of_mem _ wr_81
theorem wr_82 : Cond.code yX1_init cX1_init 1 none ∈ wsL_law := in_r4 _ (List.mem_of_getElem? (i := 10) rfl)
theorem wm_82 {c0 : Cond} : Cond.code yX1_init cX1_init 1 none ∈ c0 :: wsL_law := List.mem_cons_of_mem _ wr_82
theorem wr_83 : Cond.methodLink RX1 3 objectInit ∈ wsL_law := in_r4 _ (List.mem_of_getElem? (i := 11) rfl)
theorem wm_83 {c0 : Cond} : Cond.methodLink RX1 3 objectInit ∈ c0 :: wsL_law := List.mem_cons_of_mem _ wr_83
theorem wr_84 : Cond.fieldLink RX1 9 "WireGuess$Guess" "bit" "I" ∈ wsL_law := in_r4 _ (List.mem_of_getElem? (i := 12) rfl)
theorem wm_84 {c0 : Cond} : Cond.fieldLink RX1 9 "WireGuess$Guess" "bit" "I" ∈ c0 :: wsL_law := List.mem_cons_of_mem _ wr_84
theorem wr_85 : Cond.fieldLink RX1 15 "WireGuess$Guess" "data" "I" ∈ wsL_law := in_r4 _ (List.mem_of_getElem? (i := 13) rfl)
theorem wm_85 {c0 : Cond} : Cond.fieldLink RX1 15 "WireGuess$Guess" "data" "I" ∈ c0 :: wsL_law := List.mem_cons_of_mem _ wr_85
theorem wr_86 : Cond.fieldLink RX1 18 "WireGuess$Guess" "parity" "I" ∈ wsL_law := in_r4 _ (List.mem_of_getElem? (i := 14) rfl)
theorem wm_86 {c0 : Cond} : Cond.fieldLink RX1 18 "WireGuess$Guess" "parity" "I" ∈ c0 :: wsL_law := List.mem_cons_of_mem _ wr_86
theorem wr_87 : Cond.fieldLink RX1 21 "WireGuess$Guess" "stops" "I" ∈ wsL_law := in_r4 _ (List.mem_of_getElem? (i := 15) rfl)
theorem wm_87 {c0 : Cond} : Cond.fieldLink RX1 21 "WireGuess$Guess" "stops" "I" ∈ c0 :: wsL_law := List.mem_cons_of_mem _ wr_87
theorem wr_88 : Cond.fieldLink RX1 24 "WireGuess$Guess" "idle" "I" ∈ wsL_law := in_r4 _ (List.mem_of_getElem? (i := 16) rfl)
theorem wm_88 {c0 : Cond} : Cond.fieldLink RX1 24 "WireGuess$Guess" "idle" "I" ∈ c0 :: wsL_law := List.mem_cons_of_mem _ wr_88
theorem wr_89 : Cond.instanceMethod yX4_init ∈ wsL_law := in_r4 _ (List.mem_of_getElem? (i := 17) rfl)
theorem wm_89 {c0 : Cond} : Cond.instanceMethod yX4_init ∈ c0 :: wsL_law := List.mem_cons_of_mem _ wr_89
theorem wr_90 : Cond.code yX4_init cX4_init 1 none ∈ wsL_law := in_r4 _ (List.mem_of_getElem? (i := 18) rfl)
theorem wm_90 {c0 : Cond} : Cond.code yX4_init cX4_init 1 none ∈ c0 :: wsL_law := List.mem_cons_of_mem _ wr_90
theorem wr_91 : Cond.methodLink RX4 3 objectInit ∈ wsL_law := in_r4 _ (List.mem_of_getElem? (i := 19) rfl)
theorem wm_91 {c0 : Cond} : Cond.methodLink RX4 3 objectInit ∈ c0 :: wsL_law := List.mem_cons_of_mem _ wr_91
theorem wr_92 : Cond.classLink RX4 9 RX5 ∈ wsL_law := in_r4 _ (List.mem_of_getElem? (i := 20) rfl)
theorem wm_92 {c0 : Cond} : Cond.classLink RX4 9 RX5 ∈ c0 :: wsL_law := List.mem_cons_of_mem _ wr_92
theorem wr_93 : Cond.instantiable RX5 4 ∈ wsL_law := in_r4 _ (List.mem_of_getElem? (i := 21) rfl)
theorem wm_93 {c0 : Cond} : Cond.instantiable RX5 4 ∈ c0 :: wsL_law := List.mem_cons_of_mem _ wr_93
theorem wr_94 : Cond.initialized RX5 ∈ wsL_law := in_r4 _ (List.mem_of_getElem? (i := 22) rfl)
theorem wm_94 {c0 : Cond} : Cond.initialized RX5 ∈ c0 :: wsL_law := List.mem_cons_of_mem _ wr_94
theorem wr_95 : Cond.fieldLink RX4 12 "WireGuess$Reader" "runs" "LWireGuess$Runs;" ∈ wsL_law := in_r4 _ (List.mem_of_getElem? (i := 23) rfl)
theorem wm_95 {c0 : Cond} : Cond.fieldLink RX4 12 "WireGuess$Reader" "runs" "LWireGuess$Runs;" ∈ c0 :: wsL_law := List.mem_cons_of_mem _ wr_95
theorem wr_96 : Cond.fieldLink RX4 18 "WireGuess$Reader" "letters" "[I" ∈ wsL_law := in_r5 _ (List.mem_of_getElem? (i := 0) rfl)
theorem wm_96 {c0 : Cond} : Cond.fieldLink RX4 18 "WireGuess$Reader" "letters" "[I" ∈ c0 :: wsL_law := List.mem_cons_of_mem _ wr_96
theorem wr_97 : Cond.fieldLink RX4 22 "WireGuess$Reader" "starts" "[I" ∈ wsL_law := in_r5 _ (List.mem_of_getElem? (i := 1) rfl)
theorem wm_97 {c0 : Cond} : Cond.fieldLink RX4 22 "WireGuess$Reader" "starts" "[I" ∈ c0 :: wsL_law := List.mem_cons_of_mem _ wr_97
theorem wr_98 : Cond.fieldLink RX4 25 "WireGuess$Reader" "frames" "I" ∈ wsL_law := in_r5 _ (List.mem_of_getElem? (i := 2) rfl)
theorem wm_98 {c0 : Cond} : Cond.fieldLink RX4 25 "WireGuess$Reader" "frames" "I" ∈ c0 :: wsL_law := List.mem_cons_of_mem _ wr_98
theorem wr_99 : Cond.fieldLink RX4 29 "WireGuess$Reader" "failure" "I" ∈ wsL_law := in_r5 _ (List.mem_of_getElem? (i := 3) rfl)
theorem wm_99 {c0 : Cond} : Cond.fieldLink RX4 29 "WireGuess$Reader" "failure" "I" ∈ c0 :: wsL_law := List.mem_cons_of_mem _ wr_99
theorem wr_100 : Cond.fieldLink RX4 32 "WireGuess$Reader" "failedStart" "I" ∈ wsL_law := in_r5 _ (List.mem_of_getElem? (i := 4) rfl)
theorem wm_100 {c0 : Cond} : Cond.fieldLink RX4 32 "WireGuess$Reader" "failedStart" "I" ∈ c0 :: wsL_law := List.mem_cons_of_mem _ wr_100
theorem wr_101 : Cond.fieldLink RX4 35 "WireGuess$Reader" "margin" "I" ∈ wsL_law := in_r5 _ (List.mem_of_getElem? (i := 5) rfl)
theorem wm_101 {c0 : Cond} : Cond.fieldLink RX4 35 "WireGuess$Reader" "margin" "I" ∈ c0 :: wsL_law := List.mem_cons_of_mem _ wr_101
theorem wr_102 : Cond.classLink RX4 38 RX8 ∈ wsL_law := in_r5 _ (List.mem_of_getElem? (i := 6) rfl)
theorem wm_102 {c0 : Cond} : Cond.classLink RX4 38 RX8 ∈ c0 :: wsL_law := List.mem_cons_of_mem _ wr_102
theorem wr_103 : Cond.fieldLink RX4 41 "WireGuess$Reader" "heard" "LWireGuess$Wire;" ∈ wsL_law := in_r5 _ (List.mem_of_getElem? (i := 7) rfl)
theorem wm_103 {c0 : Cond} : Cond.fieldLink RX4 41 "WireGuess$Reader" "heard" "LWireGuess$Wire;" ∈ c0 :: wsL_law := List.mem_cons_of_mem _ wr_103
theorem wr_104 : Cond.instanceMethod yX5_init ∈ wsL_law := in_r5 _ (List.mem_of_getElem? (i := 8) rfl)
theorem wm_104 {c0 : Cond} : Cond.instanceMethod yX5_init ∈ c0 :: wsL_law := List.mem_cons_of_mem _ wr_104
theorem wr_105 : Cond.code yX5_init cX5_init 1 none ∈ wsL_law := in_r5 _ (List.mem_of_getElem? (i := 9) rfl)
theorem wm_105 {c0 : Cond} : Cond.code yX5_init cX5_init 1 none ∈ c0 :: wsL_law := List.mem_cons_of_mem _ wr_105
theorem wr_106 : Cond.methodLink RX5 3 objectInit ∈ wsL_law := in_r5 _ (List.mem_of_getElem? (i := 10) rfl)
theorem wm_106 {c0 : Cond} : Cond.methodLink RX5 3 objectInit ∈ c0 :: wsL_law := List.mem_cons_of_mem _ wr_106
theorem wr_107 : Cond.fieldLink RX5 9 "WireGuess$Runs" "first" "[I" ∈ wsL_law := in_r5 _ (List.mem_of_getElem? (i := 11) rfl)
theorem wm_107 {c0 : Cond} : Cond.fieldLink RX5 9 "WireGuess$Runs" "first" "[I" ∈ c0 :: wsL_law := List.mem_cons_of_mem _ wr_107
theorem wr_108 : Cond.fieldLink RX5 15 "WireGuess$Runs" "last" "[I" ∈ wsL_law := in_r5 _ (List.mem_of_getElem? (i := 12) rfl)
theorem wm_108 {c0 : Cond} : Cond.fieldLink RX5 15 "WireGuess$Runs" "last" "[I" ∈ c0 :: wsL_law := List.mem_cons_of_mem _ wr_108
theorem wr_109 : Cond.fieldLink RX5 18 "WireGuess$Runs" "ticks" "I" ∈ wsL_law := in_r5 _ (List.mem_of_getElem? (i := 13) rfl)
theorem wm_109 {c0 : Cond} : Cond.fieldLink RX5 18 "WireGuess$Runs" "ticks" "I" ∈ c0 :: wsL_law := List.mem_cons_of_mem _ wr_109
theorem wr_110 : Cond.fieldLink RX5 22 "WireGuess$Runs" "runs" "I" ∈ wsL_law := in_r5 _ (List.mem_of_getElem? (i := 14) rfl)
theorem wm_110 {c0 : Cond} : Cond.fieldLink RX5 22 "WireGuess$Runs" "runs" "I" ∈ c0 :: wsL_law := List.mem_cons_of_mem _ wr_110
theorem wr_111 : Cond.instanceMethod yX3_init ∈ wsL_law := in_r5 _ (List.mem_of_getElem? (i := 15) rfl)
theorem wm_111 {c0 : Cond} : Cond.instanceMethod yX3_init ∈ c0 :: wsL_law := List.mem_cons_of_mem _ wr_111
theorem wr_112 : Cond.code yX3_init cX3_init 1 none ∈ wsL_law := in_r5 _ (List.mem_of_getElem? (i := 16) rfl)
theorem wm_112 {c0 : Cond} : Cond.code yX3_init cX3_init 1 none ∈ c0 :: wsL_law := List.mem_cons_of_mem _ wr_112
theorem wr_113 : Cond.methodLink RX3 3 objectInit ∈ wsL_law := in_r5 _ (List.mem_of_getElem? (i := 17) rfl)
theorem wm_113 {c0 : Cond} : Cond.methodLink RX3 3 objectInit ∈ c0 :: wsL_law := List.mem_cons_of_mem _ wr_113
theorem wr_114 : Cond.classLink RX3 9 RX1 ∈ wsL_law := in_r5 _ (List.mem_of_getElem? (i := 18) rfl)
theorem wm_114 {c0 : Cond} : Cond.classLink RX3 9 RX1 ∈ c0 :: wsL_law := List.mem_cons_of_mem _ wr_114
theorem wr_115 : Cond.fieldLink RX3 12 "WireGuess$Ranking" "tried" "LWireGuess$Guess;" ∈ wsL_law := in_r5 _ (List.mem_of_getElem? (i := 19) rfl)
theorem wm_115 {c0 : Cond} : Cond.fieldLink RX3 12 "WireGuess$Ranking" "tried" "LWireGuess$Guess;" ∈ c0 :: wsL_law := List.mem_cons_of_mem _ wr_115
theorem wr_116 : Cond.fieldLink RX3 18 "WireGuess$Ranking" "bestLetters" "[I" ∈ wsL_law := in_r5 _ (List.mem_of_getElem? (i := 20) rfl)
theorem wm_116 {c0 : Cond} : Cond.fieldLink RX3 18 "WireGuess$Ranking" "bestLetters" "[I" ∈ c0 :: wsL_law := List.mem_cons_of_mem _ wr_116
theorem wr_117 : Cond.fieldLink RX3 22 "WireGuess$Ranking" "fits" "I" ∈ wsL_law := in_r5 _ (List.mem_of_getElem? (i := 21) rfl)
theorem wm_117 {c0 : Cond} : Cond.fieldLink RX3 22 "WireGuess$Ranking" "fits" "I" ∈ c0 :: wsL_law := List.mem_cons_of_mem _ wr_117
theorem wr_118 : Cond.fieldLink RX3 26 "WireGuess$Ranking" "best" "I" ∈ wsL_law := in_r5 _ (List.mem_of_getElem? (i := 22) rfl)
theorem wm_118 {c0 : Cond} : Cond.fieldLink RX3 26 "WireGuess$Ranking" "best" "I" ∈ c0 :: wsL_law := List.mem_cons_of_mem _ wr_118
theorem wr_119 : Cond.fieldLink RX3 29 "WireGuess$Ranking" "bestMargin" "I" ∈ wsL_law := in_r5 _ (List.mem_of_getElem? (i := 23) rfl)
theorem wm_119 {c0 : Cond} : Cond.fieldLink RX3 29 "WireGuess$Ranking" "bestMargin" "I" ∈ c0 :: wsL_law := List.mem_cons_of_mem _ wr_119
theorem wr_120 : Cond.fieldLink RX3 32 "WireGuess$Ranking" "bestFrames" "I" ∈ wsL_law := in_r6 _ (List.mem_of_getElem? (i := 0) rfl)
theorem wm_120 {c0 : Cond} : Cond.fieldLink RX3 32 "WireGuess$Ranking" "bestFrames" "I" ∈ c0 :: wsL_law := List.mem_cons_of_mem _ wr_120
theorem wr_121 : Cond.fieldLink RX3 35 "WireGuess$Ranking" "left" "I" ∈ wsL_law := in_r6 _ (List.mem_of_getElem? (i := 1) rfl)
theorem wm_121 {c0 : Cond} : Cond.fieldLink RX3 35 "WireGuess$Ranking" "left" "I" ∈ c0 :: wsL_law := List.mem_cons_of_mem _ wr_121
theorem wr_122 : Cond.fieldLink RX3 38 "WireGuess$Ranking" "leastLeft" "I" ∈ wsL_law := in_r6 _ (List.mem_of_getElem? (i := 2) rfl)
theorem wm_122 {c0 : Cond} : Cond.fieldLink RX3 38 "WireGuess$Ranking" "leastLeft" "I" ∈ c0 :: wsL_law := List.mem_cons_of_mem _ wr_122
theorem wr_123 : Cond.methodLink RL 12 yX10_init ∈ wsL_law := in_r6 _ (List.mem_of_getElem? (i := 3) rfl)
theorem wm_123 {c0 : Cond} : Cond.methodLink RL 12 yX10_init ∈ c0 :: wsL_law := List.mem_cons_of_mem _ wr_123
theorem wr_124 : Cond.instanceMethod yX10_init ∈ wsL_law := in_r6 _ (List.mem_of_getElem? (i := 4) rfl)
theorem wm_124 {c0 : Cond} : Cond.instanceMethod yX10_init ∈ c0 :: wsL_law := List.mem_cons_of_mem _ wr_124
theorem wr_125 : Cond.code yX10_init cX10_init 1 none ∈ wsL_law := in_r6 _ (List.mem_of_getElem? (i := 5) rfl)
theorem wm_125 {c0 : Cond} : Cond.code yX10_init cX10_init 1 none ∈ c0 :: wsL_law := List.mem_cons_of_mem _ wr_125
theorem wr_126 : Cond.methodLink RX10 1 objectInit ∈ wsL_law := in_r6 _ (List.mem_of_getElem? (i := 6) rfl)
theorem wm_126 {c0 : Cond} : Cond.methodLink RX10 1 objectInit ∈ c0 :: wsL_law := List.mem_cons_of_mem _ wr_126
theorem wr_127 : Cond.fieldLink RX10 7 "WireGuessModel" "text" "[I" ∈ wsL_law := in_r6 _ (List.mem_of_getElem? (i := 7) rfl)
theorem wm_127 {c0 : Cond} : Cond.fieldLink RX10 7 "WireGuessModel" "text" "[I" ∈ c0 :: wsL_law := List.mem_cons_of_mem _ wr_127
theorem wr_128 : Cond.fieldLink RX10 13 "WireGuessModel" "now" "[I" ∈ wsL_law := in_r6 _ (List.mem_of_getElem? (i := 8) rfl)
theorem wm_128 {c0 : Cond} : Cond.fieldLink RX10 13 "WireGuessModel" "now" "[I" ∈ c0 :: wsL_law := List.mem_cons_of_mem _ wr_128
theorem wr_129 : Cond.fieldLink RX10 16 "WireGuessModel" "trial" "[I" ∈ wsL_law := in_r6 _ (List.mem_of_getElem? (i := 9) rfl)
theorem wm_129 {c0 : Cond} : Cond.fieldLink RX10 16 "WireGuessModel" "trial" "[I" ∈ c0 :: wsL_law := List.mem_cons_of_mem _ wr_129
theorem wr_130 : Cond.fieldLink RX10 19 "WireGuessModel" "diary" "[I" ∈ wsL_law := in_r6 _ (List.mem_of_getElem? (i := 10) rfl)
theorem wm_130 {c0 : Cond} : Cond.fieldLink RX10 19 "WireGuessModel" "diary" "[I" ∈ c0 :: wsL_law := List.mem_cons_of_mem _ wr_130
theorem wr_131 : Cond.fieldLink RX10 22 "WireGuessModel" "kept" "[I" ∈ wsL_law := in_r6 _ (List.mem_of_getElem? (i := 11) rfl)
theorem wm_131 {c0 : Cond} : Cond.fieldLink RX10 22 "WireGuessModel" "kept" "[I" ∈ c0 :: wsL_law := List.mem_cons_of_mem _ wr_131
theorem wr_132 : Cond.fieldLink RX10 25 "WireGuessModel" "isKept" "[Z" ∈ wsL_law := in_r6 _ (List.mem_of_getElem? (i := 12) rfl)
theorem wm_132 {c0 : Cond} : Cond.fieldLink RX10 25 "WireGuessModel" "isKept" "[Z" ∈ c0 :: wsL_law := List.mem_cons_of_mem _ wr_132
theorem wr_133 : Cond.fieldLink RX10 29 "WireGuessModel" "knownPlace" "[I" ∈ wsL_law := in_r6 _ (List.mem_of_getElem? (i := 13) rfl)
theorem wm_133 {c0 : Cond} : Cond.fieldLink RX10 29 "WireGuessModel" "knownPlace" "[I" ∈ c0 :: wsL_law := List.mem_cons_of_mem _ wr_133
theorem wr_134 : Cond.fieldLink RX10 32 "WireGuessModel" "knownLetter" "[I" ∈ wsL_law := in_r6 _ (List.mem_of_getElem? (i := 14) rfl)
theorem wm_134 {c0 : Cond} : Cond.fieldLink RX10 32 "WireGuessModel" "knownLetter" "[I" ∈ c0 :: wsL_law := List.mem_cons_of_mem _ wr_134
theorem wr_135 : Cond.fieldLink RX10 35 "WireGuessModel" "letters" "[I" ∈ wsL_law := in_r6 _ (List.mem_of_getElem? (i := 15) rfl)
theorem wm_135 {c0 : Cond} : Cond.fieldLink RX10 35 "WireGuessModel" "letters" "[I" ∈ c0 :: wsL_law := List.mem_cons_of_mem _ wr_135
theorem wr_136 : Cond.fieldLink RX10 38 "WireGuessModel" "starts" "[I" ∈ wsL_law := in_r6 _ (List.mem_of_getElem? (i := 16) rfl)
theorem wm_136 {c0 : Cond} : Cond.fieldLink RX10 38 "WireGuessModel" "starts" "[I" ∈ c0 :: wsL_law := List.mem_cons_of_mem _ wr_136
theorem wr_137 : Cond.fieldLink RX10 41 "WireGuessModel" "bestLetters" "[I" ∈ wsL_law := in_r6 _ (List.mem_of_getElem? (i := 17) rfl)
theorem wm_137 {c0 : Cond} : Cond.fieldLink RX10 41 "WireGuessModel" "bestLetters" "[I" ∈ c0 :: wsL_law := List.mem_cons_of_mem _ wr_137
theorem wr_138 : Cond.fieldLink RX10 44 "WireGuessModel" "deep" "[I" ∈ wsL_law := in_r6 _ (List.mem_of_getElem? (i := 18) rfl)
theorem wm_138 {c0 : Cond} : Cond.fieldLink RX10 44 "WireGuessModel" "deep" "[I" ∈ c0 :: wsL_law := List.mem_cons_of_mem _ wr_138
theorem wr_139 : Cond.fieldLink RX10 47 "WireGuessModel" "worth" "[I" ∈ wsL_law := in_r6 _ (List.mem_of_getElem? (i := 19) rfl)
theorem wm_139 {c0 : Cond} : Cond.fieldLink RX10 47 "WireGuessModel" "worth" "[I" ∈ c0 :: wsL_law := List.mem_cons_of_mem _ wr_139
theorem wr_140 : Cond.fieldLink RX10 50 "WireGuessModel" "readTicks" "[I" ∈ wsL_law := in_r6 _ (List.mem_of_getElem? (i := 20) rfl)
theorem wm_140 {c0 : Cond} : Cond.fieldLink RX10 50 "WireGuessModel" "readTicks" "[I" ∈ c0 :: wsL_law := List.mem_cons_of_mem _ wr_140
theorem wr_141 : Cond.methodLink RL 13 yX9_write ∈ wsL_law := in_r6 _ (List.mem_of_getElem? (i := 21) rfl)
theorem wm_141 {c0 : Cond} : Cond.methodLink RL 13 yX9_write ∈ c0 :: wsL_law := List.mem_cons_of_mem _ wr_141
theorem wr_142 : Cond.instanceMethod yX9_write ∈ wsL_law := in_r6 _ (List.mem_of_getElem? (i := 22) rfl)
theorem wm_142 {c0 : Cond} : Cond.instanceMethod yX9_write ∈ c0 :: wsL_law := List.mem_cons_of_mem _ wr_142
theorem wr_143 : Cond.selects RX9 yX9_write yX9_write ∈ wsL_law := in_r6 _ (List.mem_of_getElem? (i := 23) rfl)
theorem wm_143 {c0 : Cond} : Cond.selects RX9 yX9_write yX9_write ∈ c0 :: wsL_law := List.mem_cons_of_mem _ wr_143
theorem wr_144 : Cond.code yX9_write cX9_write 2 (some .int) ∈ wsL_law := in_r7 _ (List.mem_of_getElem? (i := 0) rfl)
theorem wm_144 {c0 : Cond} : Cond.code yX9_write cX9_write 2 (some .int) ∈ c0 :: wsL_law := List.mem_cons_of_mem _ wr_144
theorem wr_145 : Cond.methodLink RX9 76 yX9_isLetter ∈ wsL_law := in_r7 _ (List.mem_of_getElem? (i := 1) rfl)
theorem wm_145 {c0 : Cond} : Cond.methodLink RX9 76 yX9_isLetter ∈ c0 :: wsL_law := List.mem_cons_of_mem _ wr_145
theorem wr_146 : Cond.static yX9_isLetter ∈ wsL_law := in_r7 _ (List.mem_of_getElem? (i := 2) rfl)
theorem wm_146 {c0 : Cond} : Cond.static yX9_isLetter ∈ c0 :: wsL_law := List.mem_cons_of_mem _ wr_146
theorem wr_147 : Cond.code yX9_isLetter cX9_isLetter 1 (some .boolean) ∈ wsL_law := in_r7 _ (List.mem_of_getElem? (i := 3) rfl)
theorem wm_147 {c0 : Cond} : Cond.code yX9_isLetter cX9_isLetter 1 (some .boolean) ∈ c0 :: wsL_law := List.mem_cons_of_mem _ wr_147
theorem wr_148 : Cond.methodLink RX9 80 yX7_isFull ∈ wsL_law := in_r7 _ (List.mem_of_getElem? (i := 4) rfl)
theorem wm_148 {c0 : Cond} : Cond.methodLink RX9 80 yX7_isFull ∈ c0 :: wsL_law := List.mem_cons_of_mem _ wr_148
theorem wr_149 : Cond.instanceMethod yX7_isFull ∈ wsL_law := in_r7 _ (List.mem_of_getElem? (i := 5) rfl)
theorem wm_149 {c0 : Cond} : Cond.instanceMethod yX7_isFull ∈ c0 :: wsL_law := List.mem_cons_of_mem _ wr_149
theorem wr_150 : Cond.selects RX7 yX7_isFull yX7_isFull ∈ wsL_law := in_r7 _ (List.mem_of_getElem? (i := 6) rfl)
theorem wm_150 {c0 : Cond} : Cond.selects RX7 yX7_isFull yX7_isFull ∈ c0 :: wsL_law := List.mem_cons_of_mem _ wr_150
theorem wr_151 : Cond.code yX7_isFull cX7_isFull 1 (some .boolean) ∈ wsL_law := in_r7 _ (List.mem_of_getElem? (i := 7) rfl)
theorem wm_151 {c0 : Cond} : Cond.code yX7_isFull cX7_isFull 1 (some .boolean) ∈ c0 :: wsL_law := List.mem_cons_of_mem _ wr_151
theorem wr_152 : Cond.methodLink RX9 84 yX7_add ∈ wsL_law := in_r7 _ (List.mem_of_getElem? (i := 8) rfl)
theorem wm_152 {c0 : Cond} : Cond.methodLink RX9 84 yX7_add ∈ c0 :: wsL_law := List.mem_cons_of_mem _ wr_152
theorem wr_153 : Cond.instanceMethod yX7_add ∈ wsL_law := in_r7 _ (List.mem_of_getElem? (i := 9) rfl)
theorem wm_153 {c0 : Cond} : Cond.instanceMethod yX7_add ∈ c0 :: wsL_law := List.mem_cons_of_mem _ wr_153
theorem wr_154 : Cond.selects RX7 yX7_add yX7_add ∈ wsL_law := in_r7 _ (List.mem_of_getElem? (i := 10) rfl)
theorem wm_154 {c0 : Cond} : Cond.selects RX7 yX7_add yX7_add ∈ c0 :: wsL_law := List.mem_cons_of_mem _ wr_154
theorem wr_155 : Cond.code yX7_add cX7_add 2 none ∈ wsL_law := in_r7 _ (List.mem_of_getElem? (i := 11) rfl)
theorem wm_155 {c0 : Cond} : Cond.code yX7_add cX7_add 2 none ∈ c0 :: wsL_law := List.mem_cons_of_mem _ wr_155
theorem wr_156 : Cond.methodLink RX7 19 yX7_isFull ∈ wsL_law := in_r7 _ (List.mem_of_getElem? (i := 12) rfl)
theorem wm_156 {c0 : Cond} : Cond.methodLink RX7 19 yX7_isFull ∈ c0 :: wsL_law := List.mem_cons_of_mem _ wr_156
theorem wr_157 : Cond.methodLink RL 17 yX10_write ∈ wsL_law := in_r7 _ (List.mem_of_getElem? (i := 13) rfl)
theorem wm_157 {c0 : Cond} : Cond.methodLink RL 17 yX10_write ∈ c0 :: wsL_law := List.mem_cons_of_mem _ wr_157
theorem wr_158 : Cond.instanceMethod yX10_write ∈ wsL_law := in_r7 _ (List.mem_of_getElem? (i := 14) rfl)
theorem wm_158 {c0 : Cond} : Cond.instanceMethod yX10_write ∈ c0 :: wsL_law := List.mem_cons_of_mem _ wr_158
theorem wr_159 : Cond.selects RX10 yX10_write yX10_write ∈ wsL_law := in_r7 _ (List.mem_of_getElem? (i := 15) rfl)
theorem wm_159 {c0 : Cond} : Cond.selects RX10 yX10_write yX10_write ∈ c0 :: wsL_law := List.mem_cons_of_mem _ wr_159
theorem wr_160 : Cond.code yX10_write cX10_write 2 (some .int) ∈ wsL_law := in_r7 _ (List.mem_of_getElem? (i := 16) rfl)
theorem wm_160 {c0 : Cond} : Cond.code yX10_write cX10_write 2 (some .int) ∈ c0 :: wsL_law := List.mem_cons_of_mem _ wr_160
theorem wr_161 : Cond.constantLong RX10 57 (255) ∈ wsL_law := in_r7 _ (List.mem_of_getElem? (i := 17) rfl)
theorem wm_161 {c0 : Cond} : Cond.constantLong RX10 57 (255) ∈ c0 :: wsL_law := List.mem_cons_of_mem _ wr_161
theorem wr_162 : Cond.fieldLink RX10 59 "WireGuessModel" "length" "I" ∈ wsL_law := in_r7 _ (List.mem_of_getElem? (i := 18) rfl)
theorem wm_162 {c0 : Cond} : Cond.fieldLink RX10 59 "WireGuessModel" "length" "I" ∈ c0 :: wsL_law := List.mem_cons_of_mem _ wr_162
theorem wr_163 : Cond.methodLink RX10 53 yX10_in ∈ wsL_law := in_r7 _ (List.mem_of_getElem? (i := 19) rfl)
theorem wm_163 {c0 : Cond} : Cond.methodLink RX10 53 yX10_in ∈ c0 :: wsL_law := List.mem_cons_of_mem _ wr_163
theorem wr_164 : Cond.static yX10_in ∈ wsL_law := in_r7 _ (List.mem_of_getElem? (i := 20) rfl)
theorem wm_164 {c0 : Cond} : Cond.static yX10_in ∈ c0 :: wsL_law := List.mem_cons_of_mem _ wr_164
theorem wr_165 : Cond.code yX10_in cX10_in 6 (some .boolean) ∈ wsL_law := in_r7 _ (List.mem_of_getElem? (i := 21) rfl)
theorem wm_165 {c0 : Cond} : Cond.code yX10_in cX10_in 6 (some .boolean) ∈ c0 :: wsL_law := List.mem_cons_of_mem _ wr_165
theorem wr_166 : Cond.methodLink RL 18 yX9_wipe ∈ wsL_law := in_r7 _ (List.mem_of_getElem? (i := 22) rfl)
theorem wm_166 {c0 : Cond} : Cond.methodLink RL 18 yX9_wipe ∈ c0 :: wsL_law := List.mem_cons_of_mem _ wr_166
theorem wr_167 : Cond.instanceMethod yX9_wipe ∈ wsL_law := in_r7 _ (List.mem_of_getElem? (i := 23) rfl)
theorem wm_167 {c0 : Cond} : Cond.instanceMethod yX9_wipe ∈ c0 :: wsL_law := List.mem_cons_of_mem _ wr_167
theorem wr_168 : Cond.selects RX9 yX9_wipe yX9_wipe ∈ wsL_law := in_r8 _ (List.mem_of_getElem? (i := 0) rfl)
theorem wm_168 {c0 : Cond} : Cond.selects RX9 yX9_wipe yX9_wipe ∈ c0 :: wsL_law := List.mem_cons_of_mem _ wr_168
theorem wr_169 : Cond.code yX9_wipe cX9_wipe 2 (some .int) ∈ wsL_law := in_r8 _ (List.mem_of_getElem? (i := 1) rfl)
theorem wm_169 {c0 : Cond} : Cond.code yX9_wipe cX9_wipe 2 (some .int) ∈ c0 :: wsL_law := List.mem_cons_of_mem _ wr_169
theorem wr_170 : Cond.methodLink RL 22 yX10_wipe ∈ wsL_law := in_r8 _ (List.mem_of_getElem? (i := 2) rfl)
theorem wm_170 {c0 : Cond} : Cond.methodLink RL 22 yX10_wipe ∈ c0 :: wsL_law := List.mem_cons_of_mem _ wr_170
theorem wr_171 : Cond.instanceMethod yX10_wipe ∈ wsL_law := in_r8 _ (List.mem_of_getElem? (i := 3) rfl)
theorem wm_171 {c0 : Cond} : Cond.instanceMethod yX10_wipe ∈ c0 :: wsL_law := List.mem_cons_of_mem _ wr_171
theorem wr_172 : Cond.selects RX10 yX10_wipe yX10_wipe ∈ wsL_law := in_r8 _ (List.mem_of_getElem? (i := 4) rfl)
theorem wm_172 {c0 : Cond} : Cond.selects RX10 yX10_wipe yX10_wipe ∈ c0 :: wsL_law := List.mem_cons_of_mem _ wr_172
theorem wr_173 : Cond.code yX10_wipe cX10_wipe 2 (some .int) ∈ wsL_law := in_r8 _ (List.mem_of_getElem? (i := 5) rfl)
theorem wm_173 {c0 : Cond} : Cond.code yX10_wipe cX10_wipe 2 (some .int) ∈ c0 :: wsL_law := List.mem_cons_of_mem _ wr_173
theorem wr_174 : Cond.methodLink RL 23 yX9_fault ∈ wsL_law := in_r8 _ (List.mem_of_getElem? (i := 6) rfl)
theorem wm_174 {c0 : Cond} : Cond.methodLink RL 23 yX9_fault ∈ c0 :: wsL_law := List.mem_cons_of_mem _ wr_174
theorem wr_175 : Cond.instanceMethod yX9_fault ∈ wsL_law := in_r8 _ (List.mem_of_getElem? (i := 7) rfl)
theorem wm_175 {c0 : Cond} : Cond.instanceMethod yX9_fault ∈ c0 :: wsL_law := List.mem_cons_of_mem _ wr_175
theorem wr_176 : Cond.selects RX9 yX9_fault yX9_fault ∈ wsL_law := in_r8 _ (List.mem_of_getElem? (i := 8) rfl)
theorem wm_176 {c0 : Cond} : Cond.selects RX9 yX9_fault yX9_fault ∈ c0 :: wsL_law := List.mem_cons_of_mem _ wr_176
theorem wr_177 : Cond.code yX9_fault cX9_fault 1 (some .int) ∈ wsL_law := in_r8 _ (List.mem_of_getElem? (i := 9) rfl)
theorem wm_177 {c0 : Cond} : Cond.code yX9_fault cX9_fault 1 (some .int) ∈ c0 :: wsL_law := List.mem_cons_of_mem _ wr_177
theorem wr_178 : Cond.methodLink RX9 92 yX7_firstFault ∈ wsL_law := in_r8 _ (List.mem_of_getElem? (i := 10) rfl)
theorem wm_178 {c0 : Cond} : Cond.methodLink RX9 92 yX7_firstFault ∈ c0 :: wsL_law := List.mem_cons_of_mem _ wr_178
theorem wr_179 : Cond.instanceMethod yX7_firstFault ∈ wsL_law := in_r8 _ (List.mem_of_getElem? (i := 11) rfl)
theorem wm_179 {c0 : Cond} : Cond.instanceMethod yX7_firstFault ∈ c0 :: wsL_law := List.mem_cons_of_mem _ wr_179
theorem wr_180 : Cond.selects RX7 yX7_firstFault yX7_firstFault ∈ wsL_law := in_r8 _ (List.mem_of_getElem? (i := 12) rfl)
theorem wm_180 {c0 : Cond} : Cond.selects RX7 yX7_firstFault yX7_firstFault ∈ c0 :: wsL_law := List.mem_cons_of_mem _ wr_180
theorem wr_181 : Cond.code yX7_firstFault cX7_firstFault 4 (some .int) ∈ wsL_law := in_r8 _ (List.mem_of_getElem? (i := 13) rfl)
theorem wm_181 {c0 : Cond} : Cond.code yX7_firstFault cX7_firstFault 4 (some .int) ∈ c0 :: wsL_law := List.mem_cons_of_mem _ wr_181
theorem wr_182 : Cond.methodLink RX7 23 yX7_signAt ∈ wsL_law := in_r8 _ (List.mem_of_getElem? (i := 14) rfl)
theorem wm_182 {c0 : Cond} : Cond.methodLink RX7 23 yX7_signAt ∈ c0 :: wsL_law := List.mem_cons_of_mem _ wr_182
theorem wr_183 : Cond.instanceMethod yX7_signAt ∈ wsL_law := in_r8 _ (List.mem_of_getElem? (i := 15) rfl)
theorem wm_183 {c0 : Cond} : Cond.instanceMethod yX7_signAt ∈ c0 :: wsL_law := List.mem_cons_of_mem _ wr_183
theorem wr_184 : Cond.selects RX7 yX7_signAt yX7_signAt ∈ wsL_law := in_r8 _ (List.mem_of_getElem? (i := 16) rfl)
theorem wm_184 {c0 : Cond} : Cond.selects RX7 yX7_signAt yX7_signAt ∈ c0 :: wsL_law := List.mem_cons_of_mem _ wr_184
theorem wr_185 : Cond.code yX7_signAt cX7_signAt 2 (some .int) ∈ wsL_law := in_r8 _ (List.mem_of_getElem? (i := 17) rfl)
theorem wm_185 {c0 : Cond} : Cond.code yX7_signAt cX7_signAt 2 (some .int) ∈ c0 :: wsL_law := List.mem_cons_of_mem _ wr_185
theorem wr_186 : Cond.methodLink RX7 27 yX7_faultOfRun ∈ wsL_law := in_r8 _ (List.mem_of_getElem? (i := 18) rfl)
theorem wm_186 {c0 : Cond} : Cond.methodLink RX7 27 yX7_faultOfRun ∈ c0 :: wsL_law := List.mem_cons_of_mem _ wr_186
theorem wr_187 : Cond.instanceMethod yX7_faultOfRun ∈ wsL_law := in_r8 _ (List.mem_of_getElem? (i := 19) rfl)
theorem wm_187 {c0 : Cond} : Cond.instanceMethod yX7_faultOfRun ∈ c0 :: wsL_law := List.mem_cons_of_mem _ wr_187
theorem wr_188 : Cond.selects RX7 yX7_faultOfRun yX7_faultOfRun ∈ wsL_law := in_r8 _ (List.mem_of_getElem? (i := 20) rfl)
theorem wm_188 {c0 : Cond} : Cond.selects RX7 yX7_faultOfRun yX7_faultOfRun ∈ c0 :: wsL_law := List.mem_cons_of_mem _ wr_188
theorem wr_189 : Cond.code yX7_faultOfRun cX7_faultOfRun 7 (some .int) ∈ wsL_law := in_r8 _ (List.mem_of_getElem? (i := 21) rfl)
theorem wm_189 {c0 : Cond} : Cond.code yX7_faultOfRun cX7_faultOfRun 7 (some .int) ∈ c0 :: wsL_law := List.mem_cons_of_mem _ wr_189
theorem wr_190 : Cond.methodLink RX7 44 yX7_figureAt ∈ wsL_law := in_r8 _ (List.mem_of_getElem? (i := 22) rfl)
theorem wm_190 {c0 : Cond} : Cond.methodLink RX7 44 yX7_figureAt ∈ c0 :: wsL_law := List.mem_cons_of_mem _ wr_190
theorem wr_191 : Cond.instanceMethod yX7_figureAt ∈ wsL_law := in_r8 _ (List.mem_of_getElem? (i := 23) rfl)
theorem wm_191 {c0 : Cond} : Cond.instanceMethod yX7_figureAt ∈ c0 :: wsL_law := List.mem_cons_of_mem _ wr_191
theorem wr_192 : Cond.selects RX7 yX7_figureAt yX7_figureAt ∈ wsL_law := in_r9 _ (List.mem_of_getElem? (i := 0) rfl)
theorem wm_192 {c0 : Cond} : Cond.selects RX7 yX7_figureAt yX7_figureAt ∈ c0 :: wsL_law := List.mem_cons_of_mem _ wr_192
theorem wr_193 : Cond.code yX7_figureAt cX7_figureAt 3 (some .int) ∈ wsL_law := in_r9 _ (List.mem_of_getElem? (i := 1) rfl)
theorem wm_193 {c0 : Cond} : Cond.code yX7_figureAt cX7_figureAt 3 (some .int) ∈ c0 :: wsL_law := List.mem_cons_of_mem _ wr_193
theorem wr_194 : Cond.methodLink RX7 31 yX7_ticksToldAt ∈ wsL_law := in_r9 _ (List.mem_of_getElem? (i := 2) rfl)
theorem wm_194 {c0 : Cond} : Cond.methodLink RX7 31 yX7_ticksToldAt ∈ c0 :: wsL_law := List.mem_cons_of_mem _ wr_194
theorem wr_195 : Cond.instanceMethod yX7_ticksToldAt ∈ wsL_law := in_r9 _ (List.mem_of_getElem? (i := 3) rfl)
theorem wm_195 {c0 : Cond} : Cond.instanceMethod yX7_ticksToldAt ∈ c0 :: wsL_law := List.mem_cons_of_mem _ wr_195
theorem wr_196 : Cond.selects RX7 yX7_ticksToldAt yX7_ticksToldAt ∈ wsL_law := in_r9 _ (List.mem_of_getElem? (i := 4) rfl)
theorem wm_196 {c0 : Cond} : Cond.selects RX7 yX7_ticksToldAt yX7_ticksToldAt ∈ c0 :: wsL_law := List.mem_cons_of_mem _ wr_196
theorem wr_197 : Cond.code yX7_ticksToldAt cX7_ticksToldAt 2 (some .int) ∈ wsL_law := in_r9 _ (List.mem_of_getElem? (i := 5) rfl)
theorem wm_197 {c0 : Cond} : Cond.code yX7_ticksToldAt cX7_ticksToldAt 2 (some .int) ∈ c0 :: wsL_law := List.mem_cons_of_mem _ wr_197
theorem wr_198 : Cond.methodLink RL 26 yX10_fault ∈ wsL_law := in_r9 _ (List.mem_of_getElem? (i := 6) rfl)
theorem wm_198 {c0 : Cond} : Cond.methodLink RL 26 yX10_fault ∈ c0 :: wsL_law := List.mem_cons_of_mem _ wr_198
theorem wr_199 : Cond.instanceMethod yX10_fault ∈ wsL_law := in_r9 _ (List.mem_of_getElem? (i := 7) rfl)
theorem wm_199 {c0 : Cond} : Cond.instanceMethod yX10_fault ∈ c0 :: wsL_law := List.mem_cons_of_mem _ wr_199
theorem wr_200 : Cond.selects RX10 yX10_fault yX10_fault ∈ wsL_law := in_r9 _ (List.mem_of_getElem? (i := 8) rfl)
theorem wm_200 {c0 : Cond} : Cond.selects RX10 yX10_fault yX10_fault ∈ c0 :: wsL_law := List.mem_cons_of_mem _ wr_200
theorem wr_201 : Cond.code yX10_fault cX10_fault 1 (some .int) ∈ wsL_law := in_r9 _ (List.mem_of_getElem? (i := 9) rfl)
theorem wm_201 {c0 : Cond} : Cond.code yX10_fault cX10_fault 1 (some .int) ∈ c0 :: wsL_law := List.mem_cons_of_mem _ wr_201
theorem wr_202 : Cond.methodLink RX10 81 yX10_readText ∈ wsL_law := in_r9 _ (List.mem_of_getElem? (i := 10) rfl)
theorem wm_202 {c0 : Cond} : Cond.methodLink RX10 81 yX10_readText ∈ c0 :: wsL_law := List.mem_cons_of_mem _ wr_202
theorem wr_203 : Cond.instanceMethod yX10_readText ∈ wsL_law := in_r9 _ (List.mem_of_getElem? (i := 11) rfl)
theorem wm_203 {c0 : Cond} : Cond.instanceMethod yX10_readText ∈ c0 :: wsL_law := List.mem_cons_of_mem _ wr_203
theorem wr_204 : Cond.selects RX10 yX10_readText yX10_readText ∈ wsL_law := in_r9 _ (List.mem_of_getElem? (i := 12) rfl)
theorem wm_204 {c0 : Cond} : Cond.selects RX10 yX10_readText yX10_readText ∈ c0 :: wsL_law := List.mem_cons_of_mem _ wr_204
theorem wr_205 : Cond.code yX10_readText cX10_readText 2 (some .int) ∈ wsL_law := in_r9 _ (List.mem_of_getElem? (i := 13) rfl)
theorem wm_205 {c0 : Cond} : Cond.code yX10_readText cX10_readText 2 (some .int) ∈ c0 :: wsL_law := List.mem_cons_of_mem _ wr_205
theorem wr_206 : Cond.fieldLink RX10 74 "WireGuessModel" "readMany" "I" ∈ wsL_law := in_r9 _ (List.mem_of_getElem? (i := 14) rfl)
theorem wm_206 {c0 : Cond} : Cond.fieldLink RX10 74 "WireGuessModel" "readMany" "I" ∈ c0 :: wsL_law := List.mem_cons_of_mem _ wr_206
theorem wr_207 : Cond.fieldLink RX10 63 "WireGuessModel" "part" "I" ∈ wsL_law := in_r9 _ (List.mem_of_getElem? (i := 15) rfl)
theorem wm_207 {c0 : Cond} : Cond.fieldLink RX10 63 "WireGuessModel" "part" "I" ∈ c0 :: wsL_law := List.mem_cons_of_mem _ wr_207
theorem wr_208 : Cond.methodLink RX10 77 yX10_takeLetter ∈ wsL_law := in_r9 _ (List.mem_of_getElem? (i := 16) rfl)
theorem wm_208 {c0 : Cond} : Cond.methodLink RX10 77 yX10_takeLetter ∈ c0 :: wsL_law := List.mem_cons_of_mem _ wr_208
theorem wr_209 : Cond.instanceMethod yX10_takeLetter ∈ wsL_law := in_r9 _ (List.mem_of_getElem? (i := 17) rfl)
theorem wm_209 {c0 : Cond} : Cond.instanceMethod yX10_takeLetter ∈ c0 :: wsL_law := List.mem_cons_of_mem _ wr_209
theorem wr_210 : Cond.selects RX10 yX10_takeLetter yX10_takeLetter ∈ wsL_law := in_r9 _ (List.mem_of_getElem? (i := 18) rfl)
theorem wm_210 {c0 : Cond} : Cond.selects RX10 yX10_takeLetter yX10_takeLetter ∈ c0 :: wsL_law := List.mem_cons_of_mem _ wr_210
theorem wr_211 : Cond.code yX10_takeLetter cX10_takeLetter 5 (some .boolean) ∈ wsL_law := in_r9 _ (List.mem_of_getElem? (i := 19) rfl)
theorem wm_211 {c0 : Cond} : Cond.code yX10_takeLetter cX10_takeLetter 5 (some .boolean) ∈ c0 :: wsL_law := List.mem_cons_of_mem _ wr_211
theorem wr_212 : Cond.fieldLink RX10 66 "WireGuessModel" "readLevel" "I" ∈ wsL_law := in_r9 _ (List.mem_of_getElem? (i := 20) rfl)
theorem wm_212 {c0 : Cond} : Cond.fieldLink RX10 66 "WireGuessModel" "readLevel" "I" ∈ c0 :: wsL_law := List.mem_cons_of_mem _ wr_212
theorem wr_213 : Cond.fieldLink RX10 69 "WireGuessModel" "ten" "I" ∈ wsL_law := in_r9 _ (List.mem_of_getElem? (i := 21) rfl)
theorem wm_213 {c0 : Cond} : Cond.fieldLink RX10 69 "WireGuessModel" "ten" "I" ∈ c0 :: wsL_law := List.mem_cons_of_mem _ wr_213
theorem wr_214 : Cond.constantLong RX10 72 (9) ∈ wsL_law := in_r9 _ (List.mem_of_getElem? (i := 22) rfl)
theorem wm_214 {c0 : Cond} : Cond.constantLong RX10 72 (9) ∈ c0 :: wsL_law := List.mem_cons_of_mem _ wr_214
theorem wr_215 : Cond.methodLink RL 27 yX9_take ∈ wsL_law := in_r9 _ (List.mem_of_getElem? (i := 23) rfl)
theorem wm_215 {c0 : Cond} : Cond.methodLink RL 27 yX9_take ∈ c0 :: wsL_law := List.mem_cons_of_mem _ wr_215
theorem wr_216 : Cond.instanceMethod yX9_take ∈ wsL_law := in_r10 _ (List.mem_of_getElem? (i := 0) rfl)
theorem wm_216 {c0 : Cond} : Cond.instanceMethod yX9_take ∈ c0 :: wsL_law := List.mem_cons_of_mem _ wr_216
theorem wr_217 : Cond.selects RX9 yX9_take yX9_take ∈ wsL_law := in_r10 _ (List.mem_of_getElem? (i := 1) rfl)
theorem wm_217 {c0 : Cond} : Cond.selects RX9 yX9_take yX9_take ∈ c0 :: wsL_law := List.mem_cons_of_mem _ wr_217
theorem wr_218 : Cond.code yX9_take cX9_take 1 (some .int) ∈ wsL_law := in_r10 _ (List.mem_of_getElem? (i := 2) rfl)
theorem wm_218 {c0 : Cond} : Cond.code yX9_take cX9_take 1 (some .int) ∈ c0 :: wsL_law := List.mem_cons_of_mem _ wr_218
theorem wr_219 : Cond.methodLink RX9 96 yX7_layOn ∈ wsL_law := in_r10 _ (List.mem_of_getElem? (i := 3) rfl)
theorem wm_219 {c0 : Cond} : Cond.methodLink RX9 96 yX7_layOn ∈ c0 :: wsL_law := List.mem_cons_of_mem _ wr_219
theorem wr_220 : Cond.instanceMethod yX7_layOn ∈ wsL_law := in_r10 _ (List.mem_of_getElem? (i := 4) rfl)
theorem wm_220 {c0 : Cond} : Cond.instanceMethod yX7_layOn ∈ c0 :: wsL_law := List.mem_cons_of_mem _ wr_220
theorem wr_221 : Cond.selects RX7 yX7_layOn yX7_layOn ∈ wsL_law := in_r10 _ (List.mem_of_getElem? (i := 5) rfl)
theorem wm_221 {c0 : Cond} : Cond.selects RX7 yX7_layOn yX7_layOn ∈ c0 :: wsL_law := List.mem_cons_of_mem _ wr_221
theorem wr_222 : Cond.code yX7_layOn cX7_layOn 4 none ∈ wsL_law := in_r10 _ (List.mem_of_getElem? (i := 6) rfl)
theorem wm_222 {c0 : Cond} : Cond.code yX7_layOn cX7_layOn 4 none ∈ c0 :: wsL_law := List.mem_cons_of_mem _ wr_222
theorem wr_223 : Cond.methodLink RX7 34 yX8_shorten ∈ wsL_law := in_r10 _ (List.mem_of_getElem? (i := 7) rfl)
theorem wm_223 {c0 : Cond} : Cond.methodLink RX7 34 yX8_shorten ∈ c0 :: wsL_law := List.mem_cons_of_mem _ wr_223
theorem wr_224 : Cond.instanceMethod yX8_shorten ∈ wsL_law := in_r10 _ (List.mem_of_getElem? (i := 8) rfl)
theorem wm_224 {c0 : Cond} : Cond.instanceMethod yX8_shorten ∈ c0 :: wsL_law := List.mem_cons_of_mem _ wr_224
theorem wr_225 : Cond.selects RX8 yX8_shorten yX8_shorten ∈ wsL_law := in_r10 _ (List.mem_of_getElem? (i := 9) rfl)
theorem wm_225 {c0 : Cond} : Cond.selects RX8 yX8_shorten yX8_shorten ∈ c0 :: wsL_law := List.mem_cons_of_mem _ wr_225
theorem wr_226 : Cond.code yX8_shorten cX8_shorten 2 none ∈ wsL_law := in_r10 _ (List.mem_of_getElem? (i := 10) rfl)
theorem wm_226 {c0 : Cond} : Cond.code yX8_shorten cX8_shorten 2 none ∈ c0 :: wsL_law := List.mem_cons_of_mem _ wr_226
theorem wr_227 : Cond.methodLink RX8 51 Lib.Math.max.name ∈ wsL_law := in_r10 _ (List.mem_of_getElem? (i := 11) rfl)
theorem wm_227 {c0 : Cond} : Cond.methodLink RX8 51 Lib.Math.max.name ∈ c0 :: wsL_law := List.mem_cons_of_mem _ wr_227
theorem wr_228 : Cond.static Lib.Math.max.name ∈ wsL_law := in_r10 _ (List.mem_of_getElem? (i := 12) rfl)
theorem wm_228 {c0 : Cond} : Cond.static Lib.Math.max.name ∈ c0 :: wsL_law := List.mem_cons_of_mem _ wr_228
theorem wr_229 : Cond.initialized "java/lang/Math" ∈ wsL_law := in_r10 _ (List.mem_of_getElem? (i := 13) rfl)
theorem wm_229 {c0 : Cond} : Cond.initialized "java/lang/Math" ∈ c0 :: wsL_law := List.mem_cons_of_mem _ wr_229
theorem wr_230 : Cond.code Lib.Math.max.name Lib.Math.max.code 2 (some .int) ∈ wsL_law := in_r10 _ (List.mem_of_getElem? (i := 14) rfl)
theorem wm_230 {c0 : Cond} : Cond.code Lib.Math.max.name Lib.Math.max.code 2 (some .int) ∈ c0 :: wsL_law := List.mem_cons_of_mem _ wr_230
theorem wr_231 : Cond.methodLink RX7 40 yX8_extend ∈ wsL_law := in_r10 _ (List.mem_of_getElem? (i := 15) rfl)
theorem wm_231 {c0 : Cond} : Cond.methodLink RX7 40 yX8_extend ∈ c0 :: wsL_law := List.mem_cons_of_mem _ wr_231
theorem wr_232 : Cond.instanceMethod yX8_extend ∈ wsL_law := in_r10 _ (List.mem_of_getElem? (i := 16) rfl)
theorem wm_232 {c0 : Cond} : Cond.instanceMethod yX8_extend ∈ c0 :: wsL_law := List.mem_cons_of_mem _ wr_232
theorem wr_233 : Cond.selects RX8 yX8_extend yX8_extend ∈ wsL_law := in_r10 _ (List.mem_of_getElem? (i := 17) rfl)
theorem wm_233 {c0 : Cond} : Cond.selects RX8 yX8_extend yX8_extend ∈ c0 :: wsL_law := List.mem_cons_of_mem _ wr_233
theorem wr_234 : Cond.code yX8_extend cX8_extend 4 none ∈ wsL_law := in_r10 _ (List.mem_of_getElem? (i := 18) rfl)
theorem wm_234 {c0 : Cond} : Cond.code yX8_extend cX8_extend 4 none ∈ c0 :: wsL_law := List.mem_cons_of_mem _ wr_234
theorem wr_235 : Cond.methodLink RX9 100 yX0_clear ∈ wsL_law := in_r10 _ (List.mem_of_getElem? (i := 19) rfl)
theorem wm_235 {c0 : Cond} : Cond.methodLink RX9 100 yX0_clear ∈ c0 :: wsL_law := List.mem_cons_of_mem _ wr_235
theorem wr_236 : Cond.instanceMethod yX0_clear ∈ wsL_law := in_r10 _ (List.mem_of_getElem? (i := 20) rfl)
theorem wm_236 {c0 : Cond} : Cond.instanceMethod yX0_clear ∈ c0 :: wsL_law := List.mem_cons_of_mem _ wr_236
theorem wr_237 : Cond.selects RX0 yX0_clear yX0_clear ∈ wsL_law := in_r10 _ (List.mem_of_getElem? (i := 21) rfl)
theorem wm_237 {c0 : Cond} : Cond.selects RX0 yX0_clear yX0_clear ∈ c0 :: wsL_law := List.mem_cons_of_mem _ wr_237
theorem wr_238 : Cond.code yX0_clear cX0_clear 1 none ∈ wsL_law := in_r10 _ (List.mem_of_getElem? (i := 22) rfl)
theorem wm_238 {c0 : Cond} : Cond.code yX0_clear cX0_clear 1 none ∈ c0 :: wsL_law := List.mem_cons_of_mem _ wr_238
theorem wr_239 : Cond.methodLink RX9 103 yX6_clear ∈ wsL_law := in_r10 _ (List.mem_of_getElem? (i := 23) rfl)
theorem wm_239 {c0 : Cond} : Cond.methodLink RX9 103 yX6_clear ∈ c0 :: wsL_law := List.mem_cons_of_mem _ wr_239
theorem wr_240 : Cond.instanceMethod yX6_clear ∈ wsL_law := in_r11 _ (List.mem_of_getElem? (i := 0) rfl)
theorem wm_240 {c0 : Cond} : Cond.instanceMethod yX6_clear ∈ c0 :: wsL_law := List.mem_cons_of_mem _ wr_240
theorem wr_241 : Cond.selects RX6 yX6_clear yX6_clear ∈ wsL_law := in_r11 _ (List.mem_of_getElem? (i := 1) rfl)
theorem wm_241 {c0 : Cond} : Cond.selects RX6 yX6_clear yX6_clear ∈ c0 :: wsL_law := List.mem_cons_of_mem _ wr_241
theorem wr_242 : Cond.code yX6_clear cX6_clear 2 none ∈ wsL_law := in_r11 _ (List.mem_of_getElem? (i := 2) rfl)
theorem wm_242 {c0 : Cond} : Cond.code yX6_clear cX6_clear 2 none ∈ c0 :: wsL_law := List.mem_cons_of_mem _ wr_242
theorem wr_243 : Cond.methodLink RL 30 yX10_take ∈ wsL_law := in_r11 _ (List.mem_of_getElem? (i := 3) rfl)
theorem wm_243 {c0 : Cond} : Cond.methodLink RL 30 yX10_take ∈ c0 :: wsL_law := List.mem_cons_of_mem _ wr_243
theorem wr_244 : Cond.instanceMethod yX10_take ∈ wsL_law := in_r11 _ (List.mem_of_getElem? (i := 4) rfl)
theorem wm_244 {c0 : Cond} : Cond.instanceMethod yX10_take ∈ c0 :: wsL_law := List.mem_cons_of_mem _ wr_244
theorem wr_245 : Cond.selects RX10 yX10_take yX10_take ∈ wsL_law := in_r11 _ (List.mem_of_getElem? (i := 5) rfl)
theorem wm_245 {c0 : Cond} : Cond.selects RX10 yX10_take yX10_take ∈ c0 :: wsL_law := List.mem_cons_of_mem _ wr_245
theorem wr_246 : Cond.code yX10_take cX10_take 2 (some .int) ∈ wsL_law := in_r11 _ (List.mem_of_getElem? (i := 6) rfl)
theorem wm_246 {c0 : Cond} : Cond.code yX10_take cX10_take 2 (some .int) ∈ c0 :: wsL_law := List.mem_cons_of_mem _ wr_246
theorem wr_247 : Cond.fieldLink RX10 85 "WireGuessModel" "acts" "I" ∈ wsL_law := in_r11 _ (List.mem_of_getElem? (i := 7) rfl)
theorem wm_247 {c0 : Cond} : Cond.fieldLink RX10 85 "WireGuessModel" "acts" "I" ∈ c0 :: wsL_law := List.mem_cons_of_mem _ wr_247
theorem wr_248 : Cond.methodLink RL 31 yX9_about ∈ wsL_law := in_r11 _ (List.mem_of_getElem? (i := 8) rfl)
theorem wm_248 {c0 : Cond} : Cond.methodLink RL 31 yX9_about ∈ c0 :: wsL_law := List.mem_cons_of_mem _ wr_248
theorem wr_249 : Cond.instanceMethod yX9_about ∈ wsL_law := in_r11 _ (List.mem_of_getElem? (i := 9) rfl)
theorem wm_249 {c0 : Cond} : Cond.instanceMethod yX9_about ∈ c0 :: wsL_law := List.mem_cons_of_mem _ wr_249
theorem wr_250 : Cond.selects RX9 yX9_about yX9_about ∈ wsL_law := in_r11 _ (List.mem_of_getElem? (i := 10) rfl)
theorem wm_250 {c0 : Cond} : Cond.selects RX9 yX9_about yX9_about ∈ c0 :: wsL_law := List.mem_cons_of_mem _ wr_250
theorem wr_251 : Cond.code yX9_about cX9_about 2 (some .int) ∈ wsL_law := in_r11 _ (List.mem_of_getElem? (i := 11) rfl)
theorem wm_251 {c0 : Cond} : Cond.code yX9_about cX9_about 2 (some .int) ∈ c0 :: wsL_law := List.mem_cons_of_mem _ wr_251
theorem wr_252 : Cond.methodLink RX9 107 yX4_listenTo ∈ wsL_law := in_r11 _ (List.mem_of_getElem? (i := 12) rfl)
theorem wm_252 {c0 : Cond} : Cond.methodLink RX9 107 yX4_listenTo ∈ c0 :: wsL_law := List.mem_cons_of_mem _ wr_252
theorem wr_253 : Cond.instanceMethod yX4_listenTo ∈ wsL_law := in_r11 _ (List.mem_of_getElem? (i := 13) rfl)
theorem wm_253 {c0 : Cond} : Cond.instanceMethod yX4_listenTo ∈ c0 :: wsL_law := List.mem_cons_of_mem _ wr_253
theorem wr_254 : Cond.selects RX4 yX4_listenTo yX4_listenTo ∈ wsL_law := in_r11 _ (List.mem_of_getElem? (i := 14) rfl)
theorem wm_254 {c0 : Cond} : Cond.selects RX4 yX4_listenTo yX4_listenTo ∈ c0 :: wsL_law := List.mem_cons_of_mem _ wr_254
theorem wr_255 : Cond.code yX4_listenTo cX4_listenTo 2 none ∈ wsL_law := in_r11 _ (List.mem_of_getElem? (i := 15) rfl)
theorem wm_255 {c0 : Cond} : Cond.code yX4_listenTo cX4_listenTo 2 none ∈ c0 :: wsL_law := List.mem_cons_of_mem _ wr_255
theorem wr_256 : Cond.methodLink RX4 45 yX5_mark ∈ wsL_law := in_r11 _ (List.mem_of_getElem? (i := 16) rfl)
theorem wm_256 {c0 : Cond} : Cond.methodLink RX4 45 yX5_mark ∈ c0 :: wsL_law := List.mem_cons_of_mem _ wr_256
theorem wr_257 : Cond.instanceMethod yX5_mark ∈ wsL_law := in_r11 _ (List.mem_of_getElem? (i := 17) rfl)
theorem wm_257 {c0 : Cond} : Cond.instanceMethod yX5_mark ∈ c0 :: wsL_law := List.mem_cons_of_mem _ wr_257
theorem wr_258 : Cond.selects RX5 yX5_mark yX5_mark ∈ wsL_law := in_r11 _ (List.mem_of_getElem? (i := 18) rfl)
theorem wm_258 {c0 : Cond} : Cond.selects RX5 yX5_mark yX5_mark ∈ c0 :: wsL_law := List.mem_cons_of_mem _ wr_258
theorem wr_259 : Cond.code yX5_mark cX5_mark 5 none ∈ wsL_law := in_r11 _ (List.mem_of_getElem? (i := 19) rfl)
theorem wm_259 {c0 : Cond} : Cond.code yX5_mark cX5_mark 5 none ∈ c0 :: wsL_law := List.mem_cons_of_mem _ wr_259
theorem wr_260 : Cond.methodLink RX5 28 yX8_isEdge ∈ wsL_law := in_r11 _ (List.mem_of_getElem? (i := 20) rfl)
theorem wm_260 {c0 : Cond} : Cond.methodLink RX5 28 yX8_isEdge ∈ c0 :: wsL_law := List.mem_cons_of_mem _ wr_260
theorem wr_261 : Cond.instanceMethod yX8_isEdge ∈ wsL_law := in_r11 _ (List.mem_of_getElem? (i := 21) rfl)
theorem wm_261 {c0 : Cond} : Cond.instanceMethod yX8_isEdge ∈ c0 :: wsL_law := List.mem_cons_of_mem _ wr_261
theorem wr_262 : Cond.selects RX8 yX8_isEdge yX8_isEdge ∈ wsL_law := in_r11 _ (List.mem_of_getElem? (i := 22) rfl)
theorem wm_262 {c0 : Cond} : Cond.selects RX8 yX8_isEdge yX8_isEdge ∈ c0 :: wsL_law := List.mem_cons_of_mem _ wr_262
theorem wr_263 : Cond.code yX8_isEdge cX8_isEdge 2 (some .boolean) ∈ wsL_law := in_r11 _ (List.mem_of_getElem? (i := 23) rfl)
theorem wm_263 {c0 : Cond} : Cond.code yX8_isEdge cX8_isEdge 2 (some .boolean) ∈ c0 :: wsL_law := List.mem_cons_of_mem _ wr_263
theorem wr_264 : Cond.methodLink RX9 114 yX5_edges ∈ wsL_law := in_r12 _ (List.mem_of_getElem? (i := 0) rfl)
theorem wm_264 {c0 : Cond} : Cond.methodLink RX9 114 yX5_edges ∈ c0 :: wsL_law := List.mem_cons_of_mem _ wr_264
theorem wr_265 : Cond.instanceMethod yX5_edges ∈ wsL_law := in_r12 _ (List.mem_of_getElem? (i := 1) rfl)
theorem wm_265 {c0 : Cond} : Cond.instanceMethod yX5_edges ∈ c0 :: wsL_law := List.mem_cons_of_mem _ wr_265
theorem wr_266 : Cond.selects RX5 yX5_edges yX5_edges ∈ wsL_law := in_r12 _ (List.mem_of_getElem? (i := 2) rfl)
theorem wm_266 {c0 : Cond} : Cond.selects RX5 yX5_edges yX5_edges ∈ c0 :: wsL_law := List.mem_cons_of_mem _ wr_266
theorem wr_267 : Cond.code yX5_edges cX5_edges 1 (some .int) ∈ wsL_law := in_r12 _ (List.mem_of_getElem? (i := 3) rfl)
theorem wm_267 {c0 : Cond} : Cond.code yX5_edges cX5_edges 1 (some .int) ∈ c0 :: wsL_law := List.mem_cons_of_mem _ wr_267
theorem wr_268 : Cond.methodLink RX5 32 Lib.Math.max.name ∈ wsL_law := in_r12 _ (List.mem_of_getElem? (i := 4) rfl)
theorem wm_268 {c0 : Cond} : Cond.methodLink RX5 32 Lib.Math.max.name ∈ c0 :: wsL_law := List.mem_cons_of_mem _ wr_268
theorem wr_269 : Cond.methodLink RX9 119 yX3_rank ∈ wsL_law := in_r12 _ (List.mem_of_getElem? (i := 5) rfl)
theorem wm_269 {c0 : Cond} : Cond.methodLink RX9 119 yX3_rank ∈ c0 :: wsL_law := List.mem_cons_of_mem _ wr_269
theorem wr_270 : Cond.instanceMethod yX3_rank ∈ wsL_law := in_r12 _ (List.mem_of_getElem? (i := 6) rfl)
theorem wm_270 {c0 : Cond} : Cond.instanceMethod yX3_rank ∈ c0 :: wsL_law := List.mem_cons_of_mem _ wr_270
theorem wr_271 : Cond.selects RX3 yX3_rank yX3_rank ∈ wsL_law := in_r12 _ (List.mem_of_getElem? (i := 7) rfl)
theorem wm_271 {c0 : Cond} : Cond.selects RX3 yX3_rank yX3_rank ∈ c0 :: wsL_law := List.mem_cons_of_mem _ wr_271
theorem wr_272 : Cond.code yX3_rank cX3_rank 4 none ∈ wsL_law := in_r12 _ (List.mem_of_getElem? (i := 8) rfl)
theorem wm_272 {c0 : Cond} : Cond.code yX3_rank cX3_rank 4 none ∈ c0 :: wsL_law := List.mem_cons_of_mem _ wr_272
theorem wr_273 : Cond.methodLink RX3 41 yX4_listenTo ∈ wsL_law := in_r12 _ (List.mem_of_getElem? (i := 9) rfl)
theorem wm_273 {c0 : Cond} : Cond.methodLink RX3 41 yX4_listenTo ∈ c0 :: wsL_law := List.mem_cons_of_mem _ wr_273
theorem wr_274 : Cond.methodLink RX3 47 yX1_become ∈ wsL_law := in_r12 _ (List.mem_of_getElem? (i := 10) rfl)
theorem wm_274 {c0 : Cond} : Cond.methodLink RX3 47 yX1_become ∈ c0 :: wsL_law := List.mem_cons_of_mem _ wr_274
theorem wr_275 : Cond.instanceMethod yX1_become ∈ wsL_law := in_r12 _ (List.mem_of_getElem? (i := 11) rfl)
theorem wm_275 {c0 : Cond} : Cond.instanceMethod yX1_become ∈ c0 :: wsL_law := List.mem_cons_of_mem _ wr_275
theorem wr_276 : Cond.selects RX1 yX1_become yX1_become ∈ wsL_law := in_r12 _ (List.mem_of_getElem? (i := 12) rfl)
theorem wm_276 {c0 : Cond} : Cond.selects RX1 yX1_become yX1_become ∈ c0 :: wsL_law := List.mem_cons_of_mem _ wr_276
theorem wr_277 : Cond.code yX1_become cX1_become 2 none ∈ wsL_law := in_r12 _ (List.mem_of_getElem? (i := 13) rfl)
theorem wm_277 {c0 : Cond} : Cond.code yX1_become cX1_become 2 none ∈ c0 :: wsL_law := List.mem_cons_of_mem _ wr_277
theorem wr_278 : Cond.methodLink RX3 51 yX4_read ∈ wsL_law := in_r12 _ (List.mem_of_getElem? (i := 14) rfl)
theorem wm_278 {c0 : Cond} : Cond.methodLink RX3 51 yX4_read ∈ c0 :: wsL_law := List.mem_cons_of_mem _ wr_278
theorem wr_279 : Cond.instanceMethod yX4_read ∈ wsL_law := in_r12 _ (List.mem_of_getElem? (i := 15) rfl)
theorem wm_279 {c0 : Cond} : Cond.instanceMethod yX4_read ∈ c0 :: wsL_law := List.mem_cons_of_mem _ wr_279
theorem wr_280 : Cond.selects RX4 yX4_read yX4_read ∈ wsL_law := in_r12 _ (List.mem_of_getElem? (i := 16) rfl)
theorem wm_280 {c0 : Cond} : Cond.selects RX4 yX4_read yX4_read ∈ c0 :: wsL_law := List.mem_cons_of_mem _ wr_280
theorem wr_281 : Cond.code yX4_read cX4_read 6 none ∈ wsL_law := in_r12 _ (List.mem_of_getElem? (i := 17) rfl)
theorem wm_281 {c0 : Cond} : Cond.code yX4_read cX4_read 6 none ∈ c0 :: wsL_law := List.mem_cons_of_mem _ wr_281
theorem wr_282 : Cond.methodLink RX4 54 yX4_nextStart ∈ wsL_law := in_r12 _ (List.mem_of_getElem? (i := 18) rfl)
theorem wm_282 {c0 : Cond} : Cond.methodLink RX4 54 yX4_nextStart ∈ c0 :: wsL_law := List.mem_cons_of_mem _ wr_282
theorem wr_283 : Cond.instanceMethod yX4_nextStart ∈ wsL_law := in_r12 _ (List.mem_of_getElem? (i := 19) rfl)
theorem wm_283 {c0 : Cond} : Cond.instanceMethod yX4_nextStart ∈ c0 :: wsL_law := List.mem_cons_of_mem _ wr_283
theorem wr_284 : Cond.selects RX4 yX4_nextStart yX4_nextStart ∈ wsL_law := in_r12 _ (List.mem_of_getElem? (i := 20) rfl)
theorem wm_284 {c0 : Cond} : Cond.selects RX4 yX4_nextStart yX4_nextStart ∈ c0 :: wsL_law := List.mem_cons_of_mem _ wr_284
theorem wr_285 : Cond.code yX4_nextStart cX4_nextStart 4 (some .int) ∈ wsL_law := in_r12 _ (List.mem_of_getElem? (i := 21) rfl)
theorem wm_285 {c0 : Cond} : Cond.code yX4_nextStart cX4_nextStart 4 (some .int) ∈ c0 :: wsL_law := List.mem_cons_of_mem _ wr_285
theorem wr_286 : Cond.methodLink RX4 69 yX5_nextEdge ∈ wsL_law := in_r12 _ (List.mem_of_getElem? (i := 22) rfl)
theorem wm_286 {c0 : Cond} : Cond.methodLink RX4 69 yX5_nextEdge ∈ c0 :: wsL_law := List.mem_cons_of_mem _ wr_286
theorem wr_287 : Cond.instanceMethod yX5_nextEdge ∈ wsL_law := in_r12 _ (List.mem_of_getElem? (i := 23) rfl)
theorem wm_287 {c0 : Cond} : Cond.instanceMethod yX5_nextEdge ∈ c0 :: wsL_law := List.mem_cons_of_mem _ wr_287
theorem wr_288 : Cond.selects RX5 yX5_nextEdge yX5_nextEdge ∈ wsL_law := in_r13 _ (List.mem_of_getElem? (i := 0) rfl)
theorem wm_288 {c0 : Cond} : Cond.selects RX5 yX5_nextEdge yX5_nextEdge ∈ c0 :: wsL_law := List.mem_cons_of_mem _ wr_288
theorem wr_289 : Cond.code yX5_nextEdge cX5_nextEdge 3 (some .int) ∈ wsL_law := in_r13 _ (List.mem_of_getElem? (i := 1) rfl)
theorem wm_289 {c0 : Cond} : Cond.code yX5_nextEdge cX5_nextEdge 3 (some .int) ∈ c0 :: wsL_law := List.mem_cons_of_mem _ wr_289
theorem wr_290 : Cond.methodLink RX4 73 yX8_levelAt ∈ wsL_law := in_r13 _ (List.mem_of_getElem? (i := 2) rfl)
theorem wm_290 {c0 : Cond} : Cond.methodLink RX4 73 yX8_levelAt ∈ c0 :: wsL_law := List.mem_cons_of_mem _ wr_290
theorem wr_291 : Cond.instanceMethod yX8_levelAt ∈ wsL_law := in_r13 _ (List.mem_of_getElem? (i := 3) rfl)
theorem wm_291 {c0 : Cond} : Cond.instanceMethod yX8_levelAt ∈ c0 :: wsL_law := List.mem_cons_of_mem _ wr_291
theorem wr_292 : Cond.selects RX8 yX8_levelAt yX8_levelAt ∈ wsL_law := in_r13 _ (List.mem_of_getElem? (i := 4) rfl)
theorem wm_292 {c0 : Cond} : Cond.selects RX8 yX8_levelAt yX8_levelAt ∈ c0 :: wsL_law := List.mem_cons_of_mem _ wr_292
theorem wr_293 : Cond.code yX8_levelAt cX8_levelAt 2 (some .int) ∈ wsL_law := in_r13 _ (List.mem_of_getElem? (i := 5) rfl)
theorem wm_293 {c0 : Cond} : Cond.code yX8_levelAt cX8_levelAt 2 (some .int) ∈ c0 :: wsL_law := List.mem_cons_of_mem _ wr_293
theorem wr_294 : Cond.methodLink RX4 58 yX4_readFrame ∈ wsL_law := in_r13 _ (List.mem_of_getElem? (i := 6) rfl)
theorem wm_294 {c0 : Cond} : Cond.methodLink RX4 58 yX4_readFrame ∈ c0 :: wsL_law := List.mem_cons_of_mem _ wr_294
theorem wr_295 : Cond.instanceMethod yX4_readFrame ∈ wsL_law := in_r13 _ (List.mem_of_getElem? (i := 7) rfl)
theorem wm_295 {c0 : Cond} : Cond.instanceMethod yX4_readFrame ∈ c0 :: wsL_law := List.mem_cons_of_mem _ wr_295
theorem wr_296 : Cond.selects RX4 yX4_readFrame yX4_readFrame ∈ wsL_law := in_r13 _ (List.mem_of_getElem? (i := 8) rfl)
theorem wm_296 {c0 : Cond} : Cond.selects RX4 yX4_readFrame yX4_readFrame ∈ c0 :: wsL_law := List.mem_cons_of_mem _ wr_296
theorem wr_297 : Cond.code yX4_readFrame cX4_readFrame 9 (some .int) ∈ wsL_law := in_r13 _ (List.mem_of_getElem? (i := 9) rfl)
theorem wm_297 {c0 : Cond} : Cond.code yX4_readFrame cX4_readFrame 9 (some .int) ∈ c0 :: wsL_law := List.mem_cons_of_mem _ wr_297
theorem wr_298 : Cond.methodLink RX4 90 Lib.Math.min.name ∈ wsL_law := in_r13 _ (List.mem_of_getElem? (i := 10) rfl)
theorem wm_298 {c0 : Cond} : Cond.methodLink RX4 90 Lib.Math.min.name ∈ c0 :: wsL_law := List.mem_cons_of_mem _ wr_298
theorem wr_299 : Cond.static Lib.Math.min.name ∈ wsL_law := in_r13 _ (List.mem_of_getElem? (i := 11) rfl)
theorem wm_299 {c0 : Cond} : Cond.static Lib.Math.min.name ∈ c0 :: wsL_law := List.mem_cons_of_mem _ wr_299
theorem wr_300 : Cond.code Lib.Math.min.name Lib.Math.min.code 2 (some .int) ∈ wsL_law := in_r13 _ (List.mem_of_getElem? (i := 12) rfl)
theorem wm_300 {c0 : Cond} : Cond.code Lib.Math.min.name Lib.Math.min.code 2 (some .int) ∈ c0 :: wsL_law := List.mem_cons_of_mem _ wr_300
theorem wr_301 : Cond.methodLink RX4 62 yX1_bitsOfFrame ∈ wsL_law := in_r13 _ (List.mem_of_getElem? (i := 13) rfl)
theorem wm_301 {c0 : Cond} : Cond.methodLink RX4 62 yX1_bitsOfFrame ∈ c0 :: wsL_law := List.mem_cons_of_mem _ wr_301
theorem wr_302 : Cond.instanceMethod yX1_bitsOfFrame ∈ wsL_law := in_r13 _ (List.mem_of_getElem? (i := 14) rfl)
theorem wm_302 {c0 : Cond} : Cond.instanceMethod yX1_bitsOfFrame ∈ c0 :: wsL_law := List.mem_cons_of_mem _ wr_302
theorem wr_303 : Cond.selects RX1 yX1_bitsOfFrame yX1_bitsOfFrame ∈ wsL_law := in_r13 _ (List.mem_of_getElem? (i := 15) rfl)
theorem wm_303 {c0 : Cond} : Cond.selects RX1 yX1_bitsOfFrame yX1_bitsOfFrame ∈ c0 :: wsL_law := List.mem_cons_of_mem _ wr_303
theorem wr_304 : Cond.code yX1_bitsOfFrame cX1_bitsOfFrame 1 (some .int) ∈ wsL_law := in_r13 _ (List.mem_of_getElem? (i := 16) rfl)
theorem wm_304 {c0 : Cond} : Cond.code yX1_bitsOfFrame cX1_bitsOfFrame 1 (some .int) ∈ c0 :: wsL_law := List.mem_cons_of_mem _ wr_304
theorem wr_305 : Cond.methodLink RX4 66 yX1_tickOfBit ∈ wsL_law := in_r13 _ (List.mem_of_getElem? (i := 17) rfl)
theorem wm_305 {c0 : Cond} : Cond.methodLink RX4 66 yX1_tickOfBit ∈ c0 :: wsL_law := List.mem_cons_of_mem _ wr_305
theorem wr_306 : Cond.instanceMethod yX1_tickOfBit ∈ wsL_law := in_r13 _ (List.mem_of_getElem? (i := 18) rfl)
theorem wm_306 {c0 : Cond} : Cond.instanceMethod yX1_tickOfBit ∈ c0 :: wsL_law := List.mem_cons_of_mem _ wr_306
theorem wr_307 : Cond.selects RX1 yX1_tickOfBit yX1_tickOfBit ∈ wsL_law := in_r13 _ (List.mem_of_getElem? (i := 19) rfl)
theorem wm_307 {c0 : Cond} : Cond.selects RX1 yX1_tickOfBit yX1_tickOfBit ∈ c0 :: wsL_law := List.mem_cons_of_mem _ wr_307
theorem wr_308 : Cond.code yX1_tickOfBit cX1_tickOfBit 3 (some .int) ∈ wsL_law := in_r13 _ (List.mem_of_getElem? (i := 20) rfl)
theorem wm_308 {c0 : Cond} : Cond.code yX1_tickOfBit cX1_tickOfBit 3 (some .int) ∈ c0 :: wsL_law := List.mem_cons_of_mem _ wr_308
theorem wr_309 : Cond.methodLink RX4 76 yX8_has ∈ wsL_law := in_r13 _ (List.mem_of_getElem? (i := 21) rfl)
theorem wm_309 {c0 : Cond} : Cond.methodLink RX4 76 yX8_has ∈ c0 :: wsL_law := List.mem_cons_of_mem _ wr_309
theorem wr_310 : Cond.instanceMethod yX8_has ∈ wsL_law := in_r13 _ (List.mem_of_getElem? (i := 22) rfl)
theorem wm_310 {c0 : Cond} : Cond.instanceMethod yX8_has ∈ c0 :: wsL_law := List.mem_cons_of_mem _ wr_310
theorem wr_311 : Cond.selects RX8 yX8_has yX8_has ∈ wsL_law := in_r13 _ (List.mem_of_getElem? (i := 23) rfl)
theorem wm_311 {c0 : Cond} : Cond.selects RX8 yX8_has yX8_has ∈ c0 :: wsL_law := List.mem_cons_of_mem _ wr_311
theorem wr_312 : Cond.code yX8_has cX8_has 2 (some .boolean) ∈ wsL_law := in_r14 _ (List.mem_of_getElem? (i := 0) rfl)
theorem wm_312 {c0 : Cond} : Cond.code yX8_has cX8_has 2 (some .boolean) ∈ c0 :: wsL_law := List.mem_cons_of_mem _ wr_312
theorem wr_313 : Cond.methodLink RX4 80 yX4_failureOfBit ∈ wsL_law := in_r14 _ (List.mem_of_getElem? (i := 1) rfl)
theorem wm_313 {c0 : Cond} : Cond.methodLink RX4 80 yX4_failureOfBit ∈ c0 :: wsL_law := List.mem_cons_of_mem _ wr_313
theorem wr_314 : Cond.static yX4_failureOfBit ∈ wsL_law := in_r14 _ (List.mem_of_getElem? (i := 2) rfl)
theorem wm_314 {c0 : Cond} : Cond.static yX4_failureOfBit ∈ c0 :: wsL_law := List.mem_cons_of_mem _ wr_314
theorem wr_315 : Cond.code yX4_failureOfBit cX4_failureOfBit 4 (some .int) ∈ wsL_law := in_r14 _ (List.mem_of_getElem? (i := 3) rfl)
theorem wm_315 {c0 : Cond} : Cond.code yX4_failureOfBit cX4_failureOfBit 4 (some .int) ∈ c0 :: wsL_law := List.mem_cons_of_mem _ wr_315
theorem wr_316 : Cond.methodLink RX4 87 yX5_inset ∈ wsL_law := in_r14 _ (List.mem_of_getElem? (i := 4) rfl)
theorem wm_316 {c0 : Cond} : Cond.methodLink RX4 87 yX5_inset ∈ c0 :: wsL_law := List.mem_cons_of_mem _ wr_316
theorem wr_317 : Cond.instanceMethod yX5_inset ∈ wsL_law := in_r14 _ (List.mem_of_getElem? (i := 5) rfl)
theorem wm_317 {c0 : Cond} : Cond.instanceMethod yX5_inset ∈ c0 :: wsL_law := List.mem_cons_of_mem _ wr_317
theorem wr_318 : Cond.selects RX5 yX5_inset yX5_inset ∈ wsL_law := in_r14 _ (List.mem_of_getElem? (i := 6) rfl)
theorem wm_318 {c0 : Cond} : Cond.selects RX5 yX5_inset yX5_inset ∈ c0 :: wsL_law := List.mem_cons_of_mem _ wr_318
theorem wr_319 : Cond.code yX5_inset cX5_inset 4 (some .int) ∈ wsL_law := in_r14 _ (List.mem_of_getElem? (i := 7) rfl)
theorem wm_319 {c0 : Cond} : Cond.code yX5_inset cX5_inset 4 (some .int) ∈ c0 :: wsL_law := List.mem_cons_of_mem _ wr_319
theorem wr_320 : Cond.methodLink RX3 55 yX4_fits ∈ wsL_law := in_r14 _ (List.mem_of_getElem? (i := 8) rfl)
theorem wm_320 {c0 : Cond} : Cond.methodLink RX3 55 yX4_fits ∈ c0 :: wsL_law := List.mem_cons_of_mem _ wr_320
theorem wr_321 : Cond.instanceMethod yX4_fits ∈ wsL_law := in_r14 _ (List.mem_of_getElem? (i := 9) rfl)
theorem wm_321 {c0 : Cond} : Cond.instanceMethod yX4_fits ∈ c0 :: wsL_law := List.mem_cons_of_mem _ wr_321
theorem wr_322 : Cond.selects RX4 yX4_fits yX4_fits ∈ wsL_law := in_r14 _ (List.mem_of_getElem? (i := 10) rfl)
theorem wm_322 {c0 : Cond} : Cond.selects RX4 yX4_fits yX4_fits ∈ c0 :: wsL_law := List.mem_cons_of_mem _ wr_322
theorem wr_323 : Cond.code yX4_fits cX4_fits 1 (some .boolean) ∈ wsL_law := in_r14 _ (List.mem_of_getElem? (i := 11) rfl)
theorem wm_323 {c0 : Cond} : Cond.code yX4_fits cX4_fits 1 (some .boolean) ∈ c0 :: wsL_law := List.mem_cons_of_mem _ wr_323
theorem wr_324 : Cond.methodLink RX3 58 yX3_isBetter ∈ wsL_law := in_r14 _ (List.mem_of_getElem? (i := 12) rfl)
theorem wm_324 {c0 : Cond} : Cond.methodLink RX3 58 yX3_isBetter ∈ c0 :: wsL_law := List.mem_cons_of_mem _ wr_324
theorem wr_325 : Cond.instanceMethod yX3_isBetter ∈ wsL_law := in_r14 _ (List.mem_of_getElem? (i := 13) rfl)
theorem wm_325 {c0 : Cond} : Cond.instanceMethod yX3_isBetter ∈ c0 :: wsL_law := List.mem_cons_of_mem _ wr_325
theorem wr_326 : Cond.selects RX3 yX3_isBetter yX3_isBetter ∈ wsL_law := in_r14 _ (List.mem_of_getElem? (i := 14) rfl)
theorem wm_326 {c0 : Cond} : Cond.selects RX3 yX3_isBetter yX3_isBetter ∈ c0 :: wsL_law := List.mem_cons_of_mem _ wr_326
theorem wr_327 : Cond.code yX3_isBetter cX3_isBetter 2 (some .boolean) ∈ wsL_law := in_r14 _ (List.mem_of_getElem? (i := 15) rfl)
theorem wm_327 {c0 : Cond} : Cond.code yX3_isBetter cX3_isBetter 2 (some .boolean) ∈ c0 :: wsL_law := List.mem_cons_of_mem _ wr_327
theorem wr_328 : Cond.methodLink RX3 62 yX3_becomeBest ∈ wsL_law := in_r14 _ (List.mem_of_getElem? (i := 16) rfl)
theorem wm_328 {c0 : Cond} : Cond.methodLink RX3 62 yX3_becomeBest ∈ c0 :: wsL_law := List.mem_cons_of_mem _ wr_328
theorem wr_329 : Cond.instanceMethod yX3_becomeBest ∈ wsL_law := in_r14 _ (List.mem_of_getElem? (i := 17) rfl)
theorem wm_329 {c0 : Cond} : Cond.instanceMethod yX3_becomeBest ∈ c0 :: wsL_law := List.mem_cons_of_mem _ wr_329
theorem wr_330 : Cond.selects RX3 yX3_becomeBest yX3_becomeBest ∈ wsL_law := in_r14 _ (List.mem_of_getElem? (i := 18) rfl)
theorem wm_330 {c0 : Cond} : Cond.selects RX3 yX3_becomeBest yX3_becomeBest ∈ c0 :: wsL_law := List.mem_cons_of_mem _ wr_330
theorem wr_331 : Cond.code yX3_becomeBest cX3_becomeBest 2 none ∈ wsL_law := in_r14 _ (List.mem_of_getElem? (i := 19) rfl)
theorem wm_331 {c0 : Cond} : Cond.code yX3_becomeBest cX3_becomeBest 2 none ∈ c0 :: wsL_law := List.mem_cons_of_mem _ wr_331
theorem wr_332 : Cond.methodLink RX3 94 arraycopyName ∈ wsL_law := in_r14 _ (List.mem_of_getElem? (i := 20) rfl)
theorem wm_332 {c0 : Cond} : Cond.methodLink RX3 94 arraycopyName ∈ c0 :: wsL_law := List.mem_cons_of_mem _ wr_332
theorem wr_333 : Cond.native arraycopyName ∈ wsL_law := in_r14 _ (List.mem_of_getElem? (i := 21) rfl)
theorem wm_333 {c0 : Cond} : Cond.native arraycopyName ∈ c0 :: wsL_law := List.mem_cons_of_mem _ wr_333
theorem wr_334 : Cond.static arraycopyName ∈ wsL_law := in_r14 _ (List.mem_of_getElem? (i := 22) rfl)
theorem wm_334 {c0 : Cond} : Cond.static arraycopyName ∈ c0 :: wsL_law := List.mem_cons_of_mem _ wr_334
theorem wr_335 : Cond.initialized "java/lang/System" ∈ wsL_law := in_r14 _ (List.mem_of_getElem? (i := 23) rfl)
theorem wm_335 {c0 : Cond} : Cond.initialized "java/lang/System" ∈ c0 :: wsL_law := List.mem_cons_of_mem _ wr_335
theorem wr_336 : Cond.methodLink RX3 75 yX1_code ∈ wsL_law := in_r15 _ (List.mem_of_getElem? (i := 0) rfl)
theorem wm_336 {c0 : Cond} : Cond.methodLink RX3 75 yX1_code ∈ c0 :: wsL_law := List.mem_cons_of_mem _ wr_336
theorem wr_337 : Cond.instanceMethod yX1_code ∈ wsL_law := in_r15 _ (List.mem_of_getElem? (i := 1) rfl)
theorem wm_337 {c0 : Cond} : Cond.instanceMethod yX1_code ∈ c0 :: wsL_law := List.mem_cons_of_mem _ wr_337
theorem wr_338 : Cond.selects RX1 yX1_code yX1_code ∈ wsL_law := in_r15 _ (List.mem_of_getElem? (i := 2) rfl)
theorem wm_338 {c0 : Cond} : Cond.selects RX1 yX1_code yX1_code ∈ c0 :: wsL_law := List.mem_cons_of_mem _ wr_338
theorem wr_339 : Cond.code yX1_code cX1_code 1 (some .int) ∈ wsL_law := in_r15 _ (List.mem_of_getElem? (i := 3) rfl)
theorem wm_339 {c0 : Cond} : Cond.code yX1_code cX1_code 1 (some .int) ∈ c0 :: wsL_law := List.mem_cons_of_mem _ wr_339
theorem wr_340 : Cond.methodLink RX9 129 yX3_countAlike ∈ wsL_law := in_r15 _ (List.mem_of_getElem? (i := 4) rfl)
theorem wm_340 {c0 : Cond} : Cond.methodLink RX9 129 yX3_countAlike ∈ c0 :: wsL_law := List.mem_cons_of_mem _ wr_340
theorem wr_341 : Cond.instanceMethod yX3_countAlike ∈ wsL_law := in_r15 _ (List.mem_of_getElem? (i := 5) rfl)
theorem wm_341 {c0 : Cond} : Cond.instanceMethod yX3_countAlike ∈ c0 :: wsL_law := List.mem_cons_of_mem _ wr_341
theorem wr_342 : Cond.selects RX3 yX3_countAlike yX3_countAlike ∈ wsL_law := in_r15 _ (List.mem_of_getElem? (i := 6) rfl)
theorem wm_342 {c0 : Cond} : Cond.selects RX3 yX3_countAlike yX3_countAlike ∈ c0 :: wsL_law := List.mem_cons_of_mem _ wr_342
theorem wr_343 : Cond.code yX3_countAlike cX3_countAlike 4 (some .int) ∈ wsL_law := in_r15 _ (List.mem_of_getElem? (i := 7) rfl)
theorem wm_343 {c0 : Cond} : Cond.code yX3_countAlike cX3_countAlike 4 (some .int) ∈ c0 :: wsL_law := List.mem_cons_of_mem _ wr_343
theorem wr_344 : Cond.methodLink RX3 66 yX3_readsLikeBest ∈ wsL_law := in_r15 _ (List.mem_of_getElem? (i := 8) rfl)
theorem wm_344 {c0 : Cond} : Cond.methodLink RX3 66 yX3_readsLikeBest ∈ c0 :: wsL_law := List.mem_cons_of_mem _ wr_344
theorem wr_345 : Cond.instanceMethod yX3_readsLikeBest ∈ wsL_law := in_r15 _ (List.mem_of_getElem? (i := 9) rfl)
theorem wm_345 {c0 : Cond} : Cond.instanceMethod yX3_readsLikeBest ∈ c0 :: wsL_law := List.mem_cons_of_mem _ wr_345
theorem wr_346 : Cond.selects RX3 yX3_readsLikeBest yX3_readsLikeBest ∈ wsL_law := in_r15 _ (List.mem_of_getElem? (i := 10) rfl)
theorem wm_346 {c0 : Cond} : Cond.selects RX3 yX3_readsLikeBest yX3_readsLikeBest ∈ c0 :: wsL_law := List.mem_cons_of_mem _ wr_346
theorem wr_347 : Cond.code yX3_readsLikeBest cX3_readsLikeBest 3 (some .boolean) ∈ wsL_law := in_r15 _ (List.mem_of_getElem? (i := 11) rfl)
theorem wm_347 {c0 : Cond} : Cond.code yX3_readsLikeBest cX3_readsLikeBest 3 (some .boolean) ∈ c0 :: wsL_law := List.mem_cons_of_mem _ wr_347
theorem wr_348 : Cond.methodLink RX9 133 yX5_width ∈ wsL_law := in_r15 _ (List.mem_of_getElem? (i := 12) rfl)
theorem wm_348 {c0 : Cond} : Cond.methodLink RX9 133 yX5_width ∈ c0 :: wsL_law := List.mem_cons_of_mem _ wr_348
theorem wr_349 : Cond.instanceMethod yX5_width ∈ wsL_law := in_r15 _ (List.mem_of_getElem? (i := 13) rfl)
theorem wm_349 {c0 : Cond} : Cond.instanceMethod yX5_width ∈ c0 :: wsL_law := List.mem_cons_of_mem _ wr_349
theorem wr_350 : Cond.selects RX5 yX5_width yX5_width ∈ wsL_law := in_r15 _ (List.mem_of_getElem? (i := 14) rfl)
theorem wm_350 {c0 : Cond} : Cond.selects RX5 yX5_width yX5_width ∈ c0 :: wsL_law := List.mem_cons_of_mem _ wr_350
theorem wr_351 : Cond.code yX5_width cX5_width 5 (some .int) ∈ wsL_law := in_r15 _ (List.mem_of_getElem? (i := 15) rfl)
theorem wm_351 {c0 : Cond} : Cond.code yX5_width cX5_width 5 (some .int) ∈ c0 :: wsL_law := List.mem_cons_of_mem _ wr_351
theorem wr_352 : Cond.methodLink RX5 48 yX5_offBy ∈ wsL_law := in_r15 _ (List.mem_of_getElem? (i := 16) rfl)
theorem wm_352 {c0 : Cond} : Cond.methodLink RX5 48 yX5_offBy ∈ c0 :: wsL_law := List.mem_cons_of_mem _ wr_352
theorem wr_353 : Cond.instanceMethod yX5_offBy ∈ wsL_law := in_r15 _ (List.mem_of_getElem? (i := 17) rfl)
theorem wm_353 {c0 : Cond} : Cond.instanceMethod yX5_offBy ∈ c0 :: wsL_law := List.mem_cons_of_mem _ wr_353
theorem wr_354 : Cond.selects RX5 yX5_offBy yX5_offBy ∈ wsL_law := in_r15 _ (List.mem_of_getElem? (i := 18) rfl)
theorem wm_354 {c0 : Cond} : Cond.selects RX5 yX5_offBy yX5_offBy ∈ c0 :: wsL_law := List.mem_cons_of_mem _ wr_354
theorem wr_355 : Cond.code yX5_offBy cX5_offBy 5 (some .int) ∈ wsL_law := in_r15 _ (List.mem_of_getElem? (i := 19) rfl)
theorem wm_355 {c0 : Cond} : Cond.code yX5_offBy cX5_offBy 5 (some .int) ∈ c0 :: wsL_law := List.mem_cons_of_mem _ wr_355
theorem wr_356 : Cond.methodLink RX5 38 yX5_nextEdge ∈ wsL_law := in_r15 _ (List.mem_of_getElem? (i := 20) rfl)
theorem wm_356 {c0 : Cond} : Cond.methodLink RX5 38 yX5_nextEdge ∈ c0 :: wsL_law := List.mem_cons_of_mem _ wr_356
theorem wr_357 : Cond.methodLink RX5 42 yX5_lengthFrom ∈ wsL_law := in_r15 _ (List.mem_of_getElem? (i := 21) rfl)
theorem wm_357 {c0 : Cond} : Cond.methodLink RX5 42 yX5_lengthFrom ∈ c0 :: wsL_law := List.mem_cons_of_mem _ wr_357
theorem wr_358 : Cond.instanceMethod yX5_lengthFrom ∈ wsL_law := in_r15 _ (List.mem_of_getElem? (i := 22) rfl)
theorem wm_358 {c0 : Cond} : Cond.instanceMethod yX5_lengthFrom ∈ c0 :: wsL_law := List.mem_cons_of_mem _ wr_358
theorem wr_359 : Cond.selects RX5 yX5_lengthFrom yX5_lengthFrom ∈ wsL_law := in_r15 _ (List.mem_of_getElem? (i := 23) rfl)
theorem wm_359 {c0 : Cond} : Cond.selects RX5 yX5_lengthFrom yX5_lengthFrom ∈ c0 :: wsL_law := List.mem_cons_of_mem _ wr_359
theorem wr_360 : Cond.code yX5_lengthFrom cX5_lengthFrom 2 (some .int) ∈ wsL_law := in_r16 _ (List.mem_of_getElem? (i := 0) rfl)
theorem wm_360 {c0 : Cond} : Cond.code yX5_lengthFrom cX5_lengthFrom 2 (some .int) ∈ c0 :: wsL_law := List.mem_cons_of_mem _ wr_360
theorem wr_361 : Cond.methodLink RX5 45 yX5_offOfRun ∈ wsL_law := in_r16 _ (List.mem_of_getElem? (i := 1) rfl)
theorem wm_361 {c0 : Cond} : Cond.methodLink RX5 45 yX5_offOfRun ∈ c0 :: wsL_law := List.mem_cons_of_mem _ wr_361
theorem wr_362 : Cond.static yX5_offOfRun ∈ wsL_law := in_r16 _ (List.mem_of_getElem? (i := 2) rfl)
theorem wm_362 {c0 : Cond} : Cond.static yX5_offOfRun ∈ c0 :: wsL_law := List.mem_cons_of_mem _ wr_362
theorem wr_363 : Cond.code yX5_offOfRun cX5_offOfRun 3 (some .int) ∈ wsL_law := in_r16 _ (List.mem_of_getElem? (i := 3) rfl)
theorem wm_363 {c0 : Cond} : Cond.code yX5_offOfRun cX5_offOfRun 3 (some .int) ∈ c0 :: wsL_law := List.mem_cons_of_mem _ wr_363
theorem wr_364 : Cond.methodLink RX5 51 Lib.Math.min.name ∈ wsL_law := in_r16 _ (List.mem_of_getElem? (i := 4) rfl)
theorem wm_364 {c0 : Cond} : Cond.methodLink RX5 51 Lib.Math.min.name ∈ c0 :: wsL_law := List.mem_cons_of_mem _ wr_364
theorem wr_365 : Cond.methodLink RX9 136 yX3_sift ∈ wsL_law := in_r16 _ (List.mem_of_getElem? (i := 5) rfl)
theorem wm_365 {c0 : Cond} : Cond.methodLink RX9 136 yX3_sift ∈ c0 :: wsL_law := List.mem_cons_of_mem _ wr_365
theorem wr_366 : Cond.instanceMethod yX3_sift ∈ wsL_law := in_r16 _ (List.mem_of_getElem? (i := 6) rfl)
theorem wm_366 {c0 : Cond} : Cond.instanceMethod yX3_sift ∈ c0 :: wsL_law := List.mem_cons_of_mem _ wr_366
theorem wr_367 : Cond.selects RX3 yX3_sift yX3_sift ∈ wsL_law := in_r16 _ (List.mem_of_getElem? (i := 7) rfl)
theorem wm_367 {c0 : Cond} : Cond.selects RX3 yX3_sift yX3_sift ∈ c0 :: wsL_law := List.mem_cons_of_mem _ wr_367
theorem wr_368 : Cond.code yX3_sift cX3_sift 5 none ∈ wsL_law := in_r16 _ (List.mem_of_getElem? (i := 8) rfl)
theorem wm_368 {c0 : Cond} : Cond.code yX3_sift cX3_sift 5 none ∈ c0 :: wsL_law := List.mem_cons_of_mem _ wr_368
theorem wr_369 : Cond.methodLink RX3 69 yX2_refuters ∈ wsL_law := in_r16 _ (List.mem_of_getElem? (i := 9) rfl)
theorem wm_369 {c0 : Cond} : Cond.methodLink RX3 69 yX2_refuters ∈ c0 :: wsL_law := List.mem_cons_of_mem _ wr_369
theorem wr_370 : Cond.instanceMethod yX2_refuters ∈ wsL_law := in_r16 _ (List.mem_of_getElem? (i := 10) rfl)
theorem wm_370 {c0 : Cond} : Cond.instanceMethod yX2_refuters ∈ c0 :: wsL_law := List.mem_cons_of_mem _ wr_370
theorem wr_371 : Cond.selects RX2 yX2_refuters yX2_refuters ∈ wsL_law := in_r16 _ (List.mem_of_getElem? (i := 11) rfl)
theorem wm_371 {c0 : Cond} : Cond.selects RX2 yX2_refuters yX2_refuters ∈ c0 :: wsL_law := List.mem_cons_of_mem _ wr_371
theorem wr_372 : Cond.code yX2_refuters cX2_refuters 4 (some .int) ∈ wsL_law := in_r16 _ (List.mem_of_getElem? (i := 12) rfl)
theorem wm_372 {c0 : Cond} : Cond.code yX2_refuters cX2_refuters 4 (some .int) ∈ c0 :: wsL_law := List.mem_cons_of_mem _ wr_372
theorem wr_373 : Cond.methodLink RX2 26 yX4_letterAt ∈ wsL_law := in_r16 _ (List.mem_of_getElem? (i := 13) rfl)
theorem wm_373 {c0 : Cond} : Cond.methodLink RX2 26 yX4_letterAt ∈ c0 :: wsL_law := List.mem_cons_of_mem _ wr_373
theorem wr_374 : Cond.instanceMethod yX4_letterAt ∈ wsL_law := in_r16 _ (List.mem_of_getElem? (i := 14) rfl)
theorem wm_374 {c0 : Cond} : Cond.instanceMethod yX4_letterAt ∈ c0 :: wsL_law := List.mem_cons_of_mem _ wr_374
theorem wr_375 : Cond.selects RX4 yX4_letterAt yX4_letterAt ∈ wsL_law := in_r16 _ (List.mem_of_getElem? (i := 15) rfl)
theorem wm_375 {c0 : Cond} : Cond.selects RX4 yX4_letterAt yX4_letterAt ∈ c0 :: wsL_law := List.mem_cons_of_mem _ wr_375
theorem wr_376 : Cond.code yX4_letterAt cX4_letterAt 2 (some .int) ∈ wsL_law := in_r16 _ (List.mem_of_getElem? (i := 16) rfl)
theorem wm_376 {c0 : Cond} : Cond.code yX4_letterAt cX4_letterAt 2 (some .int) ∈ c0 :: wsL_law := List.mem_cons_of_mem _ wr_376
theorem wr_377 : Cond.methodLink RL 34 yX10_about ∈ wsL_law := in_r16 _ (List.mem_of_getElem? (i := 17) rfl)
theorem wm_377 {c0 : Cond} : Cond.methodLink RL 34 yX10_about ∈ c0 :: wsL_law := List.mem_cons_of_mem _ wr_377
theorem wr_378 : Cond.instanceMethod yX10_about ∈ wsL_law := in_r16 _ (List.mem_of_getElem? (i := 18) rfl)
theorem wm_378 {c0 : Cond} : Cond.instanceMethod yX10_about ∈ c0 :: wsL_law := List.mem_cons_of_mem _ wr_378
theorem wr_379 : Cond.selects RX10 yX10_about yX10_about ∈ wsL_law := in_r16 _ (List.mem_of_getElem? (i := 19) rfl)
theorem wm_379 {c0 : Cond} : Cond.selects RX10 yX10_about yX10_about ∈ c0 :: wsL_law := List.mem_cons_of_mem _ wr_379
theorem wr_380 : Cond.code yX10_about cX10_about 2 (some .int) ∈ wsL_law := in_r16 _ (List.mem_of_getElem? (i := 20) rfl)
theorem wm_380 {c0 : Cond} : Cond.code yX10_about cX10_about 2 (some .int) ∈ c0 :: wsL_law := List.mem_cons_of_mem _ wr_380
theorem wr_381 : Cond.fieldLink RX10 185 "WireGuessModel" "known" "I" ∈ wsL_law := in_r16 _ (List.mem_of_getElem? (i := 21) rfl)
theorem wm_381 {c0 : Cond} : Cond.fieldLink RX10 185 "WireGuessModel" "known" "I" ∈ c0 :: wsL_law := List.mem_cons_of_mem _ wr_381
theorem wr_382 : Cond.methodLink RX10 172 yX10_edges ∈ wsL_law := in_r16 _ (List.mem_of_getElem? (i := 22) rfl)
theorem wm_382 {c0 : Cond} : Cond.methodLink RX10 172 yX10_edges ∈ c0 :: wsL_law := List.mem_cons_of_mem _ wr_382
theorem wr_383 : Cond.static yX10_edges ∈ wsL_law := in_r16 _ (List.mem_of_getElem? (i := 23) rfl)
theorem wm_383 {c0 : Cond} : Cond.static yX10_edges ∈ c0 :: wsL_law := List.mem_cons_of_mem _ wr_383
theorem wr_384 : Cond.code yX10_edges cX10_edges 3 (some .int) ∈ wsL_law := in_r17 _ (List.mem_of_getElem? (i := 0) rfl)
theorem wm_384 {c0 : Cond} : Cond.code yX10_edges cX10_edges 3 (some .int) ∈ c0 :: wsL_law := List.mem_cons_of_mem _ wr_384
theorem wr_385 : Cond.methodLink RX10 191 yX10_fit ∈ wsL_law := in_r17 _ (List.mem_of_getElem? (i := 1) rfl)
theorem wm_385 {c0 : Cond} : Cond.methodLink RX10 191 yX10_fit ∈ c0 :: wsL_law := List.mem_cons_of_mem _ wr_385
theorem wr_386 : Cond.instanceMethod yX10_fit ∈ wsL_law := in_r17 _ (List.mem_of_getElem? (i := 2) rfl)
theorem wm_386 {c0 : Cond} : Cond.instanceMethod yX10_fit ∈ c0 :: wsL_law := List.mem_cons_of_mem _ wr_386
theorem wr_387 : Cond.selects RX10 yX10_fit yX10_fit ∈ wsL_law := in_r17 _ (List.mem_of_getElem? (i := 3) rfl)
theorem wm_387 {c0 : Cond} : Cond.selects RX10 yX10_fit yX10_fit ∈ c0 :: wsL_law := List.mem_cons_of_mem _ wr_387
theorem wr_388 : Cond.code yX10_fit cX10_fit 2 (some .int) ∈ wsL_law := in_r17 _ (List.mem_of_getElem? (i := 4) rfl)
theorem wm_388 {c0 : Cond} : Cond.code yX10_fit cX10_fit 2 (some .int) ∈ c0 :: wsL_law := List.mem_cons_of_mem _ wr_388
theorem wr_389 : Cond.fieldLink RX10 145 "WireGuessModel" "fitting" "I" ∈ wsL_law := in_r17 _ (List.mem_of_getElem? (i := 5) rfl)
theorem wm_389 {c0 : Cond} : Cond.fieldLink RX10 145 "WireGuessModel" "fitting" "I" ∈ c0 :: wsL_law := List.mem_cons_of_mem _ wr_389
theorem wr_390 : Cond.methodLink RX10 165 yX10_best ∈ wsL_law := in_r17 _ (List.mem_of_getElem? (i := 6) rfl)
theorem wm_390 {c0 : Cond} : Cond.methodLink RX10 165 yX10_best ∈ c0 :: wsL_law := List.mem_cons_of_mem _ wr_390
theorem wr_391 : Cond.instanceMethod yX10_best ∈ wsL_law := in_r17 _ (List.mem_of_getElem? (i := 7) rfl)
theorem wm_391 {c0 : Cond} : Cond.instanceMethod yX10_best ∈ c0 :: wsL_law := List.mem_cons_of_mem _ wr_391
theorem wr_392 : Cond.selects RX10 yX10_best yX10_best ∈ wsL_law := in_r17 _ (List.mem_of_getElem? (i := 8) rfl)
theorem wm_392 {c0 : Cond} : Cond.selects RX10 yX10_best yX10_best ∈ c0 :: wsL_law := List.mem_cons_of_mem _ wr_392
theorem wr_393 : Cond.code yX10_best cX10_best 7 (some .int) ∈ wsL_law := in_r17 _ (List.mem_of_getElem? (i := 9) rfl)
theorem wm_393 {c0 : Cond} : Cond.code yX10_best cX10_best 7 (some .int) ∈ c0 :: wsL_law := List.mem_cons_of_mem _ wr_393
theorem wr_394 : Cond.fieldLink RX10 138 "WireGuessModel" "bestFrames" "I" ∈ wsL_law := in_r17 _ (List.mem_of_getElem? (i := 10) rfl)
theorem wm_394 {c0 : Cond} : Cond.fieldLink RX10 138 "WireGuessModel" "bestFrames" "I" ∈ c0 :: wsL_law := List.mem_cons_of_mem _ wr_394
theorem wr_395 : Cond.fieldLink RX10 111 "WireGuessModel" "margin" "I" ∈ wsL_law := in_r17 _ (List.mem_of_getElem? (i := 11) rfl)
theorem wm_395 {c0 : Cond} : Cond.fieldLink RX10 111 "WireGuessModel" "margin" "I" ∈ c0 :: wsL_law := List.mem_cons_of_mem _ wr_395
theorem wr_396 : Cond.fieldLink RX10 125 "WireGuessModel" "frames" "I" ∈ wsL_law := in_r17 _ (List.mem_of_getElem? (i := 12) rfl)
theorem wm_396 {c0 : Cond} : Cond.fieldLink RX10 125 "WireGuessModel" "frames" "I" ∈ c0 :: wsL_law := List.mem_cons_of_mem _ wr_396
theorem wr_397 : Cond.methodLink RX10 141 yX10_layDeep ∈ wsL_law := in_r17 _ (List.mem_of_getElem? (i := 13) rfl)
theorem wm_397 {c0 : Cond} : Cond.methodLink RX10 141 yX10_layDeep ∈ c0 :: wsL_law := List.mem_cons_of_mem _ wr_397
theorem wr_398 : Cond.instanceMethod yX10_layDeep ∈ wsL_law := in_r17 _ (List.mem_of_getElem? (i := 14) rfl)
theorem wm_398 {c0 : Cond} : Cond.instanceMethod yX10_layDeep ∈ c0 :: wsL_law := List.mem_cons_of_mem _ wr_398
theorem wr_399 : Cond.selects RX10 yX10_layDeep yX10_layDeep ∈ wsL_law := in_r17 _ (List.mem_of_getElem? (i := 15) rfl)
theorem wm_399 {c0 : Cond} : Cond.selects RX10 yX10_layDeep yX10_layDeep ∈ c0 :: wsL_law := List.mem_cons_of_mem _ wr_399
theorem wr_400 : Cond.code yX10_layDeep cX10_layDeep 5 none ∈ wsL_law := in_r17 _ (List.mem_of_getElem? (i := 16) rfl)
theorem wm_400 {c0 : Cond} : Cond.code yX10_layDeep cX10_layDeep 5 none ∈ c0 :: wsL_law := List.mem_cons_of_mem _ wr_400
theorem wr_401 : Cond.methodLink RX10 148 yX10_codeOf ∈ wsL_law := in_r17 _ (List.mem_of_getElem? (i := 17) rfl)
theorem wm_401 {c0 : Cond} : Cond.methodLink RX10 148 yX10_codeOf ∈ c0 :: wsL_law := List.mem_cons_of_mem _ wr_401
theorem wr_402 : Cond.static yX10_codeOf ∈ wsL_law := in_r17 _ (List.mem_of_getElem? (i := 18) rfl)
theorem wm_402 {c0 : Cond} : Cond.static yX10_codeOf ∈ c0 :: wsL_law := List.mem_cons_of_mem _ wr_402
theorem wr_403 : Cond.code yX10_codeOf cX10_codeOf 1 (some .int) ∈ wsL_law := in_r17 _ (List.mem_of_getElem? (i := 19) rfl)
theorem wm_403 {c0 : Cond} : Cond.code yX10_codeOf cX10_codeOf 1 (some .int) ∈ c0 :: wsL_law := List.mem_cons_of_mem _ wr_403
theorem wr_404 : Cond.methodLink RX10 152 yX10_layCode ∈ wsL_law := in_r17 _ (List.mem_of_getElem? (i := 20) rfl)
theorem wm_404 {c0 : Cond} : Cond.methodLink RX10 152 yX10_layCode ∈ c0 :: wsL_law := List.mem_cons_of_mem _ wr_404
theorem wr_405 : Cond.instanceMethod yX10_layCode ∈ wsL_law := in_r17 _ (List.mem_of_getElem? (i := 21) rfl)
theorem wm_405 {c0 : Cond} : Cond.instanceMethod yX10_layCode ∈ c0 :: wsL_law := List.mem_cons_of_mem _ wr_405
theorem wr_406 : Cond.selects RX10 yX10_layCode yX10_layCode ∈ wsL_law := in_r17 _ (List.mem_of_getElem? (i := 22) rfl)
theorem wm_406 {c0 : Cond} : Cond.selects RX10 yX10_layCode yX10_layCode ∈ c0 :: wsL_law := List.mem_cons_of_mem _ wr_406
theorem wr_407 : Cond.code yX10_layCode cX10_layCode 3 (some .boolean) ∈ wsL_law := in_r17 _ (List.mem_of_getElem? (i := 23) rfl)
theorem wm_407 {c0 : Cond} : Cond.code yX10_layCode cX10_layCode 3 (some .boolean) ∈ c0 :: wsL_law := List.mem_cons_of_mem _ wr_407
theorem wr_408 : Cond.fieldLink RX10 88 "WireGuessModel" "wide" "I" ∈ wsL_law := in_r18 _ (List.mem_of_getElem? (i := 0) rfl)
theorem wm_408 {c0 : Cond} : Cond.fieldLink RX10 88 "WireGuessModel" "wide" "I" ∈ c0 :: wsL_law := List.mem_cons_of_mem _ wr_408
theorem wr_409 : Cond.fieldLink RX10 91 "WireGuessModel" "bits" "I" ∈ wsL_law := in_r18 _ (List.mem_of_getElem? (i := 1) rfl)
theorem wm_409 {c0 : Cond} : Cond.fieldLink RX10 91 "WireGuessModel" "bits" "I" ∈ c0 :: wsL_law := List.mem_cons_of_mem _ wr_409
theorem wr_410 : Cond.fieldLink RX10 94 "WireGuessModel" "parity" "I" ∈ wsL_law := in_r18 _ (List.mem_of_getElem? (i := 2) rfl)
theorem wm_410 {c0 : Cond} : Cond.fieldLink RX10 94 "WireGuessModel" "parity" "I" ∈ c0 :: wsL_law := List.mem_cons_of_mem _ wr_410
theorem wr_411 : Cond.fieldLink RX10 97 "WireGuessModel" "stops" "I" ∈ wsL_law := in_r18 _ (List.mem_of_getElem? (i := 3) rfl)
theorem wm_411 {c0 : Cond} : Cond.fieldLink RX10 97 "WireGuessModel" "stops" "I" ∈ c0 :: wsL_law := List.mem_cons_of_mem _ wr_411
theorem wr_412 : Cond.fieldLink RX10 100 "WireGuessModel" "idle" "I" ∈ wsL_law := in_r18 _ (List.mem_of_getElem? (i := 4) rfl)
theorem wm_412 {c0 : Cond} : Cond.fieldLink RX10 100 "WireGuessModel" "idle" "I" ∈ c0 :: wsL_law := List.mem_cons_of_mem _ wr_412
theorem wr_413 : Cond.constantLong RX10 103 (16) ∈ wsL_law := in_r18 _ (List.mem_of_getElem? (i := 5) rfl)
theorem wm_413 {c0 : Cond} : Cond.constantLong RX10 103 (16) ∈ c0 :: wsL_law := List.mem_cons_of_mem _ wr_413
theorem wr_414 : Cond.constantLong RX10 105 (5) ∈ wsL_law := in_r18 _ (List.mem_of_getElem? (i := 6) rfl)
theorem wm_414 {c0 : Cond} : Cond.constantLong RX10 105 (5) ∈ c0 :: wsL_law := List.mem_cons_of_mem _ wr_414
theorem wr_415 : Cond.constantLong RX10 107 (8) ∈ wsL_law := in_r18 _ (List.mem_of_getElem? (i := 7) rfl)
theorem wm_415 {c0 : Cond} : Cond.constantLong RX10 107 (8) ∈ c0 :: wsL_law := List.mem_cons_of_mem _ wr_415
theorem wr_416 : Cond.constantLong RX10 109 (2) ∈ wsL_law := in_r18 _ (List.mem_of_getElem? (i := 8) rfl)
theorem wm_416 {c0 : Cond} : Cond.constantLong RX10 109 (2) ∈ c0 :: wsL_law := List.mem_cons_of_mem _ wr_416
theorem wr_417 : Cond.methodLink RX10 155 yX10_read ∈ wsL_law := in_r18 _ (List.mem_of_getElem? (i := 9) rfl)
theorem wm_417 {c0 : Cond} : Cond.methodLink RX10 155 yX10_read ∈ c0 :: wsL_law := List.mem_cons_of_mem _ wr_417
theorem wr_418 : Cond.instanceMethod yX10_read ∈ wsL_law := in_r18 _ (List.mem_of_getElem? (i := 10) rfl)
theorem wm_418 {c0 : Cond} : Cond.instanceMethod yX10_read ∈ c0 :: wsL_law := List.mem_cons_of_mem _ wr_418
theorem wr_419 : Cond.selects RX10 yX10_read yX10_read ∈ wsL_law := in_r18 _ (List.mem_of_getElem? (i := 11) rfl)
theorem wm_419 {c0 : Cond} : Cond.selects RX10 yX10_read yX10_read ∈ c0 :: wsL_law := List.mem_cons_of_mem _ wr_419
theorem wr_420 : Cond.code yX10_read cX10_read 3 none ∈ wsL_law := in_r18 _ (List.mem_of_getElem? (i := 12) rfl)
theorem wm_420 {c0 : Cond} : Cond.code yX10_read cX10_read 3 none ∈ c0 :: wsL_law := List.mem_cons_of_mem _ wr_420
theorem wr_421 : Cond.fieldLink RX10 128 "WireGuessModel" "failed" "I" ∈ wsL_law := in_r18 _ (List.mem_of_getElem? (i := 13) rfl)
theorem wm_421 {c0 : Cond} : Cond.fieldLink RX10 128 "WireGuessModel" "failed" "I" ∈ c0 :: wsL_law := List.mem_cons_of_mem _ wr_421
theorem wr_422 : Cond.fieldLink RX10 131 "WireGuessModel" "failedAt" "I" ∈ wsL_law := in_r18 _ (List.mem_of_getElem? (i := 14) rfl)
theorem wm_422 {c0 : Cond} : Cond.fieldLink RX10 131 "WireGuessModel" "failedAt" "I" ∈ c0 :: wsL_law := List.mem_cons_of_mem _ wr_422
theorem wr_423 : Cond.methodLink RX10 134 yX10_frameAt ∈ wsL_law := in_r18 _ (List.mem_of_getElem? (i := 15) rfl)
theorem wm_423 {c0 : Cond} : Cond.methodLink RX10 134 yX10_frameAt ∈ c0 :: wsL_law := List.mem_cons_of_mem _ wr_423
theorem wr_424 : Cond.instanceMethod yX10_frameAt ∈ wsL_law := in_r18 _ (List.mem_of_getElem? (i := 16) rfl)
theorem wm_424 {c0 : Cond} : Cond.instanceMethod yX10_frameAt ∈ c0 :: wsL_law := List.mem_cons_of_mem _ wr_424
theorem wr_425 : Cond.selects RX10 yX10_frameAt yX10_frameAt ∈ wsL_law := in_r18 _ (List.mem_of_getElem? (i := 17) rfl)
theorem wm_425 {c0 : Cond} : Cond.selects RX10 yX10_frameAt yX10_frameAt ∈ c0 :: wsL_law := List.mem_cons_of_mem _ wr_425
theorem wr_426 : Cond.code yX10_frameAt cX10_frameAt 10 (some .int) ∈ wsL_law := in_r18 _ (List.mem_of_getElem? (i := 18) rfl)
theorem wm_426 {c0 : Cond} : Cond.code yX10_frameAt cX10_frameAt 10 (some .int) ∈ c0 :: wsL_law := List.mem_cons_of_mem _ wr_426
theorem wr_427 : Cond.methodLink RX10 114 yX10_frameBits ∈ wsL_law := in_r18 _ (List.mem_of_getElem? (i := 19) rfl)
theorem wm_427 {c0 : Cond} : Cond.methodLink RX10 114 yX10_frameBits ∈ c0 :: wsL_law := List.mem_cons_of_mem _ wr_427
theorem wr_428 : Cond.instanceMethod yX10_frameBits ∈ wsL_law := in_r18 _ (List.mem_of_getElem? (i := 20) rfl)
theorem wm_428 {c0 : Cond} : Cond.instanceMethod yX10_frameBits ∈ c0 :: wsL_law := List.mem_cons_of_mem _ wr_428
theorem wr_429 : Cond.selects RX10 yX10_frameBits yX10_frameBits ∈ wsL_law := in_r18 _ (List.mem_of_getElem? (i := 21) rfl)
theorem wm_429 {c0 : Cond} : Cond.selects RX10 yX10_frameBits yX10_frameBits ∈ c0 :: wsL_law := List.mem_cons_of_mem _ wr_429
theorem wr_430 : Cond.code yX10_frameBits cX10_frameBits 1 (some .int) ∈ wsL_law := in_r18 _ (List.mem_of_getElem? (i := 22) rfl)
theorem wm_430 {c0 : Cond} : Cond.code yX10_frameBits cX10_frameBits 1 (some .int) ∈ c0 :: wsL_law := List.mem_cons_of_mem _ wr_430
theorem wr_431 : Cond.methodLink RX10 117 yX10_isTick ∈ wsL_law := in_r18 _ (List.mem_of_getElem? (i := 23) rfl)
theorem wm_431 {c0 : Cond} : Cond.methodLink RX10 117 yX10_isTick ∈ c0 :: wsL_law := List.mem_cons_of_mem _ wr_431
theorem wr_432 : Cond.static yX10_isTick ∈ wsL_law := in_r19 _ (List.mem_of_getElem? (i := 0) rfl)
theorem wm_432 {c0 : Cond} : Cond.static yX10_isTick ∈ c0 :: wsL_law := List.mem_cons_of_mem _ wr_432
theorem wr_433 : Cond.code yX10_isTick cX10_isTick 2 (some .boolean) ∈ wsL_law := in_r19 _ (List.mem_of_getElem? (i := 1) rfl)
theorem wm_433 {c0 : Cond} : Cond.code yX10_isTick cX10_isTick 2 (some .boolean) ∈ c0 :: wsL_law := List.mem_cons_of_mem _ wr_433
theorem wr_434 : Cond.methodLink RX10 121 yX10_failsBy ∈ wsL_law := in_r19 _ (List.mem_of_getElem? (i := 2) rfl)
theorem wm_434 {c0 : Cond} : Cond.methodLink RX10 121 yX10_failsBy ∈ c0 :: wsL_law := List.mem_cons_of_mem _ wr_434
theorem wr_435 : Cond.instanceMethod yX10_failsBy ∈ wsL_law := in_r19 _ (List.mem_of_getElem? (i := 3) rfl)
theorem wm_435 {c0 : Cond} : Cond.instanceMethod yX10_failsBy ∈ c0 :: wsL_law := List.mem_cons_of_mem _ wr_435
theorem wr_436 : Cond.selects RX10 yX10_failsBy yX10_failsBy ∈ wsL_law := in_r19 _ (List.mem_of_getElem? (i := 4) rfl)
theorem wm_436 {c0 : Cond} : Cond.selects RX10 yX10_failsBy yX10_failsBy ∈ c0 :: wsL_law := List.mem_cons_of_mem _ wr_436
theorem wr_437 : Cond.code yX10_failsBy cX10_failsBy 4 (some .int) ∈ wsL_law := in_r19 _ (List.mem_of_getElem? (i := 5) rfl)
theorem wm_437 {c0 : Cond} : Cond.code yX10_failsBy cX10_failsBy 4 (some .int) ∈ c0 :: wsL_law := List.mem_cons_of_mem _ wr_437
theorem wr_438 : Cond.methodLink RX10 158 yX10_fits ∈ wsL_law := in_r19 _ (List.mem_of_getElem? (i := 6) rfl)
theorem wm_438 {c0 : Cond} : Cond.methodLink RX10 158 yX10_fits ∈ c0 :: wsL_law := List.mem_cons_of_mem _ wr_438
theorem wr_439 : Cond.instanceMethod yX10_fits ∈ wsL_law := in_r19 _ (List.mem_of_getElem? (i := 7) rfl)
theorem wm_439 {c0 : Cond} : Cond.instanceMethod yX10_fits ∈ c0 :: wsL_law := List.mem_cons_of_mem _ wr_439
theorem wr_440 : Cond.selects RX10 yX10_fits yX10_fits ∈ wsL_law := in_r19 _ (List.mem_of_getElem? (i := 8) rfl)
theorem wm_440 {c0 : Cond} : Cond.selects RX10 yX10_fits yX10_fits ∈ c0 :: wsL_law := List.mem_cons_of_mem _ wr_440
theorem wr_441 : Cond.code yX10_fits cX10_fits 1 (some .boolean) ∈ wsL_law := in_r19 _ (List.mem_of_getElem? (i := 9) rfl)
theorem wm_441 {c0 : Cond} : Cond.code yX10_fits cX10_fits 1 (some .boolean) ∈ c0 :: wsL_law := List.mem_cons_of_mem _ wr_441
theorem wr_442 : Cond.methodLink RX10 194 yX10_alikes ∈ wsL_law := in_r19 _ (List.mem_of_getElem? (i := 10) rfl)
theorem wm_442 {c0 : Cond} : Cond.methodLink RX10 194 yX10_alikes ∈ c0 :: wsL_law := List.mem_cons_of_mem _ wr_442
theorem wr_443 : Cond.instanceMethod yX10_alikes ∈ wsL_law := in_r19 _ (List.mem_of_getElem? (i := 11) rfl)
theorem wm_443 {c0 : Cond} : Cond.instanceMethod yX10_alikes ∈ c0 :: wsL_law := List.mem_cons_of_mem _ wr_443
theorem wr_444 : Cond.selects RX10 yX10_alikes yX10_alikes ∈ wsL_law := in_r19 _ (List.mem_of_getElem? (i := 12) rfl)
theorem wm_444 {c0 : Cond} : Cond.selects RX10 yX10_alikes yX10_alikes ∈ c0 :: wsL_law := List.mem_cons_of_mem _ wr_444
theorem wr_445 : Cond.code yX10_alikes cX10_alikes 4 (some .int) ∈ wsL_law := in_r19 _ (List.mem_of_getElem? (i := 13) rfl)
theorem wm_445 {c0 : Cond} : Cond.code yX10_alikes cX10_alikes 4 (some .int) ∈ c0 :: wsL_law := List.mem_cons_of_mem _ wr_445
theorem wr_446 : Cond.fieldLink RX10 162 "WireGuessModel" "alike" "I" ∈ wsL_law := in_r19 _ (List.mem_of_getElem? (i := 14) rfl)
theorem wm_446 {c0 : Cond} : Cond.fieldLink RX10 162 "WireGuessModel" "alike" "I" ∈ c0 :: wsL_law := List.mem_cons_of_mem _ wr_446
theorem wr_447 : Cond.methodLink RX10 169 yX10_isAsBest ∈ wsL_law := in_r19 _ (List.mem_of_getElem? (i := 15) rfl)
theorem wm_447 {c0 : Cond} : Cond.methodLink RX10 169 yX10_isAsBest ∈ c0 :: wsL_law := List.mem_cons_of_mem _ wr_447
theorem wr_448 : Cond.instanceMethod yX10_isAsBest ∈ wsL_law := in_r19 _ (List.mem_of_getElem? (i := 16) rfl)
theorem wm_448 {c0 : Cond} : Cond.instanceMethod yX10_isAsBest ∈ c0 :: wsL_law := List.mem_cons_of_mem _ wr_448
theorem wr_449 : Cond.selects RX10 yX10_isAsBest yX10_isAsBest ∈ wsL_law := in_r19 _ (List.mem_of_getElem? (i := 17) rfl)
theorem wm_449 {c0 : Cond} : Cond.selects RX10 yX10_isAsBest yX10_isAsBest ∈ c0 :: wsL_law := List.mem_cons_of_mem _ wr_449
theorem wr_450 : Cond.code yX10_isAsBest cX10_isAsBest 3 (some .boolean) ∈ wsL_law := in_r19 _ (List.mem_of_getElem? (i := 18) rfl)
theorem wm_450 {c0 : Cond} : Cond.code yX10_isAsBest cX10_isAsBest 3 (some .boolean) ∈ c0 :: wsL_law := List.mem_cons_of_mem _ wr_450
theorem wr_451 : Cond.methodLink RX10 197 yX10_width ∈ wsL_law := in_r19 _ (List.mem_of_getElem? (i := 19) rfl)
theorem wm_451 {c0 : Cond} : Cond.methodLink RX10 197 yX10_width ∈ c0 :: wsL_law := List.mem_cons_of_mem _ wr_451
theorem wr_452 : Cond.instanceMethod yX10_width ∈ wsL_law := in_r19 _ (List.mem_of_getElem? (i := 20) rfl)
theorem wm_452 {c0 : Cond} : Cond.instanceMethod yX10_width ∈ c0 :: wsL_law := List.mem_cons_of_mem _ wr_452
theorem wr_453 : Cond.selects RX10 yX10_width yX10_width ∈ wsL_law := in_r19 _ (List.mem_of_getElem? (i := 21) rfl)
theorem wm_453 {c0 : Cond} : Cond.selects RX10 yX10_width yX10_width ∈ c0 :: wsL_law := List.mem_cons_of_mem _ wr_453
theorem wr_454 : Cond.code yX10_width cX10_width 5 (some .int) ∈ wsL_law := in_r19 _ (List.mem_of_getElem? (i := 22) rfl)
theorem wm_454 {c0 : Cond} : Cond.code yX10_width cX10_width 5 (some .int) ∈ c0 :: wsL_law := List.mem_cons_of_mem _ wr_454
theorem wr_455 : Cond.methodLink RX10 182 yX10_offBy ∈ wsL_law := in_r19 _ (List.mem_of_getElem? (i := 23) rfl)
theorem wm_455 {c0 : Cond} : Cond.methodLink RX10 182 yX10_offBy ∈ c0 :: wsL_law := List.mem_cons_of_mem _ wr_455
theorem wr_456 : Cond.instanceMethod yX10_offBy ∈ wsL_law := in_r20 _ (List.mem_of_getElem? (i := 0) rfl)
theorem wm_456 {c0 : Cond} : Cond.instanceMethod yX10_offBy ∈ c0 :: wsL_law := List.mem_cons_of_mem _ wr_456
theorem wr_457 : Cond.selects RX10 yX10_offBy yX10_offBy ∈ wsL_law := in_r20 _ (List.mem_of_getElem? (i := 1) rfl)
theorem wm_457 {c0 : Cond} : Cond.selects RX10 yX10_offBy yX10_offBy ∈ c0 :: wsL_law := List.mem_cons_of_mem _ wr_457
theorem wr_458 : Cond.code yX10_offBy cX10_offBy 5 (some .int) ∈ wsL_law := in_r20 _ (List.mem_of_getElem? (i := 2) rfl)
theorem wm_458 {c0 : Cond} : Cond.code yX10_offBy cX10_offBy 5 (some .int) ∈ c0 :: wsL_law := List.mem_cons_of_mem _ wr_458
theorem wr_459 : Cond.methodLink RX10 175 yX10_runOf ∈ wsL_law := in_r20 _ (List.mem_of_getElem? (i := 3) rfl)
theorem wm_459 {c0 : Cond} : Cond.methodLink RX10 175 yX10_runOf ∈ c0 :: wsL_law := List.mem_cons_of_mem _ wr_459
theorem wr_460 : Cond.instanceMethod yX10_runOf ∈ wsL_law := in_r20 _ (List.mem_of_getElem? (i := 4) rfl)
theorem wm_460 {c0 : Cond} : Cond.instanceMethod yX10_runOf ∈ c0 :: wsL_law := List.mem_cons_of_mem _ wr_460
theorem wr_461 : Cond.selects RX10 yX10_runOf yX10_runOf ∈ wsL_law := in_r20 _ (List.mem_of_getElem? (i := 5) rfl)
theorem wm_461 {c0 : Cond} : Cond.selects RX10 yX10_runOf yX10_runOf ∈ c0 :: wsL_law := List.mem_cons_of_mem _ wr_461
theorem wr_462 : Cond.code yX10_runOf cX10_runOf 5 (some .int) ∈ wsL_law := in_r20 _ (List.mem_of_getElem? (i := 6) rfl)
theorem wm_462 {c0 : Cond} : Cond.code yX10_runOf cX10_runOf 5 (some .int) ∈ c0 :: wsL_law := List.mem_cons_of_mem _ wr_462
theorem wr_463 : Cond.methodLink RX10 178 yX10_offOf ∈ wsL_law := in_r20 _ (List.mem_of_getElem? (i := 7) rfl)
theorem wm_463 {c0 : Cond} : Cond.methodLink RX10 178 yX10_offOf ∈ c0 :: wsL_law := List.mem_cons_of_mem _ wr_463
theorem wr_464 : Cond.static yX10_offOf ∈ wsL_law := in_r20 _ (List.mem_of_getElem? (i := 8) rfl)
theorem wm_464 {c0 : Cond} : Cond.static yX10_offOf ∈ c0 :: wsL_law := List.mem_cons_of_mem _ wr_464
theorem wr_465 : Cond.code yX10_offOf cX10_offOf 5 (some .int) ∈ wsL_law := in_r20 _ (List.mem_of_getElem? (i := 9) rfl)
theorem wm_465 {c0 : Cond} : Cond.code yX10_offOf cX10_offOf 5 (some .int) ∈ c0 :: wsL_law := List.mem_cons_of_mem _ wr_465
theorem wr_466 : Cond.methodLink RX10 200 yX10_left ∈ wsL_law := in_r20 _ (List.mem_of_getElem? (i := 10) rfl)
theorem wm_466 {c0 : Cond} : Cond.methodLink RX10 200 yX10_left ∈ c0 :: wsL_law := List.mem_cons_of_mem _ wr_466
theorem wr_467 : Cond.instanceMethod yX10_left ∈ wsL_law := in_r20 _ (List.mem_of_getElem? (i := 11) rfl)
theorem wm_467 {c0 : Cond} : Cond.instanceMethod yX10_left ∈ c0 :: wsL_law := List.mem_cons_of_mem _ wr_467
theorem wr_468 : Cond.selects RX10 yX10_left yX10_left ∈ wsL_law := in_r20 _ (List.mem_of_getElem? (i := 12) rfl)
theorem wm_468 {c0 : Cond} : Cond.selects RX10 yX10_left yX10_left ∈ c0 :: wsL_law := List.mem_cons_of_mem _ wr_468
theorem wr_469 : Cond.code yX10_left cX10_left 7 (some .int) ∈ wsL_law := in_r20 _ (List.mem_of_getElem? (i := 13) rfl)
theorem wm_469 {c0 : Cond} : Cond.code yX10_left cX10_left 7 (some .int) ∈ c0 :: wsL_law := List.mem_cons_of_mem _ wr_469
theorem wr_470 : Cond.methodLink RX10 188 yX10_isSo ∈ wsL_law := in_r20 _ (List.mem_of_getElem? (i := 14) rfl)
theorem wm_470 {c0 : Cond} : Cond.methodLink RX10 188 yX10_isSo ∈ c0 :: wsL_law := List.mem_cons_of_mem _ wr_470
theorem wr_471 : Cond.instanceMethod yX10_isSo ∈ wsL_law := in_r20 _ (List.mem_of_getElem? (i := 15) rfl)
theorem wm_471 {c0 : Cond} : Cond.instanceMethod yX10_isSo ∈ c0 :: wsL_law := List.mem_cons_of_mem _ wr_471
theorem wr_472 : Cond.selects RX10 yX10_isSo yX10_isSo ∈ wsL_law := in_r20 _ (List.mem_of_getElem? (i := 16) rfl)
theorem wm_472 {c0 : Cond} : Cond.selects RX10 yX10_isSo yX10_isSo ∈ c0 :: wsL_law := List.mem_cons_of_mem _ wr_472
theorem wr_473 : Cond.code yX10_isSo cX10_isSo 5 (some .boolean) ∈ wsL_law := in_r20 _ (List.mem_of_getElem? (i := 17) rfl)
theorem wm_473 {c0 : Cond} : Cond.code yX10_isSo cX10_isSo 5 (some .boolean) ∈ c0 :: wsL_law := List.mem_cons_of_mem _ wr_473
theorem wr_474 : Cond.methodLink RL 35 yX9_level ∈ wsL_law := in_r20 _ (List.mem_of_getElem? (i := 18) rfl)
theorem wm_474 {c0 : Cond} : Cond.methodLink RL 35 yX9_level ∈ c0 :: wsL_law := List.mem_cons_of_mem _ wr_474
theorem wr_475 : Cond.instanceMethod yX9_level ∈ wsL_law := in_r20 _ (List.mem_of_getElem? (i := 19) rfl)
theorem wm_475 {c0 : Cond} : Cond.instanceMethod yX9_level ∈ c0 :: wsL_law := List.mem_cons_of_mem _ wr_475
theorem wr_476 : Cond.selects RX9 yX9_level yX9_level ∈ wsL_law := in_r20 _ (List.mem_of_getElem? (i := 20) rfl)
theorem wm_476 {c0 : Cond} : Cond.selects RX9 yX9_level yX9_level ∈ c0 :: wsL_law := List.mem_cons_of_mem _ wr_476
theorem wr_477 : Cond.code yX9_level cX9_level 2 (some .int) ∈ wsL_law := in_r20 _ (List.mem_of_getElem? (i := 21) rfl)
theorem wm_477 {c0 : Cond} : Cond.code yX9_level cX9_level 2 (some .int) ∈ c0 :: wsL_law := List.mem_cons_of_mem _ wr_477
theorem wr_478 : Cond.methodLink RX9 150 yX8_has ∈ wsL_law := in_r20 _ (List.mem_of_getElem? (i := 22) rfl)
theorem wm_478 {c0 : Cond} : Cond.methodLink RX9 150 yX8_has ∈ c0 :: wsL_law := List.mem_cons_of_mem _ wr_478
theorem wr_479 : Cond.methodLink RX9 153 yX8_levelAt ∈ wsL_law := in_r20 _ (List.mem_of_getElem? (i := 23) rfl)
theorem wm_479 {c0 : Cond} : Cond.methodLink RX9 153 yX8_levelAt ∈ c0 :: wsL_law := List.mem_cons_of_mem _ wr_479
theorem wr_480 : Cond.methodLink RL 38 yX10_level ∈ wsL_law := in_r21 _ (List.mem_of_getElem? (i := 0) rfl)
theorem wm_480 {c0 : Cond} : Cond.methodLink RL 38 yX10_level ∈ c0 :: wsL_law := List.mem_cons_of_mem _ wr_480
theorem wr_481 : Cond.instanceMethod yX10_level ∈ wsL_law := in_r21 _ (List.mem_of_getElem? (i := 1) rfl)
theorem wm_481 {c0 : Cond} : Cond.instanceMethod yX10_level ∈ c0 :: wsL_law := List.mem_cons_of_mem _ wr_481
theorem wr_482 : Cond.selects RX10 yX10_level yX10_level ∈ wsL_law := in_r21 _ (List.mem_of_getElem? (i := 2) rfl)
theorem wm_482 {c0 : Cond} : Cond.selects RX10 yX10_level yX10_level ∈ c0 :: wsL_law := List.mem_cons_of_mem _ wr_482
theorem wr_483 : Cond.code yX10_level cX10_level 2 (some .int) ∈ wsL_law := in_r21 _ (List.mem_of_getElem? (i := 3) rfl)
theorem wm_483 {c0 : Cond} : Cond.code yX10_level cX10_level 2 (some .int) ∈ c0 :: wsL_law := List.mem_cons_of_mem _ wr_483
theorem wr_484 : Cond.methodLink RL 39 yX9_run ∈ wsL_law := in_r21 _ (List.mem_of_getElem? (i := 4) rfl)
theorem wm_484 {c0 : Cond} : Cond.methodLink RL 39 yX9_run ∈ c0 :: wsL_law := List.mem_cons_of_mem _ wr_484
theorem wr_485 : Cond.instanceMethod yX9_run ∈ wsL_law := in_r21 _ (List.mem_of_getElem? (i := 5) rfl)
theorem wm_485 {c0 : Cond} : Cond.instanceMethod yX9_run ∈ c0 :: wsL_law := List.mem_cons_of_mem _ wr_485
theorem wr_486 : Cond.selects RX9 yX9_run yX9_run ∈ wsL_law := in_r21 _ (List.mem_of_getElem? (i := 6) rfl)
theorem wm_486 {c0 : Cond} : Cond.selects RX9 yX9_run yX9_run ∈ c0 :: wsL_law := List.mem_cons_of_mem _ wr_486
theorem wr_487 : Cond.code yX9_run cX9_run 2 (some .int) ∈ wsL_law := in_r21 _ (List.mem_of_getElem? (i := 7) rfl)
theorem wm_487 {c0 : Cond} : Cond.code yX9_run cX9_run 2 (some .int) ∈ c0 :: wsL_law := List.mem_cons_of_mem _ wr_487
theorem wr_488 : Cond.methodLink RX9 157 yX5_ticksOfRun ∈ wsL_law := in_r21 _ (List.mem_of_getElem? (i := 8) rfl)
theorem wm_488 {c0 : Cond} : Cond.methodLink RX9 157 yX5_ticksOfRun ∈ c0 :: wsL_law := List.mem_cons_of_mem _ wr_488
theorem wr_489 : Cond.instanceMethod yX5_ticksOfRun ∈ wsL_law := in_r21 _ (List.mem_of_getElem? (i := 9) rfl)
theorem wm_489 {c0 : Cond} : Cond.instanceMethod yX5_ticksOfRun ∈ c0 :: wsL_law := List.mem_cons_of_mem _ wr_489
theorem wr_490 : Cond.selects RX5 yX5_ticksOfRun yX5_ticksOfRun ∈ wsL_law := in_r21 _ (List.mem_of_getElem? (i := 10) rfl)
theorem wm_490 {c0 : Cond} : Cond.selects RX5 yX5_ticksOfRun yX5_ticksOfRun ∈ c0 :: wsL_law := List.mem_cons_of_mem _ wr_490
theorem wr_491 : Cond.code yX5_ticksOfRun cX5_ticksOfRun 4 (some .int) ∈ wsL_law := in_r21 _ (List.mem_of_getElem? (i := 11) rfl)
theorem wm_491 {c0 : Cond} : Cond.code yX5_ticksOfRun cX5_ticksOfRun 4 (some .int) ∈ c0 :: wsL_law := List.mem_cons_of_mem _ wr_491
theorem wr_492 : Cond.methodLink RL 42 yX10_run ∈ wsL_law := in_r21 _ (List.mem_of_getElem? (i := 12) rfl)
theorem wm_492 {c0 : Cond} : Cond.methodLink RL 42 yX10_run ∈ c0 :: wsL_law := List.mem_cons_of_mem _ wr_492
theorem wr_493 : Cond.instanceMethod yX10_run ∈ wsL_law := in_r21 _ (List.mem_of_getElem? (i := 13) rfl)
theorem wm_493 {c0 : Cond} : Cond.instanceMethod yX10_run ∈ c0 :: wsL_law := List.mem_cons_of_mem _ wr_493
theorem wr_494 : Cond.selects RX10 yX10_run yX10_run ∈ wsL_law := in_r21 _ (List.mem_of_getElem? (i := 14) rfl)
theorem wm_494 {c0 : Cond} : Cond.selects RX10 yX10_run yX10_run ∈ c0 :: wsL_law := List.mem_cons_of_mem _ wr_494
theorem wr_495 : Cond.code yX10_run cX10_run 3 (some .int) ∈ wsL_law := in_r21 _ (List.mem_of_getElem? (i := 15) rfl)
theorem wm_495 {c0 : Cond} : Cond.code yX10_run cX10_run 3 (some .int) ∈ c0 :: wsL_law := List.mem_cons_of_mem _ wr_495
theorem wr_496 : Cond.methodLink RL 43 yX9_off ∈ wsL_law := in_r21 _ (List.mem_of_getElem? (i := 16) rfl)
theorem wm_496 {c0 : Cond} : Cond.methodLink RL 43 yX9_off ∈ c0 :: wsL_law := List.mem_cons_of_mem _ wr_496
theorem wr_497 : Cond.instanceMethod yX9_off ∈ wsL_law := in_r21 _ (List.mem_of_getElem? (i := 17) rfl)
theorem wm_497 {c0 : Cond} : Cond.instanceMethod yX9_off ∈ c0 :: wsL_law := List.mem_cons_of_mem _ wr_497
theorem wr_498 : Cond.selects RX9 yX9_off yX9_off ∈ wsL_law := in_r21 _ (List.mem_of_getElem? (i := 18) rfl)
theorem wm_498 {c0 : Cond} : Cond.selects RX9 yX9_off yX9_off ∈ c0 :: wsL_law := List.mem_cons_of_mem _ wr_498
theorem wr_499 : Cond.code yX9_off cX9_off 2 (some .int) ∈ wsL_law := in_r21 _ (List.mem_of_getElem? (i := 19) rfl)
theorem wm_499 {c0 : Cond} : Cond.code yX9_off cX9_off 2 (some .int) ∈ c0 :: wsL_law := List.mem_cons_of_mem _ wr_499
theorem wr_500 : Cond.methodLink RX9 160 yX5_offBy ∈ wsL_law := in_r21 _ (List.mem_of_getElem? (i := 20) rfl)
theorem wm_500 {c0 : Cond} : Cond.methodLink RX9 160 yX5_offBy ∈ c0 :: wsL_law := List.mem_cons_of_mem _ wr_500
theorem wr_501 : Cond.methodLink RL 46 yX10_off ∈ wsL_law := in_r21 _ (List.mem_of_getElem? (i := 21) rfl)
theorem wm_501 {c0 : Cond} : Cond.methodLink RL 46 yX10_off ∈ c0 :: wsL_law := List.mem_cons_of_mem _ wr_501
theorem wr_502 : Cond.instanceMethod yX10_off ∈ wsL_law := in_r21 _ (List.mem_of_getElem? (i := 22) rfl)
theorem wm_502 {c0 : Cond} : Cond.instanceMethod yX10_off ∈ c0 :: wsL_law := List.mem_cons_of_mem _ wr_502
theorem wr_503 : Cond.selects RX10 yX10_off yX10_off ∈ wsL_law := in_r21 _ (List.mem_of_getElem? (i := 23) rfl)
theorem wm_503 {c0 : Cond} : Cond.selects RX10 yX10_off yX10_off ∈ c0 :: wsL_law := List.mem_cons_of_mem _ wr_503
theorem wr_504 : Cond.code yX10_off cX10_off 2 (some .int) ∈ wsL_law := in_r22 _ (List.mem_of_getElem? (i := 0) rfl)
theorem wm_504 {c0 : Cond} : Cond.code yX10_off cX10_off 2 (some .int) ∈ c0 :: wsL_law := List.mem_cons_of_mem _ wr_504
theorem wr_505 : Cond.methodLink RL 47 yX9_hear ∈ wsL_law := in_r22 _ (List.mem_of_getElem? (i := 1) rfl)
theorem wm_505 {c0 : Cond} : Cond.methodLink RL 47 yX9_hear ∈ c0 :: wsL_law := List.mem_cons_of_mem _ wr_505
theorem wr_506 : Cond.instanceMethod yX9_hear ∈ wsL_law := in_r22 _ (List.mem_of_getElem? (i := 2) rfl)
theorem wm_506 {c0 : Cond} : Cond.instanceMethod yX9_hear ∈ c0 :: wsL_law := List.mem_cons_of_mem _ wr_506
theorem wr_507 : Cond.selects RX9 yX9_hear yX9_hear ∈ wsL_law := in_r22 _ (List.mem_of_getElem? (i := 3) rfl)
theorem wm_507 {c0 : Cond} : Cond.selects RX9 yX9_hear yX9_hear ∈ c0 :: wsL_law := List.mem_cons_of_mem _ wr_507
theorem wr_508 : Cond.code yX9_hear cX9_hear 3 (some .int) ∈ wsL_law := in_r22 _ (List.mem_of_getElem? (i := 4) rfl)
theorem wm_508 {c0 : Cond} : Cond.code yX9_hear cX9_hear 3 (some .int) ∈ c0 :: wsL_law := List.mem_cons_of_mem _ wr_508
theorem wr_509 : Cond.methodLink RX9 163 yX9_isLevel ∈ wsL_law := in_r22 _ (List.mem_of_getElem? (i := 5) rfl)
theorem wm_509 {c0 : Cond} : Cond.methodLink RX9 163 yX9_isLevel ∈ c0 :: wsL_law := List.mem_cons_of_mem _ wr_509
theorem wr_510 : Cond.static yX9_isLevel ∈ wsL_law := in_r22 _ (List.mem_of_getElem? (i := 6) rfl)
theorem wm_510 {c0 : Cond} : Cond.static yX9_isLevel ∈ c0 :: wsL_law := List.mem_cons_of_mem _ wr_510
theorem wr_511 : Cond.code yX9_isLevel cX9_isLevel 1 (some .boolean) ∈ wsL_law := in_r22 _ (List.mem_of_getElem? (i := 7) rfl)
theorem wm_511 {c0 : Cond} : Cond.code yX9_isLevel cX9_isLevel 1 (some .boolean) ∈ c0 :: wsL_law := List.mem_cons_of_mem _ wr_511
theorem wr_512 : Cond.methodLink RX9 166 yX8_hasPlaceFor ∈ wsL_law := in_r22 _ (List.mem_of_getElem? (i := 8) rfl)
theorem wm_512 {c0 : Cond} : Cond.methodLink RX9 166 yX8_hasPlaceFor ∈ c0 :: wsL_law := List.mem_cons_of_mem _ wr_512
theorem wr_513 : Cond.instanceMethod yX8_hasPlaceFor ∈ wsL_law := in_r22 _ (List.mem_of_getElem? (i := 9) rfl)
theorem wm_513 {c0 : Cond} : Cond.instanceMethod yX8_hasPlaceFor ∈ c0 :: wsL_law := List.mem_cons_of_mem _ wr_513
theorem wr_514 : Cond.selects RX8 yX8_hasPlaceFor yX8_hasPlaceFor ∈ wsL_law := in_r22 _ (List.mem_of_getElem? (i := 10) rfl)
theorem wm_514 {c0 : Cond} : Cond.selects RX8 yX8_hasPlaceFor yX8_hasPlaceFor ∈ c0 :: wsL_law := List.mem_cons_of_mem _ wr_514
theorem wr_515 : Cond.code yX8_hasPlaceFor cX8_hasPlaceFor 2 (some .boolean) ∈ wsL_law := in_r22 _ (List.mem_of_getElem? (i := 11) rfl)
theorem wm_515 {c0 : Cond} : Cond.code yX8_hasPlaceFor cX8_hasPlaceFor 2 (some .boolean) ∈ c0 :: wsL_law := List.mem_cons_of_mem _ wr_515
theorem wr_516 : Cond.methodLink RX9 169 yX8_extend ∈ wsL_law := in_r22 _ (List.mem_of_getElem? (i := 12) rfl)
theorem wm_516 {c0 : Cond} : Cond.methodLink RX9 169 yX8_extend ∈ c0 :: wsL_law := List.mem_cons_of_mem _ wr_516
theorem wr_517 : Cond.methodLink RX9 173 yX0_noteGrown ∈ wsL_law := in_r22 _ (List.mem_of_getElem? (i := 13) rfl)
theorem wm_517 {c0 : Cond} : Cond.methodLink RX9 173 yX0_noteGrown ∈ c0 :: wsL_law := List.mem_cons_of_mem _ wr_517
theorem wr_518 : Cond.instanceMethod yX0_noteGrown ∈ wsL_law := in_r22 _ (List.mem_of_getElem? (i := 14) rfl)
theorem wm_518 {c0 : Cond} : Cond.instanceMethod yX0_noteGrown ∈ c0 :: wsL_law := List.mem_cons_of_mem _ wr_518
theorem wr_519 : Cond.selects RX0 yX0_noteGrown yX0_noteGrown ∈ wsL_law := in_r22 _ (List.mem_of_getElem? (i := 15) rfl)
theorem wm_519 {c0 : Cond} : Cond.selects RX0 yX0_noteGrown yX0_noteGrown ∈ c0 :: wsL_law := List.mem_cons_of_mem _ wr_519
theorem wr_520 : Cond.code yX0_noteGrown cX0_noteGrown 2 none ∈ wsL_law := in_r22 _ (List.mem_of_getElem? (i := 16) rfl)
theorem wm_520 {c0 : Cond} : Cond.code yX0_noteGrown cX0_noteGrown 2 none ∈ c0 :: wsL_law := List.mem_cons_of_mem _ wr_520
theorem wr_521 : Cond.methodLink RX0 29 yX0_note ∈ wsL_law := in_r22 _ (List.mem_of_getElem? (i := 17) rfl)
theorem wm_521 {c0 : Cond} : Cond.methodLink RX0 29 yX0_note ∈ c0 :: wsL_law := List.mem_cons_of_mem _ wr_521
theorem wr_522 : Cond.instanceMethod yX0_note ∈ wsL_law := in_r22 _ (List.mem_of_getElem? (i := 18) rfl)
theorem wm_522 {c0 : Cond} : Cond.instanceMethod yX0_note ∈ c0 :: wsL_law := List.mem_cons_of_mem _ wr_522
theorem wr_523 : Cond.selects RX0 yX0_note yX0_note ∈ wsL_law := in_r22 _ (List.mem_of_getElem? (i := 19) rfl)
theorem wm_523 {c0 : Cond} : Cond.selects RX0 yX0_note yX0_note ∈ c0 :: wsL_law := List.mem_cons_of_mem _ wr_523
theorem wr_524 : Cond.code yX0_note cX0_note 4 (some .int) ∈ wsL_law := in_r22 _ (List.mem_of_getElem? (i := 20) rfl)
theorem wm_524 {c0 : Cond} : Cond.code yX0_note cX0_note 4 (some .int) ∈ c0 :: wsL_law := List.mem_cons_of_mem _ wr_524
theorem wr_525 : Cond.methodLink RL 51 yX10_hear ∈ wsL_law := in_r22 _ (List.mem_of_getElem? (i := 21) rfl)
theorem wm_525 {c0 : Cond} : Cond.methodLink RL 51 yX10_hear ∈ c0 :: wsL_law := List.mem_cons_of_mem _ wr_525
theorem wr_526 : Cond.instanceMethod yX10_hear ∈ wsL_law := in_r22 _ (List.mem_of_getElem? (i := 22) rfl)
theorem wm_526 {c0 : Cond} : Cond.instanceMethod yX10_hear ∈ c0 :: wsL_law := List.mem_cons_of_mem _ wr_526
theorem wr_527 : Cond.selects RX10 yX10_hear yX10_hear ∈ wsL_law := in_r22 _ (List.mem_of_getElem? (i := 23) rfl)
theorem wm_527 {c0 : Cond} : Cond.selects RX10 yX10_hear yX10_hear ∈ c0 :: wsL_law := List.mem_cons_of_mem _ wr_527
theorem wr_528 : Cond.code yX10_hear cX10_hear 3 (some .int) ∈ wsL_law := in_r23 _ (List.mem_of_getElem? (i := 0) rfl)
theorem wm_528 {c0 : Cond} : Cond.code yX10_hear cX10_hear 3 (some .int) ∈ c0 :: wsL_law := List.mem_cons_of_mem _ wr_528
theorem wr_529 : Cond.constantLong RX10 207 (99) ∈ wsL_law := in_r23 _ (List.mem_of_getElem? (i := 1) rfl)
theorem wm_529 {c0 : Cond} : Cond.constantLong RX10 207 (99) ∈ c0 :: wsL_law := List.mem_cons_of_mem _ wr_529
theorem wr_530 : Cond.methodLink RX10 209 yX10_note ∈ wsL_law := in_r23 _ (List.mem_of_getElem? (i := 2) rfl)
theorem wm_530 {c0 : Cond} : Cond.methodLink RX10 209 yX10_note ∈ c0 :: wsL_law := List.mem_cons_of_mem _ wr_530
theorem wr_531 : Cond.instanceMethod yX10_note ∈ wsL_law := in_r23 _ (List.mem_of_getElem? (i := 3) rfl)
theorem wm_531 {c0 : Cond} : Cond.instanceMethod yX10_note ∈ c0 :: wsL_law := List.mem_cons_of_mem _ wr_531
theorem wr_532 : Cond.selects RX10 yX10_note yX10_note ∈ wsL_law := in_r23 _ (List.mem_of_getElem? (i := 4) rfl)
theorem wm_532 {c0 : Cond} : Cond.selects RX10 yX10_note yX10_note ∈ c0 :: wsL_law := List.mem_cons_of_mem _ wr_532
theorem wr_533 : Cond.code yX10_note cX10_note 2 none ∈ wsL_law := in_r23 _ (List.mem_of_getElem? (i := 5) rfl)
theorem wm_533 {c0 : Cond} : Cond.code yX10_note cX10_note 2 none ∈ c0 :: wsL_law := List.mem_cons_of_mem _ wr_533
theorem wr_534 : Cond.fieldLink RX10 204 "WireGuessModel" "next" "I" ∈ wsL_law := in_r23 _ (List.mem_of_getElem? (i := 6) rfl)
theorem wm_534 {c0 : Cond} : Cond.fieldLink RX10 204 "WireGuessModel" "next" "I" ∈ c0 :: wsL_law := List.mem_cons_of_mem _ wr_534
theorem wr_535 : Cond.methodLink RX10 212 yX10_hearOn ∈ wsL_law := in_r23 _ (List.mem_of_getElem? (i := 7) rfl)
theorem wm_535 {c0 : Cond} : Cond.methodLink RX10 212 yX10_hearOn ∈ c0 :: wsL_law := List.mem_cons_of_mem _ wr_535
theorem wr_536 : Cond.static yX10_hearOn ∈ wsL_law := in_r23 _ (List.mem_of_getElem? (i := 8) rfl)
theorem wm_536 {c0 : Cond} : Cond.static yX10_hearOn ∈ c0 :: wsL_law := List.mem_cons_of_mem _ wr_536
theorem wr_537 : Cond.code yX10_hearOn cX10_hearOn 4 none ∈ wsL_law := in_r23 _ (List.mem_of_getElem? (i := 9) rfl)
theorem wm_537 {c0 : Cond} : Cond.code yX10_hearOn cX10_hearOn 4 none ∈ c0 :: wsL_law := List.mem_cons_of_mem _ wr_537
theorem wr_538 : Cond.methodLink RL 52 yX9_send ∈ wsL_law := in_r23 _ (List.mem_of_getElem? (i := 10) rfl)
theorem wm_538 {c0 : Cond} : Cond.methodLink RL 52 yX9_send ∈ c0 :: wsL_law := List.mem_cons_of_mem _ wr_538
theorem wr_539 : Cond.instanceMethod yX9_send ∈ wsL_law := in_r23 _ (List.mem_of_getElem? (i := 11) rfl)
theorem wm_539 {c0 : Cond} : Cond.instanceMethod yX9_send ∈ c0 :: wsL_law := List.mem_cons_of_mem _ wr_539
theorem wr_540 : Cond.selects RX9 yX9_send yX9_send ∈ wsL_law := in_r23 _ (List.mem_of_getElem? (i := 12) rfl)
theorem wm_540 {c0 : Cond} : Cond.selects RX9 yX9_send yX9_send ∈ c0 :: wsL_law := List.mem_cons_of_mem _ wr_540
theorem wr_541 : Cond.code yX9_send cX9_send 4 (some .int) ∈ wsL_law := in_r23 _ (List.mem_of_getElem? (i := 13) rfl)
theorem wm_541 {c0 : Cond} : Cond.code yX9_send cX9_send 4 (some .int) ∈ c0 :: wsL_law := List.mem_cons_of_mem _ wr_541
theorem wr_542 : Cond.methodLink RX9 176 yX1_isToldBy ∈ wsL_law := in_r23 _ (List.mem_of_getElem? (i := 14) rfl)
theorem wm_542 {c0 : Cond} : Cond.methodLink RX9 176 yX1_isToldBy ∈ c0 :: wsL_law := List.mem_cons_of_mem _ wr_542
theorem wr_543 : Cond.instanceMethod yX1_isToldBy ∈ wsL_law := in_r23 _ (List.mem_of_getElem? (i := 15) rfl)
theorem wm_543 {c0 : Cond} : Cond.instanceMethod yX1_isToldBy ∈ c0 :: wsL_law := List.mem_cons_of_mem _ wr_543
theorem wr_544 : Cond.selects RX1 yX1_isToldBy yX1_isToldBy ∈ wsL_law := in_r23 _ (List.mem_of_getElem? (i := 16) rfl)
theorem wm_544 {c0 : Cond} : Cond.selects RX1 yX1_isToldBy yX1_isToldBy ∈ c0 :: wsL_law := List.mem_cons_of_mem _ wr_544
theorem wr_545 : Cond.code yX1_isToldBy cX1_isToldBy 7 (some .boolean) ∈ wsL_law := in_r23 _ (List.mem_of_getElem? (i := 17) rfl)
theorem wm_545 {c0 : Cond} : Cond.code yX1_isToldBy cX1_isToldBy 7 (some .boolean) ∈ c0 :: wsL_law := List.mem_cons_of_mem _ wr_545
theorem wr_546 : Cond.methodLink RX9 179 yX1_ticksOfLetter ∈ wsL_law := in_r23 _ (List.mem_of_getElem? (i := 18) rfl)
theorem wm_546 {c0 : Cond} : Cond.methodLink RX9 179 yX1_ticksOfLetter ∈ c0 :: wsL_law := List.mem_cons_of_mem _ wr_546
theorem wr_547 : Cond.instanceMethod yX1_ticksOfLetter ∈ wsL_law := in_r23 _ (List.mem_of_getElem? (i := 19) rfl)
theorem wm_547 {c0 : Cond} : Cond.instanceMethod yX1_ticksOfLetter ∈ c0 :: wsL_law := List.mem_cons_of_mem _ wr_547
theorem wr_548 : Cond.selects RX1 yX1_ticksOfLetter yX1_ticksOfLetter ∈ wsL_law := in_r23 _ (List.mem_of_getElem? (i := 20) rfl)
theorem wm_548 {c0 : Cond} : Cond.selects RX1 yX1_ticksOfLetter yX1_ticksOfLetter ∈ c0 :: wsL_law := List.mem_cons_of_mem _ wr_548
theorem wr_549 : Cond.code yX1_ticksOfLetter cX1_ticksOfLetter 1 (some .int) ∈ wsL_law := in_r23 _ (List.mem_of_getElem? (i := 21) rfl)
theorem wm_549 {c0 : Cond} : Cond.code yX1_ticksOfLetter cX1_ticksOfLetter 1 (some .int) ∈ c0 :: wsL_law := List.mem_cons_of_mem _ wr_549
theorem wr_550 : Cond.methodLink RX1 27 yX1_bitsOfFrame ∈ wsL_law := in_r23 _ (List.mem_of_getElem? (i := 22) rfl)
theorem wm_550 {c0 : Cond} : Cond.methodLink RX1 27 yX1_bitsOfFrame ∈ c0 :: wsL_law := List.mem_cons_of_mem _ wr_550
theorem wr_551 : Cond.methodLink RX9 182 yX8_extendByLetter ∈ wsL_law := in_r23 _ (List.mem_of_getElem? (i := 23) rfl)
theorem wm_551 {c0 : Cond} : Cond.methodLink RX9 182 yX8_extendByLetter ∈ c0 :: wsL_law := List.mem_cons_of_mem _ wr_551
theorem wr_552 : Cond.instanceMethod yX8_extendByLetter ∈ wsL_law := in_r24 _ (List.mem_of_getElem? (i := 0) rfl)
theorem wm_552 {c0 : Cond} : Cond.instanceMethod yX8_extendByLetter ∈ c0 :: wsL_law := List.mem_cons_of_mem _ wr_552
theorem wr_553 : Cond.selects RX8 yX8_extendByLetter yX8_extendByLetter ∈ wsL_law := in_r24 _ (List.mem_of_getElem? (i := 1) rfl)
theorem wm_553 {c0 : Cond} : Cond.selects RX8 yX8_extendByLetter yX8_extendByLetter ∈ c0 :: wsL_law := List.mem_cons_of_mem _ wr_553
theorem wr_554 : Cond.code yX8_extendByLetter cX8_extendByLetter 7 none ∈ wsL_law := in_r24 _ (List.mem_of_getElem? (i := 2) rfl)
theorem wm_554 {c0 : Cond} : Cond.code yX8_extendByLetter cX8_extendByLetter 7 none ∈ c0 :: wsL_law := List.mem_cons_of_mem _ wr_554
theorem wr_555 : Cond.methodLink RX8 27 yX8_extend ∈ wsL_law := in_r24 _ (List.mem_of_getElem? (i := 3) rfl)
theorem wm_555 {c0 : Cond} : Cond.methodLink RX8 27 yX8_extend ∈ c0 :: wsL_law := List.mem_cons_of_mem _ wr_555
theorem wr_556 : Cond.methodLink RX8 34 yX1_levelOf ∈ wsL_law := in_r24 _ (List.mem_of_getElem? (i := 4) rfl)
theorem wm_556 {c0 : Cond} : Cond.methodLink RX8 34 yX1_levelOf ∈ c0 :: wsL_law := List.mem_cons_of_mem _ wr_556
theorem wr_557 : Cond.instanceMethod yX1_levelOf ∈ wsL_law := in_r24 _ (List.mem_of_getElem? (i := 5) rfl)
theorem wm_557 {c0 : Cond} : Cond.instanceMethod yX1_levelOf ∈ c0 :: wsL_law := List.mem_cons_of_mem _ wr_557
theorem wr_558 : Cond.selects RX1 yX1_levelOf yX1_levelOf ∈ wsL_law := in_r24 _ (List.mem_of_getElem? (i := 6) rfl)
theorem wm_558 {c0 : Cond} : Cond.selects RX1 yX1_levelOf yX1_levelOf ∈ c0 :: wsL_law := List.mem_cons_of_mem _ wr_558
theorem wr_559 : Cond.code yX1_levelOf cX1_levelOf 2 (some .int) ∈ wsL_law := in_r24 _ (List.mem_of_getElem? (i := 7) rfl)
theorem wm_559 {c0 : Cond} : Cond.code yX1_levelOf cX1_levelOf 2 (some .int) ∈ c0 :: wsL_law := List.mem_cons_of_mem _ wr_559
theorem wr_560 : Cond.methodLink RX8 41 yX1_parityFor ∈ wsL_law := in_r24 _ (List.mem_of_getElem? (i := 8) rfl)
theorem wm_560 {c0 : Cond} : Cond.methodLink RX8 41 yX1_parityFor ∈ c0 :: wsL_law := List.mem_cons_of_mem _ wr_560
theorem wr_561 : Cond.instanceMethod yX1_parityFor ∈ wsL_law := in_r24 _ (List.mem_of_getElem? (i := 9) rfl)
theorem wm_561 {c0 : Cond} : Cond.instanceMethod yX1_parityFor ∈ c0 :: wsL_law := List.mem_cons_of_mem _ wr_561
theorem wr_562 : Cond.selects RX1 yX1_parityFor yX1_parityFor ∈ wsL_law := in_r24 _ (List.mem_of_getElem? (i := 10) rfl)
theorem wm_562 {c0 : Cond} : Cond.selects RX1 yX1_parityFor yX1_parityFor ∈ c0 :: wsL_law := List.mem_cons_of_mem _ wr_562
theorem wr_563 : Cond.code yX1_parityFor cX1_parityFor 2 (some .int) ∈ wsL_law := in_r24 _ (List.mem_of_getElem? (i := 11) rfl)
theorem wm_563 {c0 : Cond} : Cond.code yX1_parityFor cX1_parityFor 2 (some .int) ∈ c0 :: wsL_law := List.mem_cons_of_mem _ wr_563
theorem wr_564 : Cond.methodLink RL 55 yX10_send ∈ wsL_law := in_r24 _ (List.mem_of_getElem? (i := 12) rfl)
theorem wm_564 {c0 : Cond} : Cond.methodLink RL 55 yX10_send ∈ c0 :: wsL_law := List.mem_cons_of_mem _ wr_564
theorem wr_565 : Cond.instanceMethod yX10_send ∈ wsL_law := in_r24 _ (List.mem_of_getElem? (i := 13) rfl)
theorem wm_565 {c0 : Cond} : Cond.instanceMethod yX10_send ∈ c0 :: wsL_law := List.mem_cons_of_mem _ wr_565
theorem wr_566 : Cond.selects RX10 yX10_send yX10_send ∈ wsL_law := in_r24 _ (List.mem_of_getElem? (i := 14) rfl)
theorem wm_566 {c0 : Cond} : Cond.selects RX10 yX10_send yX10_send ∈ c0 :: wsL_law := List.mem_cons_of_mem _ wr_566
theorem wr_567 : Cond.code yX10_send cX10_send 3 (some .int) ∈ wsL_law := in_r24 _ (List.mem_of_getElem? (i := 15) rfl)
theorem wm_567 {c0 : Cond} : Cond.code yX10_send cX10_send 3 (some .int) ∈ c0 :: wsL_law := List.mem_cons_of_mem _ wr_567
theorem wr_568 : Cond.methodLink RX10 216 yX10_hasRoom ∈ wsL_law := in_r24 _ (List.mem_of_getElem? (i := 16) rfl)
theorem wm_568 {c0 : Cond} : Cond.methodLink RX10 216 yX10_hasRoom ∈ c0 :: wsL_law := List.mem_cons_of_mem _ wr_568
theorem wr_569 : Cond.instanceMethod yX10_hasRoom ∈ wsL_law := in_r24 _ (List.mem_of_getElem? (i := 17) rfl)
theorem wm_569 {c0 : Cond} : Cond.instanceMethod yX10_hasRoom ∈ c0 :: wsL_law := List.mem_cons_of_mem _ wr_569
theorem wr_570 : Cond.selects RX10 yX10_hasRoom yX10_hasRoom ∈ wsL_law := in_r24 _ (List.mem_of_getElem? (i := 18) rfl)
theorem wm_570 {c0 : Cond} : Cond.selects RX10 yX10_hasRoom yX10_hasRoom ∈ c0 :: wsL_law := List.mem_cons_of_mem _ wr_570
theorem wr_571 : Cond.code yX10_hasRoom cX10_hasRoom 2 (some .boolean) ∈ wsL_law := in_r24 _ (List.mem_of_getElem? (i := 19) rfl)
theorem wm_571 {c0 : Cond} : Cond.code yX10_hasRoom cX10_hasRoom 2 (some .boolean) ∈ c0 :: wsL_law := List.mem_cons_of_mem _ wr_571
theorem wr_572 : Cond.methodLink RX10 220 yX10_sendOn ∈ wsL_law := in_r24 _ (List.mem_of_getElem? (i := 20) rfl)
theorem wm_572 {c0 : Cond} : Cond.methodLink RX10 220 yX10_sendOn ∈ c0 :: wsL_law := List.mem_cons_of_mem _ wr_572
theorem wr_573 : Cond.instanceMethod yX10_sendOn ∈ wsL_law := in_r24 _ (List.mem_of_getElem? (i := 21) rfl)
theorem wm_573 {c0 : Cond} : Cond.instanceMethod yX10_sendOn ∈ c0 :: wsL_law := List.mem_cons_of_mem _ wr_573
theorem wr_574 : Cond.selects RX10 yX10_sendOn yX10_sendOn ∈ wsL_law := in_r24 _ (List.mem_of_getElem? (i := 22) rfl)
theorem wm_574 {c0 : Cond} : Cond.selects RX10 yX10_sendOn yX10_sendOn ∈ c0 :: wsL_law := List.mem_cons_of_mem _ wr_574
theorem wr_575 : Cond.code yX10_sendOn cX10_sendOn 6 none ∈ wsL_law := in_r24 _ (List.mem_of_getElem? (i := 23) rfl)
theorem wm_575 {c0 : Cond} : Cond.code yX10_sendOn cX10_sendOn 6 none ∈ c0 :: wsL_law := List.mem_cons_of_mem _ wr_575
theorem wr_576 : Cond.methodLink RL 56 yX9_flip ∈ wsL_law := in_r25 _ (List.mem_of_getElem? (i := 0) rfl)
theorem wm_576 {c0 : Cond} : Cond.methodLink RL 56 yX9_flip ∈ c0 :: wsL_law := List.mem_cons_of_mem _ wr_576
theorem wr_577 : Cond.instanceMethod yX9_flip ∈ wsL_law := in_r25 _ (List.mem_of_getElem? (i := 1) rfl)
theorem wm_577 {c0 : Cond} : Cond.instanceMethod yX9_flip ∈ c0 :: wsL_law := List.mem_cons_of_mem _ wr_577
theorem wr_578 : Cond.selects RX9 yX9_flip yX9_flip ∈ wsL_law := in_r25 _ (List.mem_of_getElem? (i := 2) rfl)
theorem wm_578 {c0 : Cond} : Cond.selects RX9 yX9_flip yX9_flip ∈ c0 :: wsL_law := List.mem_cons_of_mem _ wr_578
theorem wr_579 : Cond.code yX9_flip cX9_flip 2 (some .int) ∈ wsL_law := in_r25 _ (List.mem_of_getElem? (i := 3) rfl)
theorem wm_579 {c0 : Cond} : Cond.code yX9_flip cX9_flip 2 (some .int) ∈ c0 :: wsL_law := List.mem_cons_of_mem _ wr_579
theorem wr_580 : Cond.methodLink RX9 186 yX8_turnOver ∈ wsL_law := in_r25 _ (List.mem_of_getElem? (i := 4) rfl)
theorem wm_580 {c0 : Cond} : Cond.methodLink RX9 186 yX8_turnOver ∈ c0 :: wsL_law := List.mem_cons_of_mem _ wr_580
theorem wr_581 : Cond.instanceMethod yX8_turnOver ∈ wsL_law := in_r25 _ (List.mem_of_getElem? (i := 5) rfl)
theorem wm_581 {c0 : Cond} : Cond.instanceMethod yX8_turnOver ∈ c0 :: wsL_law := List.mem_cons_of_mem _ wr_581
theorem wr_582 : Cond.selects RX8 yX8_turnOver yX8_turnOver ∈ wsL_law := in_r25 _ (List.mem_of_getElem? (i := 6) rfl)
theorem wm_582 {c0 : Cond} : Cond.selects RX8 yX8_turnOver yX8_turnOver ∈ c0 :: wsL_law := List.mem_cons_of_mem _ wr_582
theorem wr_583 : Cond.code yX8_turnOver cX8_turnOver 2 none ∈ wsL_law := in_r25 _ (List.mem_of_getElem? (i := 7) rfl)
theorem wm_583 {c0 : Cond} : Cond.code yX8_turnOver cX8_turnOver 2 none ∈ c0 :: wsL_law := List.mem_cons_of_mem _ wr_583
theorem wr_584 : Cond.methodLink RX8 47 yX8_has ∈ wsL_law := in_r25 _ (List.mem_of_getElem? (i := 8) rfl)
theorem wm_584 {c0 : Cond} : Cond.methodLink RX8 47 yX8_has ∈ c0 :: wsL_law := List.mem_cons_of_mem _ wr_584
theorem wr_585 : Cond.methodLink RX9 189 yX0_noteFlipped ∈ wsL_law := in_r25 _ (List.mem_of_getElem? (i := 9) rfl)
theorem wm_585 {c0 : Cond} : Cond.methodLink RX9 189 yX0_noteFlipped ∈ c0 :: wsL_law := List.mem_cons_of_mem _ wr_585
theorem wr_586 : Cond.instanceMethod yX0_noteFlipped ∈ wsL_law := in_r25 _ (List.mem_of_getElem? (i := 10) rfl)
theorem wm_586 {c0 : Cond} : Cond.instanceMethod yX0_noteFlipped ∈ c0 :: wsL_law := List.mem_cons_of_mem _ wr_586
theorem wr_587 : Cond.selects RX0 yX0_noteFlipped yX0_noteFlipped ∈ wsL_law := in_r25 _ (List.mem_of_getElem? (i := 11) rfl)
theorem wm_587 {c0 : Cond} : Cond.selects RX0 yX0_noteFlipped yX0_noteFlipped ∈ c0 :: wsL_law := List.mem_cons_of_mem _ wr_587
theorem wr_588 : Cond.code yX0_noteFlipped cX0_noteFlipped 2 none ∈ wsL_law := in_r25 _ (List.mem_of_getElem? (i := 12) rfl)
theorem wm_588 {c0 : Cond} : Cond.code yX0_noteFlipped cX0_noteFlipped 2 none ∈ c0 :: wsL_law := List.mem_cons_of_mem _ wr_588
theorem wr_589 : Cond.methodLink RL 59 yX10_flip ∈ wsL_law := in_r25 _ (List.mem_of_getElem? (i := 13) rfl)
theorem wm_589 {c0 : Cond} : Cond.methodLink RL 59 yX10_flip ∈ c0 :: wsL_law := List.mem_cons_of_mem _ wr_589
theorem wr_590 : Cond.instanceMethod yX10_flip ∈ wsL_law := in_r25 _ (List.mem_of_getElem? (i := 14) rfl)
theorem wm_590 {c0 : Cond} : Cond.instanceMethod yX10_flip ∈ c0 :: wsL_law := List.mem_cons_of_mem _ wr_590
theorem wr_591 : Cond.selects RX10 yX10_flip yX10_flip ∈ wsL_law := in_r25 _ (List.mem_of_getElem? (i := 15) rfl)
theorem wm_591 {c0 : Cond} : Cond.selects RX10 yX10_flip yX10_flip ∈ c0 :: wsL_law := List.mem_cons_of_mem _ wr_591
theorem wr_592 : Cond.code yX10_flip cX10_flip 2 (some .int) ∈ wsL_law := in_r25 _ (List.mem_of_getElem? (i := 16) rfl)
theorem wm_592 {c0 : Cond} : Cond.code yX10_flip cX10_flip 2 (some .int) ∈ c0 :: wsL_law := List.mem_cons_of_mem _ wr_592
theorem wr_593 : Cond.methodLink RL 60 yX9_cut ∈ wsL_law := in_r25 _ (List.mem_of_getElem? (i := 17) rfl)
theorem wm_593 {c0 : Cond} : Cond.methodLink RL 60 yX9_cut ∈ c0 :: wsL_law := List.mem_cons_of_mem _ wr_593
theorem wr_594 : Cond.instanceMethod yX9_cut ∈ wsL_law := in_r25 _ (List.mem_of_getElem? (i := 18) rfl)
theorem wm_594 {c0 : Cond} : Cond.instanceMethod yX9_cut ∈ c0 :: wsL_law := List.mem_cons_of_mem _ wr_594
theorem wr_595 : Cond.selects RX9 yX9_cut yX9_cut ∈ wsL_law := in_r25 _ (List.mem_of_getElem? (i := 19) rfl)
theorem wm_595 {c0 : Cond} : Cond.selects RX9 yX9_cut yX9_cut ∈ c0 :: wsL_law := List.mem_cons_of_mem _ wr_595
theorem wr_596 : Cond.code yX9_cut cX9_cut 2 (some .int) ∈ wsL_law := in_r25 _ (List.mem_of_getElem? (i := 20) rfl)
theorem wm_596 {c0 : Cond} : Cond.code yX9_cut cX9_cut 2 (some .int) ∈ c0 :: wsL_law := List.mem_cons_of_mem _ wr_596
theorem wr_597 : Cond.methodLink RX9 192 yX0_noteCut ∈ wsL_law := in_r25 _ (List.mem_of_getElem? (i := 21) rfl)
theorem wm_597 {c0 : Cond} : Cond.methodLink RX9 192 yX0_noteCut ∈ c0 :: wsL_law := List.mem_cons_of_mem _ wr_597
theorem wr_598 : Cond.instanceMethod yX0_noteCut ∈ wsL_law := in_r25 _ (List.mem_of_getElem? (i := 22) rfl)
theorem wm_598 {c0 : Cond} : Cond.instanceMethod yX0_noteCut ∈ c0 :: wsL_law := List.mem_cons_of_mem _ wr_598
theorem wr_599 : Cond.selects RX0 yX0_noteCut yX0_noteCut ∈ wsL_law := in_r25 _ (List.mem_of_getElem? (i := 23) rfl)
theorem wm_599 {c0 : Cond} : Cond.selects RX0 yX0_noteCut yX0_noteCut ∈ c0 :: wsL_law := List.mem_cons_of_mem _ wr_599
theorem wr_600 : Cond.code yX0_noteCut cX0_noteCut 5 none ∈ wsL_law := in_r26 _ (List.mem_of_getElem? (i := 0) rfl)
theorem wm_600 {c0 : Cond} : Cond.code yX0_noteCut cX0_noteCut 5 none ∈ c0 :: wsL_law := List.mem_cons_of_mem _ wr_600
theorem wr_601 : Cond.methodLink RX0 38 yX8_levelAt ∈ wsL_law := in_r26 _ (List.mem_of_getElem? (i := 1) rfl)
theorem wm_601 {c0 : Cond} : Cond.methodLink RX0 38 yX8_levelAt ∈ c0 :: wsL_law := List.mem_cons_of_mem _ wr_601
theorem wr_602 : Cond.methodLink RX9 196 yX8_shorten ∈ wsL_law := in_r26 _ (List.mem_of_getElem? (i := 2) rfl)
theorem wm_602 {c0 : Cond} : Cond.methodLink RX9 196 yX8_shorten ∈ c0 :: wsL_law := List.mem_cons_of_mem _ wr_602
theorem wr_603 : Cond.methodLink RL 63 yX10_cut ∈ wsL_law := in_r26 _ (List.mem_of_getElem? (i := 3) rfl)
theorem wm_603 {c0 : Cond} : Cond.methodLink RL 63 yX10_cut ∈ c0 :: wsL_law := List.mem_cons_of_mem _ wr_603
theorem wr_604 : Cond.instanceMethod yX10_cut ∈ wsL_law := in_r26 _ (List.mem_of_getElem? (i := 4) rfl)
theorem wm_604 {c0 : Cond} : Cond.instanceMethod yX10_cut ∈ c0 :: wsL_law := List.mem_cons_of_mem _ wr_604
theorem wr_605 : Cond.selects RX10 yX10_cut yX10_cut ∈ wsL_law := in_r26 _ (List.mem_of_getElem? (i := 5) rfl)
theorem wm_605 {c0 : Cond} : Cond.selects RX10 yX10_cut yX10_cut ∈ c0 :: wsL_law := List.mem_cons_of_mem _ wr_605
theorem wr_606 : Cond.code yX10_cut cX10_cut 2 (some .int) ∈ wsL_law := in_r26 _ (List.mem_of_getElem? (i := 6) rfl)
theorem wm_606 {c0 : Cond} : Cond.code yX10_cut cX10_cut 2 (some .int) ∈ c0 :: wsL_law := List.mem_cons_of_mem _ wr_606
theorem wr_607 : Cond.methodLink RX10 224 yX10_cutOn ∈ wsL_law := in_r26 _ (List.mem_of_getElem? (i := 7) rfl)
theorem wm_607 {c0 : Cond} : Cond.methodLink RX10 224 yX10_cutOn ∈ c0 :: wsL_law := List.mem_cons_of_mem _ wr_607
theorem wr_608 : Cond.static yX10_cutOn ∈ wsL_law := in_r26 _ (List.mem_of_getElem? (i := 8) rfl)
theorem wm_608 {c0 : Cond} : Cond.static yX10_cutOn ∈ c0 :: wsL_law := List.mem_cons_of_mem _ wr_608
theorem wr_609 : Cond.code yX10_cutOn cX10_cutOn 3 none ∈ wsL_law := in_r26 _ (List.mem_of_getElem? (i := 9) rfl)
theorem wm_609 {c0 : Cond} : Cond.code yX10_cutOn cX10_cutOn 3 none ∈ c0 :: wsL_law := List.mem_cons_of_mem _ wr_609
theorem wr_610 : Cond.methodLink RL 64 yX9_undo ∈ wsL_law := in_r26 _ (List.mem_of_getElem? (i := 10) rfl)
theorem wm_610 {c0 : Cond} : Cond.methodLink RL 64 yX9_undo ∈ c0 :: wsL_law := List.mem_cons_of_mem _ wr_610
theorem wr_611 : Cond.instanceMethod yX9_undo ∈ wsL_law := in_r26 _ (List.mem_of_getElem? (i := 11) rfl)
theorem wm_611 {c0 : Cond} : Cond.instanceMethod yX9_undo ∈ c0 :: wsL_law := List.mem_cons_of_mem _ wr_611
theorem wr_612 : Cond.selects RX9 yX9_undo yX9_undo ∈ wsL_law := in_r26 _ (List.mem_of_getElem? (i := 12) rfl)
theorem wm_612 {c0 : Cond} : Cond.selects RX9 yX9_undo yX9_undo ∈ c0 :: wsL_law := List.mem_cons_of_mem _ wr_612
theorem wr_613 : Cond.code yX9_undo cX9_undo 1 (some .int) ∈ wsL_law := in_r26 _ (List.mem_of_getElem? (i := 13) rfl)
theorem wm_613 {c0 : Cond} : Cond.code yX9_undo cX9_undo 1 (some .int) ∈ c0 :: wsL_law := List.mem_cons_of_mem _ wr_613
theorem wr_614 : Cond.methodLink RX9 199 yX0_takeBackLast ∈ wsL_law := in_r26 _ (List.mem_of_getElem? (i := 14) rfl)
theorem wm_614 {c0 : Cond} : Cond.methodLink RX9 199 yX0_takeBackLast ∈ c0 :: wsL_law := List.mem_cons_of_mem _ wr_614
theorem wr_615 : Cond.instanceMethod yX0_takeBackLast ∈ wsL_law := in_r26 _ (List.mem_of_getElem? (i := 15) rfl)
theorem wm_615 {c0 : Cond} : Cond.instanceMethod yX0_takeBackLast ∈ c0 :: wsL_law := List.mem_cons_of_mem _ wr_615
theorem wr_616 : Cond.selects RX0 yX0_takeBackLast yX0_takeBackLast ∈ wsL_law := in_r26 _ (List.mem_of_getElem? (i := 16) rfl)
theorem wm_616 {c0 : Cond} : Cond.selects RX0 yX0_takeBackLast yX0_takeBackLast ∈ c0 :: wsL_law := List.mem_cons_of_mem _ wr_616
theorem wr_617 : Cond.code yX0_takeBackLast cX0_takeBackLast 3 none ∈ wsL_law := in_r26 _ (List.mem_of_getElem? (i := 17) rfl)
theorem wm_617 {c0 : Cond} : Cond.code yX0_takeBackLast cX0_takeBackLast 3 none ∈ c0 :: wsL_law := List.mem_cons_of_mem _ wr_617
theorem wr_618 : Cond.methodLink RX0 42 yX8_shorten ∈ wsL_law := in_r26 _ (List.mem_of_getElem? (i := 18) rfl)
theorem wm_618 {c0 : Cond} : Cond.methodLink RX0 42 yX8_shorten ∈ c0 :: wsL_law := List.mem_cons_of_mem _ wr_618
theorem wr_619 : Cond.methodLink RX0 46 yX8_turnOver ∈ wsL_law := in_r26 _ (List.mem_of_getElem? (i := 19) rfl)
theorem wm_619 {c0 : Cond} : Cond.methodLink RX0 46 yX8_turnOver ∈ c0 :: wsL_law := List.mem_cons_of_mem _ wr_619
theorem wr_620 : Cond.methodLink RX0 49 yX0_bringBack ∈ wsL_law := in_r26 _ (List.mem_of_getElem? (i := 20) rfl)
theorem wm_620 {c0 : Cond} : Cond.methodLink RX0 49 yX0_bringBack ∈ c0 :: wsL_law := List.mem_cons_of_mem _ wr_620
theorem wr_621 : Cond.instanceMethod yX0_bringBack ∈ wsL_law := in_r26 _ (List.mem_of_getElem? (i := 21) rfl)
theorem wm_621 {c0 : Cond} : Cond.instanceMethod yX0_bringBack ∈ c0 :: wsL_law := List.mem_cons_of_mem _ wr_621
theorem wr_622 : Cond.selects RX0 yX0_bringBack yX0_bringBack ∈ wsL_law := in_r26 _ (List.mem_of_getElem? (i := 22) rfl)
theorem wm_622 {c0 : Cond} : Cond.selects RX0 yX0_bringBack yX0_bringBack ∈ c0 :: wsL_law := List.mem_cons_of_mem _ wr_622
theorem wr_623 : Cond.code yX0_bringBack cX0_bringBack 6 none ∈ wsL_law := in_r26 _ (List.mem_of_getElem? (i := 23) rfl)
theorem wm_623 {c0 : Cond} : Cond.code yX0_bringBack cX0_bringBack 6 none ∈ c0 :: wsL_law := List.mem_cons_of_mem _ wr_623
theorem wr_624 : Cond.methodLink RX0 53 yX8_extend ∈ wsL_law := in_r27 _ (List.mem_of_getElem? (i := 0) rfl)
theorem wm_624 {c0 : Cond} : Cond.methodLink RX0 53 yX8_extend ∈ c0 :: wsL_law := List.mem_cons_of_mem _ wr_624
theorem wr_625 : Cond.methodLink RL 67 yX10_undo ∈ wsL_law := in_r27 _ (List.mem_of_getElem? (i := 1) rfl)
theorem wm_625 {c0 : Cond} : Cond.methodLink RL 67 yX10_undo ∈ c0 :: wsL_law := List.mem_cons_of_mem _ wr_625
theorem wr_626 : Cond.instanceMethod yX10_undo ∈ wsL_law := in_r27 _ (List.mem_of_getElem? (i := 2) rfl)
theorem wm_626 {c0 : Cond} : Cond.instanceMethod yX10_undo ∈ c0 :: wsL_law := List.mem_cons_of_mem _ wr_626
theorem wr_627 : Cond.selects RX10 yX10_undo yX10_undo ∈ wsL_law := in_r27 _ (List.mem_of_getElem? (i := 3) rfl)
theorem wm_627 {c0 : Cond} : Cond.selects RX10 yX10_undo yX10_undo ∈ c0 :: wsL_law := List.mem_cons_of_mem _ wr_627
theorem wr_628 : Cond.code yX10_undo cX10_undo 2 (some .int) ∈ wsL_law := in_r27 _ (List.mem_of_getElem? (i := 4) rfl)
theorem wm_628 {c0 : Cond} : Cond.code yX10_undo cX10_undo 2 (some .int) ∈ c0 :: wsL_law := List.mem_cons_of_mem _ wr_628
theorem wr_629 : Cond.methodLink RL 68 yX9_guess ∈ wsL_law := in_r27 _ (List.mem_of_getElem? (i := 5) rfl)
theorem wm_629 {c0 : Cond} : Cond.methodLink RL 68 yX9_guess ∈ c0 :: wsL_law := List.mem_cons_of_mem _ wr_629
theorem wr_630 : Cond.instanceMethod yX9_guess ∈ wsL_law := in_r27 _ (List.mem_of_getElem? (i := 6) rfl)
theorem wm_630 {c0 : Cond} : Cond.instanceMethod yX9_guess ∈ c0 :: wsL_law := List.mem_cons_of_mem _ wr_630
theorem wr_631 : Cond.selects RX9 yX9_guess yX9_guess ∈ wsL_law := in_r27 _ (List.mem_of_getElem? (i := 7) rfl)
theorem wm_631 {c0 : Cond} : Cond.selects RX9 yX9_guess yX9_guess ∈ c0 :: wsL_law := List.mem_cons_of_mem _ wr_631
theorem wr_632 : Cond.code yX9_guess cX9_guess 3 (some .int) ∈ wsL_law := in_r27 _ (List.mem_of_getElem? (i := 8) rfl)
theorem wm_632 {c0 : Cond} : Cond.code yX9_guess cX9_guess 3 (some .int) ∈ c0 :: wsL_law := List.mem_cons_of_mem _ wr_632
theorem wr_633 : Cond.methodLink RX9 202 yX4_read ∈ wsL_law := in_r27 _ (List.mem_of_getElem? (i := 9) rfl)
theorem wm_633 {c0 : Cond} : Cond.methodLink RX9 202 yX4_read ∈ c0 :: wsL_law := List.mem_cons_of_mem _ wr_633
theorem wr_634 : Cond.methodLink RX9 209 yX4_fits ∈ wsL_law := in_r27 _ (List.mem_of_getElem? (i := 10) rfl)
theorem wm_634 {c0 : Cond} : Cond.methodLink RX9 209 yX4_fits ∈ c0 :: wsL_law := List.mem_cons_of_mem _ wr_634
theorem wr_635 : Cond.methodLink RL 71 yX10_guess ∈ wsL_law := in_r27 _ (List.mem_of_getElem? (i := 11) rfl)
theorem wm_635 {c0 : Cond} : Cond.methodLink RL 71 yX10_guess ∈ c0 :: wsL_law := List.mem_cons_of_mem _ wr_635
theorem wr_636 : Cond.instanceMethod yX10_guess ∈ wsL_law := in_r27 _ (List.mem_of_getElem? (i := 12) rfl)
theorem wm_636 {c0 : Cond} : Cond.instanceMethod yX10_guess ∈ c0 :: wsL_law := List.mem_cons_of_mem _ wr_636
theorem wr_637 : Cond.selects RX10 yX10_guess yX10_guess ∈ wsL_law := in_r27 _ (List.mem_of_getElem? (i := 13) rfl)
theorem wm_637 {c0 : Cond} : Cond.selects RX10 yX10_guess yX10_guess ∈ c0 :: wsL_law := List.mem_cons_of_mem _ wr_637
theorem wr_638 : Cond.code yX10_guess cX10_guess 3 (some .int) ∈ wsL_law := in_r27 _ (List.mem_of_getElem? (i := 14) rfl)
theorem wm_638 {c0 : Cond} : Cond.code yX10_guess cX10_guess 3 (some .int) ∈ c0 :: wsL_law := List.mem_cons_of_mem _ wr_638
theorem wr_639 : Cond.constantLong RX10 227 (4) ∈ wsL_law := in_r27 _ (List.mem_of_getElem? (i := 15) rfl)
theorem wm_639 {c0 : Cond} : Cond.constantLong RX10 227 (4) ∈ c0 :: wsL_law := List.mem_cons_of_mem _ wr_639
theorem wr_640 : Cond.methodLink RL 72 yX9_letter ∈ wsL_law := in_r27 _ (List.mem_of_getElem? (i := 16) rfl)
theorem wm_640 {c0 : Cond} : Cond.methodLink RL 72 yX9_letter ∈ c0 :: wsL_law := List.mem_cons_of_mem _ wr_640
theorem wr_641 : Cond.instanceMethod yX9_letter ∈ wsL_law := in_r27 _ (List.mem_of_getElem? (i := 17) rfl)
theorem wm_641 {c0 : Cond} : Cond.instanceMethod yX9_letter ∈ c0 :: wsL_law := List.mem_cons_of_mem _ wr_641
theorem wr_642 : Cond.selects RX9 yX9_letter yX9_letter ∈ wsL_law := in_r27 _ (List.mem_of_getElem? (i := 18) rfl)
theorem wm_642 {c0 : Cond} : Cond.selects RX9 yX9_letter yX9_letter ∈ c0 :: wsL_law := List.mem_cons_of_mem _ wr_642
theorem wr_643 : Cond.code yX9_letter cX9_letter 4 (some .int) ∈ wsL_law := in_r27 _ (List.mem_of_getElem? (i := 19) rfl)
theorem wm_643 {c0 : Cond} : Cond.code yX9_letter cX9_letter 4 (some .int) ∈ c0 :: wsL_law := List.mem_cons_of_mem _ wr_643
theorem wr_644 : Cond.methodLink RX9 220 yX4_startAt ∈ wsL_law := in_r27 _ (List.mem_of_getElem? (i := 20) rfl)
theorem wm_644 {c0 : Cond} : Cond.methodLink RX9 220 yX4_startAt ∈ c0 :: wsL_law := List.mem_cons_of_mem _ wr_644
theorem wr_645 : Cond.instanceMethod yX4_startAt ∈ wsL_law := in_r27 _ (List.mem_of_getElem? (i := 21) rfl)
theorem wm_645 {c0 : Cond} : Cond.instanceMethod yX4_startAt ∈ c0 :: wsL_law := List.mem_cons_of_mem _ wr_645
theorem wr_646 : Cond.selects RX4 yX4_startAt yX4_startAt ∈ wsL_law := in_r27 _ (List.mem_of_getElem? (i := 22) rfl)
theorem wm_646 {c0 : Cond} : Cond.selects RX4 yX4_startAt yX4_startAt ∈ c0 :: wsL_law := List.mem_cons_of_mem _ wr_646
theorem wr_647 : Cond.code yX4_startAt cX4_startAt 2 (some .int) ∈ wsL_law := in_r27 _ (List.mem_of_getElem? (i := 23) rfl)
theorem wm_647 {c0 : Cond} : Cond.code yX4_startAt cX4_startAt 2 (some .int) ∈ c0 :: wsL_law := List.mem_cons_of_mem _ wr_647
theorem wr_648 : Cond.methodLink RX9 223 yX4_letterAt ∈ wsL_law := in_r28 _ (List.mem_of_getElem? (i := 0) rfl)
theorem wm_648 {c0 : Cond} : Cond.methodLink RX9 223 yX4_letterAt ∈ c0 :: wsL_law := List.mem_cons_of_mem _ wr_648
theorem wr_649 : Cond.methodLink RL 76 yX10_letter ∈ wsL_law := in_r28 _ (List.mem_of_getElem? (i := 1) rfl)
theorem wm_649 {c0 : Cond} : Cond.methodLink RL 76 yX10_letter ∈ c0 :: wsL_law := List.mem_cons_of_mem _ wr_649
theorem wr_650 : Cond.instanceMethod yX10_letter ∈ wsL_law := in_r28 _ (List.mem_of_getElem? (i := 2) rfl)
theorem wm_650 {c0 : Cond} : Cond.instanceMethod yX10_letter ∈ c0 :: wsL_law := List.mem_cons_of_mem _ wr_650
theorem wr_651 : Cond.selects RX10 yX10_letter yX10_letter ∈ wsL_law := in_r28 _ (List.mem_of_getElem? (i := 3) rfl)
theorem wm_651 {c0 : Cond} : Cond.selects RX10 yX10_letter yX10_letter ∈ c0 :: wsL_law := List.mem_cons_of_mem _ wr_651
theorem wr_652 : Cond.code yX10_letter cX10_letter 4 (some .int) ∈ wsL_law := in_r28 _ (List.mem_of_getElem? (i := 4) rfl)
theorem wm_652 {c0 : Cond} : Cond.code yX10_letter cX10_letter 4 (some .int) ∈ c0 :: wsL_law := List.mem_cons_of_mem _ wr_652
theorem wr_653 : Cond.methodLink RL 79 yX9_judge ∈ wsL_law := in_r28 _ (List.mem_of_getElem? (i := 5) rfl)
theorem wm_653 {c0 : Cond} : Cond.methodLink RL 79 yX9_judge ∈ c0 :: wsL_law := List.mem_cons_of_mem _ wr_653
theorem wr_654 : Cond.instanceMethod yX9_judge ∈ wsL_law := in_r28 _ (List.mem_of_getElem? (i := 6) rfl)
theorem wm_654 {c0 : Cond} : Cond.instanceMethod yX9_judge ∈ c0 :: wsL_law := List.mem_cons_of_mem _ wr_654
theorem wr_655 : Cond.selects RX9 yX9_judge yX9_judge ∈ wsL_law := in_r28 _ (List.mem_of_getElem? (i := 7) rfl)
theorem wm_655 {c0 : Cond} : Cond.selects RX9 yX9_judge yX9_judge ∈ c0 :: wsL_law := List.mem_cons_of_mem _ wr_655
theorem wr_656 : Cond.code yX9_judge cX9_judge 6 (some .int) ∈ wsL_law := in_r28 _ (List.mem_of_getElem? (i := 8) rfl)
theorem wm_656 {c0 : Cond} : Cond.code yX9_judge cX9_judge 6 (some .int) ∈ c0 :: wsL_law := List.mem_cons_of_mem _ wr_656
theorem wr_657 : Cond.constantLong RX9 233 (10000) ∈ wsL_law := in_r28 _ (List.mem_of_getElem? (i := 9) rfl)
theorem wm_657 {c0 : Cond} : Cond.constantLong RX9 233 (10000) ∈ c0 :: wsL_law := List.mem_cons_of_mem _ wr_657
theorem wr_658 : Cond.methodLink RX9 226 yX9_withoutLastDoings ∈ wsL_law := in_r28 _ (List.mem_of_getElem? (i := 10) rfl)
theorem wm_658 {c0 : Cond} : Cond.methodLink RX9 226 yX9_withoutLastDoings ∈ c0 :: wsL_law := List.mem_cons_of_mem _ wr_658
theorem wr_659 : Cond.static yX9_withoutLastDoings ∈ wsL_law := in_r28 _ (List.mem_of_getElem? (i := 11) rfl)
theorem wm_659 {c0 : Cond} : Cond.static yX9_withoutLastDoings ∈ c0 :: wsL_law := List.mem_cons_of_mem _ wr_659
theorem wr_660 : Cond.code yX9_withoutLastDoings cX9_withoutLastDoings 6 (some .long) ∈ wsL_law := in_r28 _ (List.mem_of_getElem? (i := 12) rfl)
theorem wm_660 {c0 : Cond} : Cond.code yX9_withoutLastDoings cX9_withoutLastDoings 6 (some .long) ∈ c0 :: wsL_law := List.mem_cons_of_mem _ wr_660
theorem wr_661 : Cond.methodLink RX9 230 yX8_copy ∈ wsL_law := in_r28 _ (List.mem_of_getElem? (i := 13) rfl)
theorem wm_661 {c0 : Cond} : Cond.methodLink RX9 230 yX8_copy ∈ c0 :: wsL_law := List.mem_cons_of_mem _ wr_661
theorem wr_662 : Cond.instanceMethod yX8_copy ∈ wsL_law := in_r28 _ (List.mem_of_getElem? (i := 14) rfl)
theorem wm_662 {c0 : Cond} : Cond.instanceMethod yX8_copy ∈ c0 :: wsL_law := List.mem_cons_of_mem _ wr_662
theorem wr_663 : Cond.selects RX8 yX8_copy yX8_copy ∈ wsL_law := in_r28 _ (List.mem_of_getElem? (i := 15) rfl)
theorem wm_663 {c0 : Cond} : Cond.selects RX8 yX8_copy yX8_copy ∈ c0 :: wsL_law := List.mem_cons_of_mem _ wr_663
theorem wr_664 : Cond.code yX8_copy cX8_copy 2 none ∈ wsL_law := in_r28 _ (List.mem_of_getElem? (i := 16) rfl)
theorem wm_664 {c0 : Cond} : Cond.code yX8_copy cX8_copy 2 none ∈ c0 :: wsL_law := List.mem_cons_of_mem _ wr_664
theorem wr_665 : Cond.methodLink RX8 57 arraycopyName ∈ wsL_law := in_r28 _ (List.mem_of_getElem? (i := 17) rfl)
theorem wm_665 {c0 : Cond} : Cond.methodLink RX8 57 arraycopyName ∈ c0 :: wsL_law := List.mem_cons_of_mem _ wr_665
theorem wr_666 : Cond.methodLink RX9 235 yX9_isSo ∈ wsL_law := in_r28 _ (List.mem_of_getElem? (i := 18) rfl)
theorem wm_666 {c0 : Cond} : Cond.methodLink RX9 235 yX9_isSo ∈ c0 :: wsL_law := List.mem_cons_of_mem _ wr_666
theorem wr_667 : Cond.instanceMethod yX9_isSo ∈ wsL_law := in_r28 _ (List.mem_of_getElem? (i := 19) rfl)
theorem wm_667 {c0 : Cond} : Cond.instanceMethod yX9_isSo ∈ c0 :: wsL_law := List.mem_cons_of_mem _ wr_667
theorem wr_668 : Cond.selects RX9 yX9_isSo yX9_isSo ∈ wsL_law := in_r28 _ (List.mem_of_getElem? (i := 20) rfl)
theorem wm_668 {c0 : Cond} : Cond.selects RX9 yX9_isSo yX9_isSo ∈ c0 :: wsL_law := List.mem_cons_of_mem _ wr_668
theorem wr_669 : Cond.code yX9_isSo cX9_isSo 3 (some .boolean) ∈ wsL_law := in_r28 _ (List.mem_of_getElem? (i := 21) rfl)
theorem wm_669 {c0 : Cond} : Cond.code yX9_isSo cX9_isSo 3 (some .boolean) ∈ c0 :: wsL_law := List.mem_cons_of_mem _ wr_669
theorem wr_670 : Cond.methodLink RX9 278 yX9_couldHear ∈ wsL_law := in_r28 _ (List.mem_of_getElem? (i := 22) rfl)
theorem wm_670 {c0 : Cond} : Cond.methodLink RX9 278 yX9_couldHear ∈ c0 :: wsL_law := List.mem_cons_of_mem _ wr_670
theorem wr_671 : Cond.instanceMethod yX9_couldHear ∈ wsL_law := in_r28 _ (List.mem_of_getElem? (i := 23) rfl)
theorem wm_671 {c0 : Cond} : Cond.instanceMethod yX9_couldHear ∈ c0 :: wsL_law := List.mem_cons_of_mem _ wr_671
theorem wr_672 : Cond.selects RX9 yX9_couldHear yX9_couldHear ∈ wsL_law := in_r29 _ (List.mem_of_getElem? (i := 0) rfl)
theorem wm_672 {c0 : Cond} : Cond.selects RX9 yX9_couldHear yX9_couldHear ∈ c0 :: wsL_law := List.mem_cons_of_mem _ wr_672
theorem wr_673 : Cond.code yX9_couldHear cX9_couldHear 3 (some .boolean) ∈ wsL_law := in_r29 _ (List.mem_of_getElem? (i := 1) rfl)
theorem wm_673 {c0 : Cond} : Cond.code yX9_couldHear cX9_couldHear 3 (some .boolean) ∈ c0 :: wsL_law := List.mem_cons_of_mem _ wr_673
theorem wr_674 : Cond.methodLink RX9 281 yX9_couldFlip ∈ wsL_law := in_r29 _ (List.mem_of_getElem? (i := 2) rfl)
theorem wm_674 {c0 : Cond} : Cond.methodLink RX9 281 yX9_couldFlip ∈ c0 :: wsL_law := List.mem_cons_of_mem _ wr_674
theorem wr_675 : Cond.instanceMethod yX9_couldFlip ∈ wsL_law := in_r29 _ (List.mem_of_getElem? (i := 3) rfl)
theorem wm_675 {c0 : Cond} : Cond.instanceMethod yX9_couldFlip ∈ c0 :: wsL_law := List.mem_cons_of_mem _ wr_675
theorem wr_676 : Cond.selects RX9 yX9_couldFlip yX9_couldFlip ∈ wsL_law := in_r29 _ (List.mem_of_getElem? (i := 4) rfl)
theorem wm_676 {c0 : Cond} : Cond.selects RX9 yX9_couldFlip yX9_couldFlip ∈ c0 :: wsL_law := List.mem_cons_of_mem _ wr_676
theorem wr_677 : Cond.code yX9_couldFlip cX9_couldFlip 2 (some .boolean) ∈ wsL_law := in_r29 _ (List.mem_of_getElem? (i := 5) rfl)
theorem wm_677 {c0 : Cond} : Cond.code yX9_couldFlip cX9_couldFlip 2 (some .boolean) ∈ c0 :: wsL_law := List.mem_cons_of_mem _ wr_677
theorem wr_678 : Cond.methodLink RX9 284 yX9_couldCut ∈ wsL_law := in_r29 _ (List.mem_of_getElem? (i := 6) rfl)
theorem wm_678 {c0 : Cond} : Cond.methodLink RX9 284 yX9_couldCut ∈ c0 :: wsL_law := List.mem_cons_of_mem _ wr_678
theorem wr_679 : Cond.instanceMethod yX9_couldCut ∈ wsL_law := in_r29 _ (List.mem_of_getElem? (i := 7) rfl)
theorem wm_679 {c0 : Cond} : Cond.instanceMethod yX9_couldCut ∈ c0 :: wsL_law := List.mem_cons_of_mem _ wr_679
theorem wr_680 : Cond.selects RX9 yX9_couldCut yX9_couldCut ∈ wsL_law := in_r29 _ (List.mem_of_getElem? (i := 8) rfl)
theorem wm_680 {c0 : Cond} : Cond.selects RX9 yX9_couldCut yX9_couldCut ∈ c0 :: wsL_law := List.mem_cons_of_mem _ wr_680
theorem wr_681 : Cond.code yX9_couldCut cX9_couldCut 2 (some .boolean) ∈ wsL_law := in_r29 _ (List.mem_of_getElem? (i := 9) rfl)
theorem wm_681 {c0 : Cond} : Cond.code yX9_couldCut cX9_couldCut 2 (some .boolean) ∈ c0 :: wsL_law := List.mem_cons_of_mem _ wr_681
theorem wr_682 : Cond.methodLink RX9 287 yX9_isBestBit ∈ wsL_law := in_r29 _ (List.mem_of_getElem? (i := 10) rfl)
theorem wm_682 {c0 : Cond} : Cond.methodLink RX9 287 yX9_isBestBit ∈ c0 :: wsL_law := List.mem_cons_of_mem _ wr_682
theorem wr_683 : Cond.instanceMethod yX9_isBestBit ∈ wsL_law := in_r29 _ (List.mem_of_getElem? (i := 11) rfl)
theorem wm_683 {c0 : Cond} : Cond.instanceMethod yX9_isBestBit ∈ c0 :: wsL_law := List.mem_cons_of_mem _ wr_683
theorem wr_684 : Cond.selects RX9 yX9_isBestBit yX9_isBestBit ∈ wsL_law := in_r29 _ (List.mem_of_getElem? (i := 12) rfl)
theorem wm_684 {c0 : Cond} : Cond.selects RX9 yX9_isBestBit yX9_isBestBit ∈ c0 :: wsL_law := List.mem_cons_of_mem _ wr_684
theorem wr_685 : Cond.code yX9_isBestBit cX9_isBestBit 4 (some .boolean) ∈ wsL_law := in_r29 _ (List.mem_of_getElem? (i := 13) rfl)
theorem wm_685 {c0 : Cond} : Cond.code yX9_isBestBit cX9_isBestBit 4 (some .boolean) ∈ c0 :: wsL_law := List.mem_cons_of_mem _ wr_685
theorem wr_686 : Cond.methodLink RL 83 yX10_judge ∈ wsL_law := in_r29 _ (List.mem_of_getElem? (i := 14) rfl)
theorem wm_686 {c0 : Cond} : Cond.methodLink RL 83 yX10_judge ∈ c0 :: wsL_law := List.mem_cons_of_mem _ wr_686
theorem wr_687 : Cond.instanceMethod yX10_judge ∈ wsL_law := in_r29 _ (List.mem_of_getElem? (i := 15) rfl)
theorem wm_687 {c0 : Cond} : Cond.instanceMethod yX10_judge ∈ c0 :: wsL_law := List.mem_cons_of_mem _ wr_687
theorem wr_688 : Cond.selects RX10 yX10_judge yX10_judge ∈ wsL_law := in_r29 _ (List.mem_of_getElem? (i := 16) rfl)
theorem wm_688 {c0 : Cond} : Cond.selects RX10 yX10_judge yX10_judge ∈ c0 :: wsL_law := List.mem_cons_of_mem _ wr_688
theorem wr_689 : Cond.code yX10_judge cX10_judge 6 (some .int) ∈ wsL_law := in_r29 _ (List.mem_of_getElem? (i := 17) rfl)
theorem wm_689 {c0 : Cond} : Cond.code yX10_judge cX10_judge 6 (some .int) ∈ c0 :: wsL_law := List.mem_cons_of_mem _ wr_689
theorem wr_690 : Cond.constantLong RX10 231 (3) ∈ wsL_law := in_r29 _ (List.mem_of_getElem? (i := 18) rfl)
theorem wm_690 {c0 : Cond} : Cond.constantLong RX10 231 (3) ∈ c0 :: wsL_law := List.mem_cons_of_mem _ wr_690
theorem wr_691 : Cond.constantLong RX10 229 (10000) ∈ wsL_law := in_r29 _ (List.mem_of_getElem? (i := 19) rfl)
theorem wm_691 {c0 : Cond} : Cond.constantLong RX10 229 (10000) ∈ c0 :: wsL_law := List.mem_cons_of_mem _ wr_691
theorem wr_692 : Cond.methodLink RX10 233 yX10_tenThousands ∈ wsL_law := in_r29 _ (List.mem_of_getElem? (i := 20) rfl)
theorem wm_692 {c0 : Cond} : Cond.methodLink RX10 233 yX10_tenThousands ∈ c0 :: wsL_law := List.mem_cons_of_mem _ wr_692
theorem wr_693 : Cond.static yX10_tenThousands ∈ wsL_law := in_r29 _ (List.mem_of_getElem? (i := 21) rfl)
theorem wm_693 {c0 : Cond} : Cond.static yX10_tenThousands ∈ c0 :: wsL_law := List.mem_cons_of_mem _ wr_693
theorem wr_694 : Cond.code yX10_tenThousands cX10_tenThousands 4 (some .long) ∈ wsL_law := in_r29 _ (List.mem_of_getElem? (i := 22) rfl)
theorem wm_694 {c0 : Cond} : Cond.code yX10_tenThousands cX10_tenThousands 4 (some .long) ∈ c0 :: wsL_law := List.mem_cons_of_mem _ wr_694
theorem wr_695 : Cond.methodLink RX10 237 yX10_copy ∈ wsL_law := in_r29 _ (List.mem_of_getElem? (i := 23) rfl)
theorem wm_695 {c0 : Cond} : Cond.methodLink RX10 237 yX10_copy ∈ c0 :: wsL_law := List.mem_cons_of_mem _ wr_695
theorem wr_696 : Cond.static yX10_copy ∈ wsL_law := in_r30 _ (List.mem_of_getElem? (i := 0) rfl)
theorem wm_696 {c0 : Cond} : Cond.static yX10_copy ∈ c0 :: wsL_law := List.mem_cons_of_mem _ wr_696
theorem wr_697 : Cond.code yX10_copy cX10_copy 3 none ∈ wsL_law := in_r30 _ (List.mem_of_getElem? (i := 1) rfl)
theorem wm_697 {c0 : Cond} : Cond.code yX10_copy cX10_copy 3 none ∈ c0 :: wsL_law := List.mem_cons_of_mem _ wr_697
theorem wr_698 : Cond.methodLink RX10 241 yX10_judged ∈ wsL_law := in_r30 _ (List.mem_of_getElem? (i := 2) rfl)
theorem wm_698 {c0 : Cond} : Cond.methodLink RX10 241 yX10_judged ∈ c0 :: wsL_law := List.mem_cons_of_mem _ wr_698
theorem wr_699 : Cond.instanceMethod yX10_judged ∈ wsL_law := in_r30 _ (List.mem_of_getElem? (i := 3) rfl)
theorem wm_699 {c0 : Cond} : Cond.instanceMethod yX10_judged ∈ c0 :: wsL_law := List.mem_cons_of_mem _ wr_699
theorem wr_700 : Cond.selects RX10 yX10_judged yX10_judged ∈ wsL_law := in_r30 _ (List.mem_of_getElem? (i := 4) rfl)
theorem wm_700 {c0 : Cond} : Cond.selects RX10 yX10_judged yX10_judged ∈ c0 :: wsL_law := List.mem_cons_of_mem _ wr_700
theorem wr_701 : Cond.code yX10_judged cX10_judged 7 (some .boolean) ∈ wsL_law := in_r30 _ (List.mem_of_getElem? (i := 5) rfl)
theorem wm_701 {c0 : Cond} : Cond.code yX10_judged cX10_judged 7 (some .boolean) ∈ c0 :: wsL_law := List.mem_cons_of_mem _ wr_701
theorem wr_702 : Cond.methodLink RL 84 yX9_know ∈ wsL_law := in_r30 _ (List.mem_of_getElem? (i := 6) rfl)
theorem wm_702 {c0 : Cond} : Cond.methodLink RL 84 yX9_know ∈ c0 :: wsL_law := List.mem_cons_of_mem _ wr_702
theorem wr_703 : Cond.instanceMethod yX9_know ∈ wsL_law := in_r30 _ (List.mem_of_getElem? (i := 7) rfl)
theorem wm_703 {c0 : Cond} : Cond.instanceMethod yX9_know ∈ c0 :: wsL_law := List.mem_cons_of_mem _ wr_703
theorem wr_704 : Cond.selects RX9 yX9_know yX9_know ∈ wsL_law := in_r30 _ (List.mem_of_getElem? (i := 8) rfl)
theorem wm_704 {c0 : Cond} : Cond.selects RX9 yX9_know yX9_know ∈ c0 :: wsL_law := List.mem_cons_of_mem _ wr_704
theorem wr_705 : Cond.code yX9_know cX9_know 3 (some .int) ∈ wsL_law := in_r30 _ (List.mem_of_getElem? (i := 9) rfl)
theorem wm_705 {c0 : Cond} : Cond.code yX9_know cX9_know 3 (some .int) ∈ c0 :: wsL_law := List.mem_cons_of_mem _ wr_705
theorem wr_706 : Cond.methodLink RX9 239 yX2_isFull ∈ wsL_law := in_r30 _ (List.mem_of_getElem? (i := 10) rfl)
theorem wm_706 {c0 : Cond} : Cond.methodLink RX9 239 yX2_isFull ∈ c0 :: wsL_law := List.mem_cons_of_mem _ wr_706
theorem wr_707 : Cond.instanceMethod yX2_isFull ∈ wsL_law := in_r30 _ (List.mem_of_getElem? (i := 11) rfl)
theorem wm_707 {c0 : Cond} : Cond.instanceMethod yX2_isFull ∈ c0 :: wsL_law := List.mem_cons_of_mem _ wr_707
theorem wr_708 : Cond.selects RX2 yX2_isFull yX2_isFull ∈ wsL_law := in_r30 _ (List.mem_of_getElem? (i := 12) rfl)
theorem wm_708 {c0 : Cond} : Cond.selects RX2 yX2_isFull yX2_isFull ∈ c0 :: wsL_law := List.mem_cons_of_mem _ wr_708
theorem wr_709 : Cond.code yX2_isFull cX2_isFull 1 (some .boolean) ∈ wsL_law := in_r30 _ (List.mem_of_getElem? (i := 13) rfl)
theorem wm_709 {c0 : Cond} : Cond.code yX2_isFull cX2_isFull 1 (some .boolean) ∈ c0 :: wsL_law := List.mem_cons_of_mem _ wr_709
theorem wr_710 : Cond.methodLink RX9 240 yX2_add ∈ wsL_law := in_r30 _ (List.mem_of_getElem? (i := 14) rfl)
theorem wm_710 {c0 : Cond} : Cond.methodLink RX9 240 yX2_add ∈ c0 :: wsL_law := List.mem_cons_of_mem _ wr_710
theorem wr_711 : Cond.instanceMethod yX2_add ∈ wsL_law := in_r30 _ (List.mem_of_getElem? (i := 15) rfl)
theorem wm_711 {c0 : Cond} : Cond.instanceMethod yX2_add ∈ c0 :: wsL_law := List.mem_cons_of_mem _ wr_711
theorem wr_712 : Cond.selects RX2 yX2_add yX2_add ∈ wsL_law := in_r30 _ (List.mem_of_getElem? (i := 16) rfl)
theorem wm_712 {c0 : Cond} : Cond.selects RX2 yX2_add yX2_add ∈ c0 :: wsL_law := List.mem_cons_of_mem _ wr_712
theorem wr_713 : Cond.code yX2_add cX2_add 3 none ∈ wsL_law := in_r30 _ (List.mem_of_getElem? (i := 17) rfl)
theorem wm_713 {c0 : Cond} : Cond.code yX2_add cX2_add 3 none ∈ c0 :: wsL_law := List.mem_cons_of_mem _ wr_713
theorem wr_714 : Cond.methodLink RX2 22 yX2_isFull ∈ wsL_law := in_r30 _ (List.mem_of_getElem? (i := 18) rfl)
theorem wm_714 {c0 : Cond} : Cond.methodLink RX2 22 yX2_isFull ∈ c0 :: wsL_law := List.mem_cons_of_mem _ wr_714
theorem wr_715 : Cond.methodLink RL 87 yX10_know ∈ wsL_law := in_r30 _ (List.mem_of_getElem? (i := 19) rfl)
theorem wm_715 {c0 : Cond} : Cond.methodLink RL 87 yX10_know ∈ c0 :: wsL_law := List.mem_cons_of_mem _ wr_715
theorem wr_716 : Cond.instanceMethod yX10_know ∈ wsL_law := in_r30 _ (List.mem_of_getElem? (i := 20) rfl)
theorem wm_716 {c0 : Cond} : Cond.instanceMethod yX10_know ∈ c0 :: wsL_law := List.mem_cons_of_mem _ wr_716
theorem wr_717 : Cond.selects RX10 yX10_know yX10_know ∈ wsL_law := in_r30 _ (List.mem_of_getElem? (i := 21) rfl)
theorem wm_717 {c0 : Cond} : Cond.selects RX10 yX10_know yX10_know ∈ c0 :: wsL_law := List.mem_cons_of_mem _ wr_717
theorem wr_718 : Cond.code yX10_know cX10_know 3 (some .int) ∈ wsL_law := in_r30 _ (List.mem_of_getElem? (i := 22) rfl)
theorem wm_718 {c0 : Cond} : Cond.code yX10_know cX10_know 3 (some .int) ∈ c0 :: wsL_law := List.mem_cons_of_mem _ wr_718
theorem wr_719 : Cond.methodLink RL 88 yX9_forget ∈ wsL_law := in_r30 _ (List.mem_of_getElem? (i := 23) rfl)
theorem wm_719 {c0 : Cond} : Cond.methodLink RL 88 yX9_forget ∈ c0 :: wsL_law := List.mem_cons_of_mem _ wr_719
theorem wr_720 : Cond.instanceMethod yX9_forget ∈ wsL_law := in_r31 _ (List.mem_of_getElem? (i := 0) rfl)
theorem wm_720 {c0 : Cond} : Cond.instanceMethod yX9_forget ∈ c0 :: wsL_law := List.mem_cons_of_mem _ wr_720
theorem wr_721 : Cond.selects RX9 yX9_forget yX9_forget ∈ wsL_law := in_r31 _ (List.mem_of_getElem? (i := 1) rfl)
theorem wm_721 {c0 : Cond} : Cond.selects RX9 yX9_forget yX9_forget ∈ c0 :: wsL_law := List.mem_cons_of_mem _ wr_721
theorem wr_722 : Cond.code yX9_forget cX9_forget 2 (some .int) ∈ wsL_law := in_r31 _ (List.mem_of_getElem? (i := 2) rfl)
theorem wm_722 {c0 : Cond} : Cond.code yX9_forget cX9_forget 2 (some .int) ∈ c0 :: wsL_law := List.mem_cons_of_mem _ wr_722
theorem wr_723 : Cond.methodLink RL 91 yX10_forget ∈ wsL_law := in_r31 _ (List.mem_of_getElem? (i := 3) rfl)
theorem wm_723 {c0 : Cond} : Cond.methodLink RL 91 yX10_forget ∈ c0 :: wsL_law := List.mem_cons_of_mem _ wr_723
theorem wr_724 : Cond.instanceMethod yX10_forget ∈ wsL_law := in_r31 _ (List.mem_of_getElem? (i := 4) rfl)
theorem wm_724 {c0 : Cond} : Cond.instanceMethod yX10_forget ∈ c0 :: wsL_law := List.mem_cons_of_mem _ wr_724
theorem wr_725 : Cond.selects RX10 yX10_forget yX10_forget ∈ wsL_law := in_r31 _ (List.mem_of_getElem? (i := 5) rfl)
theorem wm_725 {c0 : Cond} : Cond.selects RX10 yX10_forget yX10_forget ∈ c0 :: wsL_law := List.mem_cons_of_mem _ wr_725
theorem wr_726 : Cond.code yX10_forget cX10_forget 2 (some .int) ∈ wsL_law := in_r31 _ (List.mem_of_getElem? (i := 6) rfl)
theorem wm_726 {c0 : Cond} : Cond.code yX10_forget cX10_forget 2 (some .int) ∈ c0 :: wsL_law := List.mem_cons_of_mem _ wr_726
theorem wr_727 : Cond.methodLink RL 92 yX9_share ∈ wsL_law := in_r31 _ (List.mem_of_getElem? (i := 7) rfl)
theorem wm_727 {c0 : Cond} : Cond.methodLink RL 92 yX9_share ∈ c0 :: wsL_law := List.mem_cons_of_mem _ wr_727
theorem wr_728 : Cond.instanceMethod yX9_share ∈ wsL_law := in_r31 _ (List.mem_of_getElem? (i := 8) rfl)
theorem wm_728 {c0 : Cond} : Cond.instanceMethod yX9_share ∈ c0 :: wsL_law := List.mem_cons_of_mem _ wr_728
theorem wr_729 : Cond.selects RX9 yX9_share yX9_share ∈ wsL_law := in_r31 _ (List.mem_of_getElem? (i := 9) rfl)
theorem wm_729 {c0 : Cond} : Cond.selects RX9 yX9_share yX9_share ∈ c0 :: wsL_law := List.mem_cons_of_mem _ wr_729
theorem wr_730 : Cond.code yX9_share cX9_share 4 (some .int) ∈ wsL_law := in_r31 _ (List.mem_of_getElem? (i := 10) rfl)
theorem wm_730 {c0 : Cond} : Cond.code yX9_share cX9_share 4 (some .int) ∈ c0 :: wsL_law := List.mem_cons_of_mem _ wr_730
theorem wr_731 : Cond.methodLink RX9 242 yX3_sixtiethsRuledOut ∈ wsL_law := in_r31 _ (List.mem_of_getElem? (i := 11) rfl)
theorem wm_731 {c0 : Cond} : Cond.methodLink RX9 242 yX3_sixtiethsRuledOut ∈ c0 :: wsL_law := List.mem_cons_of_mem _ wr_731
theorem wr_732 : Cond.instanceMethod yX3_sixtiethsRuledOut ∈ wsL_law := in_r31 _ (List.mem_of_getElem? (i := 12) rfl)
theorem wm_732 {c0 : Cond} : Cond.instanceMethod yX3_sixtiethsRuledOut ∈ c0 :: wsL_law := List.mem_cons_of_mem _ wr_732
theorem wr_733 : Cond.selects RX3 yX3_sixtiethsRuledOut yX3_sixtiethsRuledOut ∈ wsL_law := in_r31 _ (List.mem_of_getElem? (i := 13) rfl)
theorem wm_733 {c0 : Cond} : Cond.selects RX3 yX3_sixtiethsRuledOut yX3_sixtiethsRuledOut ∈ c0 :: wsL_law := List.mem_cons_of_mem _ wr_733
theorem wr_734 : Cond.code yX3_sixtiethsRuledOut cX3_sixtiethsRuledOut 9 (some .int) ∈ wsL_law := in_r31 _ (List.mem_of_getElem? (i := 14) rfl)
theorem wm_734 {c0 : Cond} : Cond.code yX3_sixtiethsRuledOut cX3_sixtiethsRuledOut 9 (some .int) ∈ c0 :: wsL_law := List.mem_cons_of_mem _ wr_734
theorem wr_735 : Cond.methodLink RX3 79 yJ6_bitCount_0f7a4 ∈ wsL_law := in_r31 _ (List.mem_of_getElem? (i := 15) rfl)
theorem wm_735 {c0 : Cond} : Cond.methodLink RX3 79 yJ6_bitCount_0f7a4 ∈ c0 :: wsL_law := List.mem_cons_of_mem _ wr_735
theorem wr_736 : Cond.static yJ6_bitCount_0f7a4 ∈ wsL_law := in_r31 _ (List.mem_of_getElem? (i := 16) rfl)
theorem wm_736 {c0 : Cond} : Cond.static yJ6_bitCount_0f7a4 ∈ c0 :: wsL_law := List.mem_cons_of_mem _ wr_736
theorem wr_737 : Cond.initialized RJ6 ∈ wsL_law := in_r31 _ (List.mem_of_getElem? (i := 17) rfl)
theorem wm_737 {c0 : Cond} : Cond.initialized RJ6 ∈ c0 :: wsL_law := List.mem_cons_of_mem _ wr_737
theorem wr_738 : Cond.code yJ6_bitCount_0f7a4 cJ6_bitCount_0f7a4 1 (some .int) ∈ wsL_law := in_r31 _ (List.mem_of_getElem? (i := 18) rfl)
theorem wm_738 {c0 : Cond} : Cond.code yJ6_bitCount_0f7a4 cJ6_bitCount_0f7a4 1 (some .int) ∈ c0 :: wsL_law := List.mem_cons_of_mem _ wr_738
theorem wr_739 : Cond.constant RJ6 265 (1431655765) ∈ wsL_law := in_r31 _ (List.mem_of_getElem? (i := 19) rfl)
theorem wm_739 {c0 : Cond} : Cond.constant RJ6 265 (1431655765) ∈ c0 :: wsL_law := List.mem_cons_of_mem _ wr_739
theorem wr_740 : Cond.constant RJ6 266 (858993459) ∈ wsL_law := in_r31 _ (List.mem_of_getElem? (i := 20) rfl)
theorem wm_740 {c0 : Cond} : Cond.constant RJ6 266 (858993459) ∈ c0 :: wsL_law := List.mem_cons_of_mem _ wr_740
theorem wr_741 : Cond.constant RJ6 267 (252645135) ∈ wsL_law := in_r31 _ (List.mem_of_getElem? (i := 21) rfl)
theorem wm_741 {c0 : Cond} : Cond.constant RJ6 267 (252645135) ∈ c0 :: wsL_law := List.mem_cons_of_mem _ wr_741
theorem wr_742 : Cond.methodLink RX9 246 yX9_inLeastTerms ∈ wsL_law := in_r31 _ (List.mem_of_getElem? (i := 22) rfl)
theorem wm_742 {c0 : Cond} : Cond.methodLink RX9 246 yX9_inLeastTerms ∈ c0 :: wsL_law := List.mem_cons_of_mem _ wr_742
theorem wr_743 : Cond.static yX9_inLeastTerms ∈ wsL_law := in_r31 _ (List.mem_of_getElem? (i := 23) rfl)
theorem wm_743 {c0 : Cond} : Cond.static yX9_inLeastTerms ∈ c0 :: wsL_law := List.mem_cons_of_mem _ wr_743
theorem wr_744 : Cond.code yX9_inLeastTerms cX9_inLeastTerms 5 (some .int) ∈ wsL_law := in_r32 _ (List.mem_of_getElem? (i := 0) rfl)
theorem wm_744 {c0 : Cond} : Cond.code yX9_inLeastTerms cX9_inLeastTerms 5 (some .int) ∈ c0 :: wsL_law := List.mem_cons_of_mem _ wr_744
theorem wr_745 : Cond.methodLink RX9 297 yX9_greatestCommonDivisor ∈ wsL_law := in_r32 _ (List.mem_of_getElem? (i := 1) rfl)
theorem wm_745 {c0 : Cond} : Cond.methodLink RX9 297 yX9_greatestCommonDivisor ∈ c0 :: wsL_law := List.mem_cons_of_mem _ wr_745
theorem wr_746 : Cond.static yX9_greatestCommonDivisor ∈ wsL_law := in_r32 _ (List.mem_of_getElem? (i := 2) rfl)
theorem wm_746 {c0 : Cond} : Cond.static yX9_greatestCommonDivisor ∈ c0 :: wsL_law := List.mem_cons_of_mem _ wr_746
theorem wr_747 : Cond.code yX9_greatestCommonDivisor cX9_greatestCommonDivisor 6 (some .int) ∈ wsL_law := in_r32 _ (List.mem_of_getElem? (i := 3) rfl)
theorem wm_747 {c0 : Cond} : Cond.code yX9_greatestCommonDivisor cX9_greatestCommonDivisor 6 (some .int) ∈ c0 :: wsL_law := List.mem_cons_of_mem _ wr_747
theorem wr_748 : Cond.methodLink RL 96 yX10_share ∈ wsL_law := in_r32 _ (List.mem_of_getElem? (i := 4) rfl)
theorem wm_748 {c0 : Cond} : Cond.methodLink RL 96 yX10_share ∈ c0 :: wsL_law := List.mem_cons_of_mem _ wr_748
theorem wr_749 : Cond.instanceMethod yX10_share ∈ wsL_law := in_r32 _ (List.mem_of_getElem? (i := 5) rfl)
theorem wm_749 {c0 : Cond} : Cond.instanceMethod yX10_share ∈ c0 :: wsL_law := List.mem_cons_of_mem _ wr_749
theorem wr_750 : Cond.selects RX10 yX10_share yX10_share ∈ wsL_law := in_r32 _ (List.mem_of_getElem? (i := 6) rfl)
theorem wm_750 {c0 : Cond} : Cond.selects RX10 yX10_share yX10_share ∈ c0 :: wsL_law := List.mem_cons_of_mem _ wr_750
theorem wr_751 : Cond.code yX10_share cX10_share 6 (some .int) ∈ wsL_law := in_r32 _ (List.mem_of_getElem? (i := 7) rfl)
theorem wm_751 {c0 : Cond} : Cond.code yX10_share cX10_share 6 (some .int) ∈ c0 :: wsL_law := List.mem_cons_of_mem _ wr_751
theorem wr_752 : Cond.methodLink RX10 245 yX10_ones ∈ wsL_law := in_r32 _ (List.mem_of_getElem? (i := 8) rfl)
theorem wm_752 {c0 : Cond} : Cond.methodLink RX10 245 yX10_ones ∈ c0 :: wsL_law := List.mem_cons_of_mem _ wr_752
theorem wr_753 : Cond.static yX10_ones ∈ wsL_law := in_r32 _ (List.mem_of_getElem? (i := 9) rfl)
theorem wm_753 {c0 : Cond} : Cond.static yX10_ones ∈ c0 :: wsL_law := List.mem_cons_of_mem _ wr_753
theorem wr_754 : Cond.code yX10_ones cX10_ones 3 (some .int) ∈ wsL_law := in_r32 _ (List.mem_of_getElem? (i := 10) rfl)
theorem wm_754 {c0 : Cond} : Cond.code yX10_ones cX10_ones 3 (some .int) ∈ c0 :: wsL_law := List.mem_cons_of_mem _ wr_754
theorem wr_755 : Cond.methodLink RX10 248 yX10_factorial ∈ wsL_law := in_r32 _ (List.mem_of_getElem? (i := 11) rfl)
theorem wm_755 {c0 : Cond} : Cond.methodLink RX10 248 yX10_factorial ∈ c0 :: wsL_law := List.mem_cons_of_mem _ wr_755
theorem wr_756 : Cond.static yX10_factorial ∈ wsL_law := in_r32 _ (List.mem_of_getElem? (i := 12) rfl)
theorem wm_756 {c0 : Cond} : Cond.static yX10_factorial ∈ c0 :: wsL_law := List.mem_cons_of_mem _ wr_756
theorem wr_757 : Cond.code yX10_factorial cX10_factorial 3 (some .int) ∈ wsL_law := in_r32 _ (List.mem_of_getElem? (i := 13) rfl)
theorem wm_757 {c0 : Cond} : Cond.code yX10_factorial cX10_factorial 3 (some .int) ∈ c0 :: wsL_law := List.mem_cons_of_mem _ wr_757
theorem wr_758 : Cond.methodLink RX10 251 yX10_fraction ∈ wsL_law := in_r32 _ (List.mem_of_getElem? (i := 14) rfl)
theorem wm_758 {c0 : Cond} : Cond.methodLink RX10 251 yX10_fraction ∈ c0 :: wsL_law := List.mem_cons_of_mem _ wr_758
theorem wr_759 : Cond.static yX10_fraction ∈ wsL_law := in_r32 _ (List.mem_of_getElem? (i := 15) rfl)
theorem wm_759 {c0 : Cond} : Cond.static yX10_fraction ∈ c0 :: wsL_law := List.mem_cons_of_mem _ wr_759
theorem wr_760 : Cond.code yX10_fraction cX10_fraction 6 (some .int) ∈ wsL_law := in_r32 _ (List.mem_of_getElem? (i := 16) rfl)
theorem wm_760 {c0 : Cond} : Cond.code yX10_fraction cX10_fraction 6 (some .int) ∈ c0 :: wsL_law := List.mem_cons_of_mem _ wr_760
theorem wr_761 : Cond.methodLink RL 97 yX9_chance ∈ wsL_law := in_r32 _ (List.mem_of_getElem? (i := 17) rfl)
theorem wm_761 {c0 : Cond} : Cond.methodLink RL 97 yX9_chance ∈ c0 :: wsL_law := List.mem_cons_of_mem _ wr_761
theorem wr_762 : Cond.instanceMethod yX9_chance ∈ wsL_law := in_r32 _ (List.mem_of_getElem? (i := 18) rfl)
theorem wm_762 {c0 : Cond} : Cond.instanceMethod yX9_chance ∈ c0 :: wsL_law := List.mem_cons_of_mem _ wr_762
theorem wr_763 : Cond.selects RX9 yX9_chance yX9_chance ∈ wsL_law := in_r32 _ (List.mem_of_getElem? (i := 19) rfl)
theorem wm_763 {c0 : Cond} : Cond.selects RX9 yX9_chance yX9_chance ∈ c0 :: wsL_law := List.mem_cons_of_mem _ wr_763
theorem wr_764 : Cond.code yX9_chance cX9_chance 9 (some .int) ∈ wsL_law := in_r32 _ (List.mem_of_getElem? (i := 20) rfl)
theorem wm_764 {c0 : Cond} : Cond.code yX9_chance cX9_chance 9 (some .int) ∈ c0 :: wsL_law := List.mem_cons_of_mem _ wr_764
theorem wr_765 : Cond.methodLink RX9 250 yX9_findShakyTicks ∈ wsL_law := in_r32 _ (List.mem_of_getElem? (i := 21) rfl)
theorem wm_765 {c0 : Cond} : Cond.methodLink RX9 250 yX9_findShakyTicks ∈ c0 :: wsL_law := List.mem_cons_of_mem _ wr_765
theorem wr_766 : Cond.instanceMethod yX9_findShakyTicks ∈ wsL_law := in_r32 _ (List.mem_of_getElem? (i := 22) rfl)
theorem wm_766 {c0 : Cond} : Cond.instanceMethod yX9_findShakyTicks ∈ c0 :: wsL_law := List.mem_cons_of_mem _ wr_766
theorem wr_767 : Cond.selects RX9 yX9_findShakyTicks yX9_findShakyTicks ∈ wsL_law := in_r32 _ (List.mem_of_getElem? (i := 23) rfl)
theorem wm_767 {c0 : Cond} : Cond.selects RX9 yX9_findShakyTicks yX9_findShakyTicks ∈ c0 :: wsL_law := List.mem_cons_of_mem _ wr_767
theorem wr_768 : Cond.code yX9_findShakyTicks cX9_findShakyTicks 4 (some .int) ∈ wsL_law := in_r33 _ (List.mem_of_getElem? (i := 0) rfl)
theorem wm_768 {c0 : Cond} : Cond.code yX9_findShakyTicks cX9_findShakyTicks 4 (some .int) ∈ c0 :: wsL_law := List.mem_cons_of_mem _ wr_768
theorem wr_769 : Cond.methodLink RX9 293 yX8_isEdge ∈ wsL_law := in_r33 _ (List.mem_of_getElem? (i := 1) rfl)
theorem wm_769 {c0 : Cond} : Cond.methodLink RX9 293 yX8_isEdge ∈ c0 :: wsL_law := List.mem_cons_of_mem _ wr_769
theorem wr_770 : Cond.methodLink RX9 253 yX9_fitsWithFlips ∈ wsL_law := in_r33 _ (List.mem_of_getElem? (i := 2) rfl)
theorem wm_770 {c0 : Cond} : Cond.methodLink RX9 253 yX9_fitsWithFlips ∈ c0 :: wsL_law := List.mem_cons_of_mem _ wr_770
theorem wr_771 : Cond.instanceMethod yX9_fitsWithFlips ∈ wsL_law := in_r33 _ (List.mem_of_getElem? (i := 3) rfl)
theorem wm_771 {c0 : Cond} : Cond.instanceMethod yX9_fitsWithFlips ∈ c0 :: wsL_law := List.mem_cons_of_mem _ wr_771
theorem wr_772 : Cond.selects RX9 yX9_fitsWithFlips yX9_fitsWithFlips ∈ wsL_law := in_r33 _ (List.mem_of_getElem? (i := 4) rfl)
theorem wm_772 {c0 : Cond} : Cond.selects RX9 yX9_fitsWithFlips yX9_fitsWithFlips ∈ c0 :: wsL_law := List.mem_cons_of_mem _ wr_772
theorem wr_773 : Cond.code yX9_fitsWithFlips cX9_fitsWithFlips 4 (some .boolean) ∈ wsL_law := in_r33 _ (List.mem_of_getElem? (i := 5) rfl)
theorem wm_773 {c0 : Cond} : Cond.code yX9_fitsWithFlips cX9_fitsWithFlips 4 (some .boolean) ∈ c0 :: wsL_law := List.mem_cons_of_mem _ wr_773
theorem wr_774 : Cond.methodLink RX9 256 yX9_weightOf ∈ wsL_law := in_r33 _ (List.mem_of_getElem? (i := 6) rfl)
theorem wm_774 {c0 : Cond} : Cond.methodLink RX9 256 yX9_weightOf ∈ c0 :: wsL_law := List.mem_cons_of_mem _ wr_774
theorem wr_775 : Cond.static yX9_weightOf ∈ wsL_law := in_r33 _ (List.mem_of_getElem? (i := 7) rfl)
theorem wm_775 {c0 : Cond} : Cond.static yX9_weightOf ∈ c0 :: wsL_law := List.mem_cons_of_mem _ wr_775
theorem wr_776 : Cond.code yX9_weightOf cX9_weightOf 5 (some .int) ∈ wsL_law := in_r33 _ (List.mem_of_getElem? (i := 8) rfl)
theorem wm_776 {c0 : Cond} : Cond.code yX9_weightOf cX9_weightOf 5 (some .int) ∈ c0 :: wsL_law := List.mem_cons_of_mem _ wr_776
theorem wr_777 : Cond.methodLink RL 101 yX10_chance ∈ wsL_law := in_r33 _ (List.mem_of_getElem? (i := 9) rfl)
theorem wm_777 {c0 : Cond} : Cond.methodLink RL 101 yX10_chance ∈ c0 :: wsL_law := List.mem_cons_of_mem _ wr_777
theorem wr_778 : Cond.instanceMethod yX10_chance ∈ wsL_law := in_r33 _ (List.mem_of_getElem? (i := 10) rfl)
theorem wm_778 {c0 : Cond} : Cond.instanceMethod yX10_chance ∈ c0 :: wsL_law := List.mem_cons_of_mem _ wr_778
theorem wr_779 : Cond.selects RX10 yX10_chance yX10_chance ∈ wsL_law := in_r33 _ (List.mem_of_getElem? (i := 11) rfl)
theorem wm_779 {c0 : Cond} : Cond.selects RX10 yX10_chance yX10_chance ∈ c0 :: wsL_law := List.mem_cons_of_mem _ wr_779
theorem wr_780 : Cond.code yX10_chance cX10_chance 8 (some .int) ∈ wsL_law := in_r33 _ (List.mem_of_getElem? (i := 12) rfl)
theorem wm_780 {c0 : Cond} : Cond.code yX10_chance cX10_chance 8 (some .int) ∈ c0 :: wsL_law := List.mem_cons_of_mem _ wr_780
theorem wr_781 : Cond.constantLong RX10 255 (6) ∈ wsL_law := in_r33 _ (List.mem_of_getElem? (i := 13) rfl)
theorem wm_781 {c0 : Cond} : Cond.constantLong RX10 255 (6) ∈ c0 :: wsL_law := List.mem_cons_of_mem _ wr_781
theorem wr_782 : Cond.constantLong RX10 257 (10) ∈ wsL_law := in_r33 _ (List.mem_of_getElem? (i := 14) rfl)
theorem wm_782 {c0 : Cond} : Cond.constantLong RX10 257 (10) ∈ c0 :: wsL_law := List.mem_cons_of_mem _ wr_782
theorem wr_783 : Cond.methodLink RX10 259 yX10_flipSome ∈ wsL_law := in_r33 _ (List.mem_of_getElem? (i := 15) rfl)
theorem wm_783 {c0 : Cond} : Cond.methodLink RX10 259 yX10_flipSome ∈ c0 :: wsL_law := List.mem_cons_of_mem _ wr_783
theorem wr_784 : Cond.instanceMethod yX10_flipSome ∈ wsL_law := in_r33 _ (List.mem_of_getElem? (i := 16) rfl)
theorem wm_784 {c0 : Cond} : Cond.instanceMethod yX10_flipSome ∈ c0 :: wsL_law := List.mem_cons_of_mem _ wr_784
theorem wr_785 : Cond.selects RX10 yX10_flipSome yX10_flipSome ∈ wsL_law := in_r33 _ (List.mem_of_getElem? (i := 17) rfl)
theorem wm_785 {c0 : Cond} : Cond.selects RX10 yX10_flipSome yX10_flipSome ∈ c0 :: wsL_law := List.mem_cons_of_mem _ wr_785
theorem wr_786 : Cond.code yX10_flipSome cX10_flipSome 4 none ∈ wsL_law := in_r33 _ (List.mem_of_getElem? (i := 18) rfl)
theorem wm_786 {c0 : Cond} : Cond.code yX10_flipSome cX10_flipSome 4 none ∈ c0 :: wsL_law := List.mem_cons_of_mem _ wr_786
theorem wr_787 : Cond.methodLink RX10 263 yX10_power ∈ wsL_law := in_r33 _ (List.mem_of_getElem? (i := 19) rfl)
theorem wm_787 {c0 : Cond} : Cond.methodLink RX10 263 yX10_power ∈ c0 :: wsL_law := List.mem_cons_of_mem _ wr_787
theorem wr_788 : Cond.static yX10_power ∈ wsL_law := in_r33 _ (List.mem_of_getElem? (i := 20) rfl)
theorem wm_788 {c0 : Cond} : Cond.static yX10_power ∈ c0 :: wsL_law := List.mem_cons_of_mem _ wr_788
theorem wr_789 : Cond.code yX10_power cX10_power 4 (some .int) ∈ wsL_law := in_r33 _ (List.mem_of_getElem? (i := 21) rfl)
theorem wm_789 {c0 : Cond} : Cond.code yX10_power cX10_power 4 (some .int) ∈ c0 :: wsL_law := List.mem_cons_of_mem _ wr_789
theorem wr_790 : Cond.methodLink RL 102 yX9_seed ∈ wsL_law := in_r33 _ (List.mem_of_getElem? (i := 22) rfl)
theorem wm_790 {c0 : Cond} : Cond.methodLink RL 102 yX9_seed ∈ c0 :: wsL_law := List.mem_cons_of_mem _ wr_790
theorem wr_791 : Cond.instanceMethod yX9_seed ∈ wsL_law := in_r33 _ (List.mem_of_getElem? (i := 23) rfl)
theorem wm_791 {c0 : Cond} : Cond.instanceMethod yX9_seed ∈ c0 :: wsL_law := List.mem_cons_of_mem _ wr_791
theorem wr_792 : Cond.selects RX9 yX9_seed yX9_seed ∈ wsL_law := in_r34 _ (List.mem_of_getElem? (i := 0) rfl)
theorem wm_792 {c0 : Cond} : Cond.selects RX9 yX9_seed yX9_seed ∈ c0 :: wsL_law := List.mem_cons_of_mem _ wr_792
theorem wr_793 : Cond.code yX9_seed cX9_seed 5 (some .long) ∈ wsL_law := in_r34 _ (List.mem_of_getElem? (i := 1) rfl)
theorem wm_793 {c0 : Cond} : Cond.code yX9_seed cX9_seed 5 (some .long) ∈ c0 :: wsL_law := List.mem_cons_of_mem _ wr_793
theorem wr_794 : Cond.methodLink RL 106 yX10_seed ∈ wsL_law := in_r34 _ (List.mem_of_getElem? (i := 2) rfl)
theorem wm_794 {c0 : Cond} : Cond.methodLink RL 106 yX10_seed ∈ c0 :: wsL_law := List.mem_cons_of_mem _ wr_794
theorem wr_795 : Cond.instanceMethod yX10_seed ∈ wsL_law := in_r34 _ (List.mem_of_getElem? (i := 3) rfl)
theorem wm_795 {c0 : Cond} : Cond.instanceMethod yX10_seed ∈ c0 :: wsL_law := List.mem_cons_of_mem _ wr_795
theorem wr_796 : Cond.selects RX10 yX10_seed yX10_seed ∈ wsL_law := in_r34 _ (List.mem_of_getElem? (i := 4) rfl)
theorem wm_796 {c0 : Cond} : Cond.selects RX10 yX10_seed yX10_seed ∈ c0 :: wsL_law := List.mem_cons_of_mem _ wr_796
theorem wr_797 : Cond.code yX10_seed cX10_seed 5 (some .long) ∈ wsL_law := in_r34 _ (List.mem_of_getElem? (i := 5) rfl)
theorem wm_797 {c0 : Cond} : Cond.code yX10_seed cX10_seed 5 (some .long) ∈ c0 :: wsL_law := List.mem_cons_of_mem _ wr_797
theorem wr_798 : Cond.fieldLink RX10 266 "WireGuessModel" "seed" "J" ∈ wsL_law := in_r34 _ (List.mem_of_getElem? (i := 6) rfl)
theorem wm_798 {c0 : Cond} : Cond.fieldLink RX10 266 "WireGuessModel" "seed" "J" ∈ c0 :: wsL_law := List.mem_cons_of_mem _ wr_798
theorem wr_799 : Cond.methodLink RL 107 yX9_drawn ∈ wsL_law := in_r34 _ (List.mem_of_getElem? (i := 7) rfl)
theorem wm_799 {c0 : Cond} : Cond.methodLink RL 107 yX9_drawn ∈ c0 :: wsL_law := List.mem_cons_of_mem _ wr_799
theorem wr_800 : Cond.instanceMethod yX9_drawn ∈ wsL_law := in_r34 _ (List.mem_of_getElem? (i := 8) rfl)
theorem wm_800 {c0 : Cond} : Cond.instanceMethod yX9_drawn ∈ c0 :: wsL_law := List.mem_cons_of_mem _ wr_800
theorem wr_801 : Cond.selects RX9 yX9_drawn yX9_drawn ∈ wsL_law := in_r34 _ (List.mem_of_getElem? (i := 9) rfl)
theorem wm_801 {c0 : Cond} : Cond.selects RX9 yX9_drawn yX9_drawn ∈ c0 :: wsL_law := List.mem_cons_of_mem _ wr_801
theorem wr_802 : Cond.code yX9_drawn cX9_drawn 5 (some .int) ∈ wsL_law := in_r34 _ (List.mem_of_getElem? (i := 10) rfl)
theorem wm_802 {c0 : Cond} : Cond.code yX9_drawn cX9_drawn 5 (some .int) ∈ c0 :: wsL_law := List.mem_cons_of_mem _ wr_802
theorem wr_803 : Cond.constantLong RX9 260 (6364136223846793005) ∈ wsL_law := in_r34 _ (List.mem_of_getElem? (i := 11) rfl)
theorem wm_803 {c0 : Cond} : Cond.constantLong RX9 260 (6364136223846793005) ∈ c0 :: wsL_law := List.mem_cons_of_mem _ wr_803
theorem wr_804 : Cond.constantLong RX9 262 (1442695040888963407) ∈ wsL_law := in_r34 _ (List.mem_of_getElem? (i := 12) rfl)
theorem wm_804 {c0 : Cond} : Cond.constantLong RX9 262 (1442695040888963407) ∈ c0 :: wsL_law := List.mem_cons_of_mem _ wr_804
theorem wr_805 : Cond.methodLink RX9 264 yX9_doDrawn ∈ wsL_law := in_r34 _ (List.mem_of_getElem? (i := 13) rfl)
theorem wm_805 {c0 : Cond} : Cond.methodLink RX9 264 yX9_doDrawn ∈ c0 :: wsL_law := List.mem_cons_of_mem _ wr_805
theorem wr_806 : Cond.instanceMethod yX9_doDrawn ∈ wsL_law := in_r34 _ (List.mem_of_getElem? (i := 14) rfl)
theorem wm_806 {c0 : Cond} : Cond.instanceMethod yX9_doDrawn ∈ c0 :: wsL_law := List.mem_cons_of_mem _ wr_806
theorem wr_807 : Cond.selects RX9 yX9_doDrawn yX9_doDrawn ∈ wsL_law := in_r34 _ (List.mem_of_getElem? (i := 15) rfl)
theorem wm_807 {c0 : Cond} : Cond.selects RX9 yX9_doDrawn yX9_doDrawn ∈ c0 :: wsL_law := List.mem_cons_of_mem _ wr_807
theorem wr_808 : Cond.code yX9_doDrawn cX9_doDrawn 3 none ∈ wsL_law := in_r34 _ (List.mem_of_getElem? (i := 16) rfl)
theorem wm_808 {c0 : Cond} : Cond.code yX9_doDrawn cX9_doDrawn 3 none ∈ c0 :: wsL_law := List.mem_cons_of_mem _ wr_808
theorem wr_809 : Cond.constant RX9 296 (131072) ∈ wsL_law := in_r34 _ (List.mem_of_getElem? (i := 17) rfl)
theorem wm_809 {c0 : Cond} : Cond.constant RX9 296 (131072) ∈ c0 :: wsL_law := List.mem_cons_of_mem _ wr_809
theorem wr_810 : Cond.methodLink RL 110 yX10_drawn ∈ wsL_law := in_r34 _ (List.mem_of_getElem? (i := 18) rfl)
theorem wm_810 {c0 : Cond} : Cond.methodLink RL 110 yX10_drawn ∈ c0 :: wsL_law := List.mem_cons_of_mem _ wr_810
theorem wr_811 : Cond.instanceMethod yX10_drawn ∈ wsL_law := in_r34 _ (List.mem_of_getElem? (i := 19) rfl)
theorem wm_811 {c0 : Cond} : Cond.instanceMethod yX10_drawn ∈ c0 :: wsL_law := List.mem_cons_of_mem _ wr_811
theorem wr_812 : Cond.selects RX10 yX10_drawn yX10_drawn ∈ wsL_law := in_r34 _ (List.mem_of_getElem? (i := 20) rfl)
theorem wm_812 {c0 : Cond} : Cond.selects RX10 yX10_drawn yX10_drawn ∈ c0 :: wsL_law := List.mem_cons_of_mem _ wr_812
theorem wr_813 : Cond.code yX10_drawn cX10_drawn 7 (some .int) ∈ wsL_law := in_r34 _ (List.mem_of_getElem? (i := 21) rfl)
theorem wm_813 {c0 : Cond} : Cond.code yX10_drawn cX10_drawn 7 (some .int) ∈ c0 :: wsL_law := List.mem_cons_of_mem _ wr_813
theorem wr_814 : Cond.constantLong RX10 270 (6364136223846793005) ∈ wsL_law := in_r34 _ (List.mem_of_getElem? (i := 22) rfl)
theorem wm_814 {c0 : Cond} : Cond.constantLong RX10 270 (6364136223846793005) ∈ c0 :: wsL_law := List.mem_cons_of_mem _ wr_814
theorem wr_815 : Cond.constantLong RX10 272 (1442695040888963407) ∈ wsL_law := in_r34 _ (List.mem_of_getElem? (i := 23) rfl)
theorem wm_815 {c0 : Cond} : Cond.constantLong RX10 272 (1442695040888963407) ∈ c0 :: wsL_law := List.mem_cons_of_mem _ wr_815
theorem wr_816 : Cond.constant RX10 274 (131072) ∈ wsL_law := in_r35 _ (List.mem_of_getElem? (i := 0) rfl)
theorem wm_816 {c0 : Cond} : Cond.constant RX10 274 (131072) ∈ c0 :: wsL_law := List.mem_cons_of_mem _ wr_816
theorem wr_817 : Cond.methodLink RL 111 yX9_keep ∈ wsL_law := in_r35 _ (List.mem_of_getElem? (i := 1) rfl)
theorem wm_817 {c0 : Cond} : Cond.methodLink RL 111 yX9_keep ∈ c0 :: wsL_law := List.mem_cons_of_mem _ wr_817
theorem wr_818 : Cond.instanceMethod yX9_keep ∈ wsL_law := in_r35 _ (List.mem_of_getElem? (i := 2) rfl)
theorem wm_818 {c0 : Cond} : Cond.instanceMethod yX9_keep ∈ c0 :: wsL_law := List.mem_cons_of_mem _ wr_818
theorem wr_819 : Cond.selects RX9 yX9_keep yX9_keep ∈ wsL_law := in_r35 _ (List.mem_of_getElem? (i := 3) rfl)
theorem wm_819 {c0 : Cond} : Cond.selects RX9 yX9_keep yX9_keep ∈ c0 :: wsL_law := List.mem_cons_of_mem _ wr_819
theorem wr_820 : Cond.code yX9_keep cX9_keep 2 (some .int) ∈ wsL_law := in_r35 _ (List.mem_of_getElem? (i := 4) rfl)
theorem wm_820 {c0 : Cond} : Cond.code yX9_keep cX9_keep 2 (some .int) ∈ c0 :: wsL_law := List.mem_cons_of_mem _ wr_820
theorem wr_821 : Cond.methodLink RX9 267 yX6_has ∈ wsL_law := in_r35 _ (List.mem_of_getElem? (i := 5) rfl)
theorem wm_821 {c0 : Cond} : Cond.methodLink RX9 267 yX6_has ∈ c0 :: wsL_law := List.mem_cons_of_mem _ wr_821
theorem wr_822 : Cond.instanceMethod yX6_has ∈ wsL_law := in_r35 _ (List.mem_of_getElem? (i := 6) rfl)
theorem wm_822 {c0 : Cond} : Cond.instanceMethod yX6_has ∈ c0 :: wsL_law := List.mem_cons_of_mem _ wr_822
theorem wr_823 : Cond.selects RX6 yX6_has yX6_has ∈ wsL_law := in_r35 _ (List.mem_of_getElem? (i := 7) rfl)
theorem wm_823 {c0 : Cond} : Cond.selects RX6 yX6_has yX6_has ∈ c0 :: wsL_law := List.mem_cons_of_mem _ wr_823
theorem wr_824 : Cond.code yX6_has cX6_has 2 (some .boolean) ∈ wsL_law := in_r35 _ (List.mem_of_getElem? (i := 8) rfl)
theorem wm_824 {c0 : Cond} : Cond.code yX6_has cX6_has 2 (some .boolean) ∈ c0 :: wsL_law := List.mem_cons_of_mem _ wr_824
theorem wr_825 : Cond.methodLink RX9 268 yX6_store ∈ wsL_law := in_r35 _ (List.mem_of_getElem? (i := 9) rfl)
theorem wm_825 {c0 : Cond} : Cond.methodLink RX9 268 yX6_store ∈ c0 :: wsL_law := List.mem_cons_of_mem _ wr_825
theorem wr_826 : Cond.instanceMethod yX6_store ∈ wsL_law := in_r35 _ (List.mem_of_getElem? (i := 10) rfl)
theorem wm_826 {c0 : Cond} : Cond.instanceMethod yX6_store ∈ c0 :: wsL_law := List.mem_cons_of_mem _ wr_826
theorem wr_827 : Cond.selects RX6 yX6_store yX6_store ∈ wsL_law := in_r35 _ (List.mem_of_getElem? (i := 11) rfl)
theorem wm_827 {c0 : Cond} : Cond.selects RX6 yX6_store yX6_store ∈ c0 :: wsL_law := List.mem_cons_of_mem _ wr_827
theorem wr_828 : Cond.code yX6_store cX6_store 3 none ∈ wsL_law := in_r35 _ (List.mem_of_getElem? (i := 12) rfl)
theorem wm_828 {c0 : Cond} : Cond.code yX6_store cX6_store 3 none ∈ c0 :: wsL_law := List.mem_cons_of_mem _ wr_828
theorem wr_829 : Cond.methodLink RX6 22 yX6_has ∈ wsL_law := in_r35 _ (List.mem_of_getElem? (i := 13) rfl)
theorem wm_829 {c0 : Cond} : Cond.methodLink RX6 22 yX6_has ∈ c0 :: wsL_law := List.mem_cons_of_mem _ wr_829
theorem wr_830 : Cond.methodLink RX6 26 yX8_copy ∈ wsL_law := in_r35 _ (List.mem_of_getElem? (i := 14) rfl)
theorem wm_830 {c0 : Cond} : Cond.methodLink RX6 26 yX8_copy ∈ c0 :: wsL_law := List.mem_cons_of_mem _ wr_830
theorem wr_831 : Cond.methodLink RL 114 yX10_keep ∈ wsL_law := in_r35 _ (List.mem_of_getElem? (i := 15) rfl)
theorem wm_831 {c0 : Cond} : Cond.methodLink RL 114 yX10_keep ∈ c0 :: wsL_law := List.mem_cons_of_mem _ wr_831
theorem wr_832 : Cond.instanceMethod yX10_keep ∈ wsL_law := in_r35 _ (List.mem_of_getElem? (i := 16) rfl)
theorem wm_832 {c0 : Cond} : Cond.instanceMethod yX10_keep ∈ c0 :: wsL_law := List.mem_cons_of_mem _ wr_832
theorem wr_833 : Cond.selects RX10 yX10_keep yX10_keep ∈ wsL_law := in_r35 _ (List.mem_of_getElem? (i := 17) rfl)
theorem wm_833 {c0 : Cond} : Cond.selects RX10 yX10_keep yX10_keep ∈ c0 :: wsL_law := List.mem_cons_of_mem _ wr_833
theorem wr_834 : Cond.code yX10_keep cX10_keep 3 (some .int) ∈ wsL_law := in_r35 _ (List.mem_of_getElem? (i := 18) rfl)
theorem wm_834 {c0 : Cond} : Cond.code yX10_keep cX10_keep 3 (some .int) ∈ c0 :: wsL_law := List.mem_cons_of_mem _ wr_834
theorem wr_835 : Cond.methodLink RL 115 yX9_again ∈ wsL_law := in_r35 _ (List.mem_of_getElem? (i := 19) rfl)
theorem wm_835 {c0 : Cond} : Cond.methodLink RL 115 yX9_again ∈ c0 :: wsL_law := List.mem_cons_of_mem _ wr_835
theorem wr_836 : Cond.instanceMethod yX9_again ∈ wsL_law := in_r35 _ (List.mem_of_getElem? (i := 20) rfl)
theorem wm_836 {c0 : Cond} : Cond.instanceMethod yX9_again ∈ c0 :: wsL_law := List.mem_cons_of_mem _ wr_836
theorem wr_837 : Cond.selects RX9 yX9_again yX9_again ∈ wsL_law := in_r35 _ (List.mem_of_getElem? (i := 21) rfl)
theorem wm_837 {c0 : Cond} : Cond.selects RX9 yX9_again yX9_again ∈ c0 :: wsL_law := List.mem_cons_of_mem _ wr_837
theorem wr_838 : Cond.code yX9_again cX9_again 2 (some .int) ∈ wsL_law := in_r35 _ (List.mem_of_getElem? (i := 22) rfl)
theorem wm_838 {c0 : Cond} : Cond.code yX9_again cX9_again 2 (some .int) ∈ c0 :: wsL_law := List.mem_cons_of_mem _ wr_838
theorem wr_839 : Cond.methodLink RX9 272 yX6_isUsed ∈ wsL_law := in_r35 _ (List.mem_of_getElem? (i := 23) rfl)
theorem wm_839 {c0 : Cond} : Cond.methodLink RX9 272 yX6_isUsed ∈ c0 :: wsL_law := List.mem_cons_of_mem _ wr_839
theorem wr_840 : Cond.instanceMethod yX6_isUsed ∈ wsL_law := in_r36 _ (List.mem_of_getElem? (i := 0) rfl)
theorem wm_840 {c0 : Cond} : Cond.instanceMethod yX6_isUsed ∈ c0 :: wsL_law := List.mem_cons_of_mem _ wr_840
theorem wr_841 : Cond.selects RX6 yX6_isUsed yX6_isUsed ∈ wsL_law := in_r36 _ (List.mem_of_getElem? (i := 1) rfl)
theorem wm_841 {c0 : Cond} : Cond.selects RX6 yX6_isUsed yX6_isUsed ∈ c0 :: wsL_law := List.mem_cons_of_mem _ wr_841
theorem wr_842 : Cond.code yX6_isUsed cX6_isUsed 2 (some .boolean) ∈ wsL_law := in_r36 _ (List.mem_of_getElem? (i := 2) rfl)
theorem wm_842 {c0 : Cond} : Cond.code yX6_isUsed cX6_isUsed 2 (some .boolean) ∈ c0 :: wsL_law := List.mem_cons_of_mem _ wr_842
theorem wr_843 : Cond.methodLink RX9 275 yX6_restore ∈ wsL_law := in_r36 _ (List.mem_of_getElem? (i := 3) rfl)
theorem wm_843 {c0 : Cond} : Cond.methodLink RX9 275 yX6_restore ∈ c0 :: wsL_law := List.mem_cons_of_mem _ wr_843
theorem wr_844 : Cond.instanceMethod yX6_restore ∈ wsL_law := in_r36 _ (List.mem_of_getElem? (i := 4) rfl)
theorem wm_844 {c0 : Cond} : Cond.instanceMethod yX6_restore ∈ c0 :: wsL_law := List.mem_cons_of_mem _ wr_844
theorem wr_845 : Cond.selects RX6 yX6_restore yX6_restore ∈ wsL_law := in_r36 _ (List.mem_of_getElem? (i := 5) rfl)
theorem wm_845 {c0 : Cond} : Cond.selects RX6 yX6_restore yX6_restore ∈ c0 :: wsL_law := List.mem_cons_of_mem _ wr_845
theorem wr_846 : Cond.code yX6_restore cX6_restore 3 none ∈ wsL_law := in_r36 _ (List.mem_of_getElem? (i := 6) rfl)
theorem wm_846 {c0 : Cond} : Cond.code yX6_restore cX6_restore 3 none ∈ c0 :: wsL_law := List.mem_cons_of_mem _ wr_846
theorem wr_847 : Cond.methodLink RX6 30 yX6_isUsed ∈ wsL_law := in_r36 _ (List.mem_of_getElem? (i := 7) rfl)
theorem wm_847 {c0 : Cond} : Cond.methodLink RX6 30 yX6_isUsed ∈ c0 :: wsL_law := List.mem_cons_of_mem _ wr_847
theorem wr_848 : Cond.methodLink RL 118 yX10_again ∈ wsL_law := in_r36 _ (List.mem_of_getElem? (i := 8) rfl)
theorem wm_848 {c0 : Cond} : Cond.methodLink RL 118 yX10_again ∈ c0 :: wsL_law := List.mem_cons_of_mem _ wr_848
theorem wr_849 : Cond.instanceMethod yX10_again ∈ wsL_law := in_r36 _ (List.mem_of_getElem? (i := 9) rfl)
theorem wm_849 {c0 : Cond} : Cond.instanceMethod yX10_again ∈ c0 :: wsL_law := List.mem_cons_of_mem _ wr_849
theorem wr_850 : Cond.selects RX10 yX10_again yX10_again ∈ wsL_law := in_r36 _ (List.mem_of_getElem? (i := 10) rfl)
theorem wm_850 {c0 : Cond} : Cond.selects RX10 yX10_again yX10_again ∈ c0 :: wsL_law := List.mem_cons_of_mem _ wr_850
theorem wr_851 : Cond.code yX10_again cX10_again 3 (some .int) ∈ wsL_law := in_r36 _ (List.mem_of_getElem? (i := 11) rfl)
theorem wm_851 {c0 : Cond} : Cond.code yX10_again cX10_again 3 (some .int) ∈ c0 :: wsL_law := List.mem_cons_of_mem _ wr_851
theorem ix_0 {c0 : Cond} : ∀ w ∈ u_ws RX0 TX0 5, w ∈ c0 :: wsL_law := fun w h => List.mem_cons_of_mem _ (inlX0 w h)
theorem ix_1 {c0 : Cond} : ∀ w ∈ u_ws RX1 TX1 5, w ∈ c0 :: wsL_law := fun w h => List.mem_cons_of_mem _ (inlX1 w h)
theorem ix_2 {c0 : Cond} : ∀ w ∈ u_ws RX2 TX2 3, w ∈ c0 :: wsL_law := fun w h => List.mem_cons_of_mem _ (inlX2 w h)
theorem ix_3 {c0 : Cond} : ∀ w ∈ u_ws RX3 TX3 8, w ∈ c0 :: wsL_law := fun w h => List.mem_cons_of_mem _ (inlX3 w h)
theorem ix_4 {c0 : Cond} : ∀ w ∈ u_ws RX4 TX4 8, w ∈ c0 :: wsL_law := fun w h => List.mem_cons_of_mem _ (inlX4 w h)
theorem ix_5 {c0 : Cond} : ∀ w ∈ u_ws RX5 TX5 4, w ∈ c0 :: wsL_law := fun w h => List.mem_cons_of_mem _ (inlX5 w h)
theorem ix_6 {c0 : Cond} : ∀ w ∈ u_ws RX6 TX6 2, w ∈ c0 :: wsL_law := fun w h => List.mem_cons_of_mem _ (inlX6 w h)
theorem ix_7 {c0 : Cond} : ∀ w ∈ u_ws RX7 TX7 2, w ∈ c0 :: wsL_law := fun w h => List.mem_cons_of_mem _ (inlX7 w h)
theorem ix_8 {c0 : Cond} : ∀ w ∈ u_ws RX8 TX8 2, w ∈ c0 :: wsL_law := fun w h => List.mem_cons_of_mem _ (inlX8 w h)
theorem ix_9 {c0 : Cond} : ∀ w ∈ u_ws RX9 TX9 11, w ∈ c0 :: wsL_law := fun w h => List.mem_cons_of_mem _ (inlX9 w h)
theorem ix_10 {c0 : Cond} : ∀ w ∈ u_ws RX10 TX10 35, w ∈ c0 :: wsL_law := fun w h => List.mem_cons_of_mem _ (inlX10 w h)
theorem gdV {c0 : Cond} {own Cn : String} {idx : Nat} {y : MethodName} {bytes : ByteArray} {n : Nat} {rt : Option FieldType} (h1 : Cond.methodLink own idx y ∈ wsL_law) (h2 : Cond.instanceMethod y ∈ wsL_law) (h3 : Cond.selects Cn y y ∈ wsL_law) (h4 : Cond.initialized Cn ∈ wsL_law) (h5 : Cond.code y bytes n rt ∈ wsL_law) : GoodIn (c0 :: wsL_law) (wsV own idx Cn y (Cond.code y bytes n rt :: wsL_law)) := by
  have key : ∀ w ∈ wsV own idx Cn y (Cond.code y bytes n rt :: wsL_law), w ∈ wsL_law := by
    intro w hw
    unfold wsV at hw
    simp only [List.cons_append, List.nil_append, List.mem_cons] at hw
    rcases hw with rfl | rfl | rfl | rfl | rfl | hw <;> assumption
  exact fun w hw => ⟨List.mem_cons_of_mem _ (key w hw), good_of_word (List.all_eq_true.mp all_good w (key w hw))⟩
theorem gdS {c0 : Cond} {own : String} {idx : Nat} {y : MethodName} {bytes : ByteArray} {n : Nat} {rt : Option FieldType} (h1 : Cond.methodLink own idx y ∈ wsL_law) (h2 : Cond.static y ∈ wsL_law) (h4 : Cond.initialized y.cls ∈ wsL_law) (h5 : Cond.code y bytes n rt ∈ wsL_law) : GoodIn (c0 :: wsL_law) (va_wsS own idx y (Cond.code y bytes n rt :: wsL_law)) := by
  have key : ∀ w ∈ va_wsS own idx y (Cond.code y bytes n rt :: wsL_law), w ∈ wsL_law := by
    intro w hw
    unfold va_wsS at hw
    simp only [List.cons_append, List.nil_append, List.mem_cons] at hw
    rcases hw with rfl | rfl | rfl | rfl | hw <;> assumption
  exact fun w hw => ⟨List.mem_cons_of_mem _ (key w hw), good_of_word (List.all_eq_true.mp all_good w (key w hw))⟩
theorem gdI {c0 : Cond} {y : MethodName} {bytes : ByteArray} {n : Nat} {rt : Option FieldType} (h5 : Cond.code y bytes n rt ∈ wsL_law) : GoodIn (c0 :: wsL_law) (Cond.code y bytes n rt :: wsL_law) := by
  have key : ∀ w ∈ Cond.code y bytes n rt :: wsL_law, w ∈ wsL_law := by
    intro w hw
    simp only [List.mem_cons] at hw
    rcases hw with rfl | hw <;> assumption
  exact fun w hw => ⟨List.mem_cons_of_mem _ (key w hw), good_of_word (List.all_eq_true.mp all_good w (key w hw))⟩
abbrev wkX0_init : List Cond := Cond.code yX0_init cX0_init 1 none :: wsL_law
abbrev wkX0_clear : List Cond := Cond.code yX0_clear cX0_clear 1 none :: wsL_law
abbrev wkX0_noteGrown : List Cond := Cond.code yX0_noteGrown cX0_noteGrown 2 none :: wsL_law
abbrev wkX0_noteFlipped : List Cond := Cond.code yX0_noteFlipped cX0_noteFlipped 2 none :: wsL_law
abbrev wkX0_noteCut : List Cond := Cond.code yX0_noteCut cX0_noteCut 5 none :: wsL_law
abbrev wkX0_takeBackLast : List Cond := Cond.code yX0_takeBackLast cX0_takeBackLast 3 none :: wsL_law
abbrev wkX0_bringBack : List Cond := Cond.code yX0_bringBack cX0_bringBack 6 none :: wsL_law
abbrev wkX0_note : List Cond := Cond.code yX0_note cX0_note 4 (some .int) :: wsL_law
abbrev wkX1_init : List Cond := Cond.code yX1_init cX1_init 1 none :: wsL_law
abbrev wkX1_isToldBy : List Cond := Cond.code yX1_isToldBy cX1_isToldBy 7 (some .boolean) :: wsL_law
abbrev wkX1_become : List Cond := Cond.code yX1_become cX1_become 2 none :: wsL_law
abbrev wkX1_code : List Cond := Cond.code yX1_code cX1_code 1 (some .int) :: wsL_law
abbrev wkX1_bitsOfFrame : List Cond := Cond.code yX1_bitsOfFrame cX1_bitsOfFrame 1 (some .int) :: wsL_law
abbrev wkX1_ticksOfLetter : List Cond := Cond.code yX1_ticksOfLetter cX1_ticksOfLetter 1 (some .int) :: wsL_law
abbrev wkX1_tickOfBit : List Cond := Cond.code yX1_tickOfBit cX1_tickOfBit 3 (some .int) :: wsL_law
abbrev wkX1_levelOf : List Cond := Cond.code yX1_levelOf cX1_levelOf 2 (some .int) :: wsL_law
abbrev wkX1_parityFor : List Cond := Cond.code yX1_parityFor cX1_parityFor 2 (some .int) :: wsL_law
abbrev wkX2_init : List Cond := Cond.code yX2_init cX2_init 1 none :: wsL_law
abbrev wkX2_isFull : List Cond := Cond.code yX2_isFull cX2_isFull 1 (some .boolean) :: wsL_law
abbrev wkX2_add : List Cond := Cond.code yX2_add cX2_add 3 none :: wsL_law
abbrev wkX2_refuters : List Cond := Cond.code yX2_refuters cX2_refuters 4 (some .int) :: wsL_law
abbrev wkX3_init : List Cond := Cond.code yX3_init cX3_init 1 none :: wsL_law
abbrev wkX3_rank : List Cond := Cond.code yX3_rank cX3_rank 4 none :: wsL_law
abbrev wkX3_countAlike : List Cond := Cond.code yX3_countAlike cX3_countAlike 4 (some .int) :: wsL_law
abbrev wkX3_sift : List Cond := Cond.code yX3_sift cX3_sift 5 none :: wsL_law
abbrev wkX3_sixtiethsRuledOut : List Cond := Cond.code yX3_sixtiethsRuledOut cX3_sixtiethsRuledOut 9 (some .int) :: wsL_law
abbrev wkX3_isBetter : List Cond := Cond.code yX3_isBetter cX3_isBetter 2 (some .boolean) :: wsL_law
abbrev wkX3_becomeBest : List Cond := Cond.code yX3_becomeBest cX3_becomeBest 2 none :: wsL_law
abbrev wkX3_readsLikeBest : List Cond := Cond.code yX3_readsLikeBest cX3_readsLikeBest 3 (some .boolean) :: wsL_law
abbrev wkX4_init : List Cond := Cond.code yX4_init cX4_init 1 none :: wsL_law
abbrev wkX4_listenTo : List Cond := Cond.code yX4_listenTo cX4_listenTo 2 none :: wsL_law
abbrev wkX4_read : List Cond := Cond.code yX4_read cX4_read 6 none :: wsL_law
abbrev wkX4_fits : List Cond := Cond.code yX4_fits cX4_fits 1 (some .boolean) :: wsL_law
abbrev wkX4_letterAt : List Cond := Cond.code yX4_letterAt cX4_letterAt 2 (some .int) :: wsL_law
abbrev wkX4_startAt : List Cond := Cond.code yX4_startAt cX4_startAt 2 (some .int) :: wsL_law
abbrev wkX4_nextStart : List Cond := Cond.code yX4_nextStart cX4_nextStart 4 (some .int) :: wsL_law
abbrev wkX4_readFrame : List Cond := Cond.code yX4_readFrame cX4_readFrame 9 (some .int) :: wsL_law
abbrev wkX4_failureOfBit : List Cond := Cond.code yX4_failureOfBit cX4_failureOfBit 4 (some .int) :: wsL_law
abbrev wkX5_init : List Cond := Cond.code yX5_init cX5_init 1 none :: wsL_law
abbrev wkX5_mark : List Cond := Cond.code yX5_mark cX5_mark 5 none :: wsL_law
abbrev wkX5_edges : List Cond := Cond.code yX5_edges cX5_edges 1 (some .int) :: wsL_law
abbrev wkX5_nextEdge : List Cond := Cond.code yX5_nextEdge cX5_nextEdge 3 (some .int) :: wsL_law
abbrev wkX5_ticksOfRun : List Cond := Cond.code yX5_ticksOfRun cX5_ticksOfRun 4 (some .int) :: wsL_law
abbrev wkX5_inset : List Cond := Cond.code yX5_inset cX5_inset 4 (some .int) :: wsL_law
abbrev wkX5_offBy : List Cond := Cond.code yX5_offBy cX5_offBy 5 (some .int) :: wsL_law
abbrev wkX5_width : List Cond := Cond.code yX5_width cX5_width 5 (some .int) :: wsL_law
abbrev wkX5_lengthFrom : List Cond := Cond.code yX5_lengthFrom cX5_lengthFrom 2 (some .int) :: wsL_law
abbrev wkX5_offOfRun : List Cond := Cond.code yX5_offOfRun cX5_offOfRun 3 (some .int) :: wsL_law
abbrev wkX6_init : List Cond := Cond.code yX6_init cX6_init 1 none :: wsL_law
abbrev wkX6_has : List Cond := Cond.code yX6_has cX6_has 2 (some .boolean) :: wsL_law
abbrev wkX6_isUsed : List Cond := Cond.code yX6_isUsed cX6_isUsed 2 (some .boolean) :: wsL_law
abbrev wkX6_clear : List Cond := Cond.code yX6_clear cX6_clear 2 none :: wsL_law
abbrev wkX6_store : List Cond := Cond.code yX6_store cX6_store 3 none :: wsL_law
abbrev wkX6_restore : List Cond := Cond.code yX6_restore cX6_restore 3 none :: wsL_law
abbrev wkX7_init : List Cond := Cond.code yX7_init cX7_init 1 none :: wsL_law
abbrev wkX7_isFull : List Cond := Cond.code yX7_isFull cX7_isFull 1 (some .boolean) :: wsL_law
abbrev wkX7_add : List Cond := Cond.code yX7_add cX7_add 2 none :: wsL_law
abbrev wkX7_firstFault : List Cond := Cond.code yX7_firstFault cX7_firstFault 4 (some .int) :: wsL_law
abbrev wkX7_layOn : List Cond := Cond.code yX7_layOn cX7_layOn 4 none :: wsL_law
abbrev wkX7_faultOfRun : List Cond := Cond.code yX7_faultOfRun cX7_faultOfRun 7 (some .int) :: wsL_law
abbrev wkX7_ticksToldAt : List Cond := Cond.code yX7_ticksToldAt cX7_ticksToldAt 2 (some .int) :: wsL_law
abbrev wkX7_figureAt : List Cond := Cond.code yX7_figureAt cX7_figureAt 3 (some .int) :: wsL_law
abbrev wkX7_signAt : List Cond := Cond.code yX7_signAt cX7_signAt 2 (some .int) :: wsL_law
abbrev wkX8_init : List Cond := Cond.code yX8_init cX8_init 1 none :: wsL_law
abbrev wkX8_has : List Cond := Cond.code yX8_has cX8_has 2 (some .boolean) :: wsL_law
abbrev wkX8_hasPlaceFor : List Cond := Cond.code yX8_hasPlaceFor cX8_hasPlaceFor 2 (some .boolean) :: wsL_law
abbrev wkX8_levelAt : List Cond := Cond.code yX8_levelAt cX8_levelAt 2 (some .int) :: wsL_law
abbrev wkX8_isEdge : List Cond := Cond.code yX8_isEdge cX8_isEdge 2 (some .boolean) :: wsL_law
abbrev wkX8_extend : List Cond := Cond.code yX8_extend cX8_extend 4 none :: wsL_law
abbrev wkX8_extendByLetter : List Cond := Cond.code yX8_extendByLetter cX8_extendByLetter 7 none :: wsL_law
abbrev wkX8_turnOver : List Cond := Cond.code yX8_turnOver cX8_turnOver 2 none :: wsL_law
abbrev wkX8_shorten : List Cond := Cond.code yX8_shorten cX8_shorten 2 none :: wsL_law
abbrev wkX8_copy : List Cond := Cond.code yX8_copy cX8_copy 2 none :: wsL_law
abbrev wkX9_init : List Cond := Cond.code yX9_init cX9_init 1 none :: wsL_law
abbrev wkX9_write : List Cond := Cond.code yX9_write cX9_write 2 (some .int) :: wsL_law
abbrev wkX9_wipe : List Cond := Cond.code yX9_wipe cX9_wipe 2 (some .int) :: wsL_law
abbrev wkX9_fault : List Cond := Cond.code yX9_fault cX9_fault 1 (some .int) :: wsL_law
abbrev wkX9_take : List Cond := Cond.code yX9_take cX9_take 1 (some .int) :: wsL_law
abbrev wkX9_about : List Cond := Cond.code yX9_about cX9_about 2 (some .int) :: wsL_law
abbrev wkX9_level : List Cond := Cond.code yX9_level cX9_level 2 (some .int) :: wsL_law
abbrev wkX9_run : List Cond := Cond.code yX9_run cX9_run 2 (some .int) :: wsL_law
abbrev wkX9_off : List Cond := Cond.code yX9_off cX9_off 2 (some .int) :: wsL_law
abbrev wkX9_hear : List Cond := Cond.code yX9_hear cX9_hear 3 (some .int) :: wsL_law
abbrev wkX9_send : List Cond := Cond.code yX9_send cX9_send 4 (some .int) :: wsL_law
abbrev wkX9_flip : List Cond := Cond.code yX9_flip cX9_flip 2 (some .int) :: wsL_law
abbrev wkX9_cut : List Cond := Cond.code yX9_cut cX9_cut 2 (some .int) :: wsL_law
abbrev wkX9_undo : List Cond := Cond.code yX9_undo cX9_undo 1 (some .int) :: wsL_law
abbrev wkX9_guess : List Cond := Cond.code yX9_guess cX9_guess 3 (some .int) :: wsL_law
abbrev wkX9_letter : List Cond := Cond.code yX9_letter cX9_letter 4 (some .int) :: wsL_law
abbrev wkX9_judge : List Cond := Cond.code yX9_judge cX9_judge 6 (some .int) :: wsL_law
abbrev wkX9_know : List Cond := Cond.code yX9_know cX9_know 3 (some .int) :: wsL_law
abbrev wkX9_forget : List Cond := Cond.code yX9_forget cX9_forget 2 (some .int) :: wsL_law
abbrev wkX9_share : List Cond := Cond.code yX9_share cX9_share 4 (some .int) :: wsL_law
abbrev wkX9_chance : List Cond := Cond.code yX9_chance cX9_chance 9 (some .int) :: wsL_law
abbrev wkX9_seed : List Cond := Cond.code yX9_seed cX9_seed 5 (some .long) :: wsL_law
abbrev wkX9_drawn : List Cond := Cond.code yX9_drawn cX9_drawn 5 (some .int) :: wsL_law
abbrev wkX9_keep : List Cond := Cond.code yX9_keep cX9_keep 2 (some .int) :: wsL_law
abbrev wkX9_again : List Cond := Cond.code yX9_again cX9_again 2 (some .int) :: wsL_law
abbrev wkX9_isLevel : List Cond := Cond.code yX9_isLevel cX9_isLevel 1 (some .boolean) :: wsL_law
abbrev wkX9_isLetter : List Cond := Cond.code yX9_isLetter cX9_isLetter 1 (some .boolean) :: wsL_law
abbrev wkX9_withoutLastDoings : List Cond := Cond.code yX9_withoutLastDoings cX9_withoutLastDoings 6 (some .long) :: wsL_law
abbrev wkX9_isSo : List Cond := Cond.code yX9_isSo cX9_isSo 3 (some .boolean) :: wsL_law
abbrev wkX9_couldHear : List Cond := Cond.code yX9_couldHear cX9_couldHear 3 (some .boolean) :: wsL_law
abbrev wkX9_couldFlip : List Cond := Cond.code yX9_couldFlip cX9_couldFlip 2 (some .boolean) :: wsL_law
abbrev wkX9_couldCut : List Cond := Cond.code yX9_couldCut cX9_couldCut 2 (some .boolean) :: wsL_law
abbrev wkX9_isBestBit : List Cond := Cond.code yX9_isBestBit cX9_isBestBit 4 (some .boolean) :: wsL_law
abbrev wkX9_findShakyTicks : List Cond := Cond.code yX9_findShakyTicks cX9_findShakyTicks 4 (some .int) :: wsL_law
abbrev wkX9_fitsWithFlips : List Cond := Cond.code yX9_fitsWithFlips cX9_fitsWithFlips 4 (some .boolean) :: wsL_law
abbrev wkX9_weightOf : List Cond := Cond.code yX9_weightOf cX9_weightOf 5 (some .int) :: wsL_law
abbrev wkX9_doDrawn : List Cond := Cond.code yX9_doDrawn cX9_doDrawn 3 none :: wsL_law
abbrev wkX9_inLeastTerms : List Cond := Cond.code yX9_inLeastTerms cX9_inLeastTerms 5 (some .int) :: wsL_law
abbrev wkX9_greatestCommonDivisor : List Cond := Cond.code yX9_greatestCommonDivisor cX9_greatestCommonDivisor 6 (some .int) :: wsL_law
abbrev wkX10_init : List Cond := Cond.code yX10_init cX10_init 1 none :: wsL_law
abbrev wkX10_copy : List Cond := Cond.code yX10_copy cX10_copy 3 none :: wsL_law
abbrev wkX10_in : List Cond := Cond.code yX10_in cX10_in 6 (some .boolean) :: wsL_law
abbrev wkX10_ones : List Cond := Cond.code yX10_ones cX10_ones 3 (some .int) :: wsL_law
abbrev wkX10_power : List Cond := Cond.code yX10_power cX10_power 4 (some .int) :: wsL_law
abbrev wkX10_factorial : List Cond := Cond.code yX10_factorial cX10_factorial 3 (some .int) :: wsL_law
abbrev wkX10_fraction : List Cond := Cond.code yX10_fraction cX10_fraction 6 (some .int) :: wsL_law
abbrev wkX10_isTick : List Cond := Cond.code yX10_isTick cX10_isTick 2 (some .boolean) :: wsL_law
abbrev wkX10_write : List Cond := Cond.code yX10_write cX10_write 2 (some .int) :: wsL_law
abbrev wkX10_wipe : List Cond := Cond.code yX10_wipe cX10_wipe 2 (some .int) :: wsL_law
abbrev wkX10_takeLetter : List Cond := Cond.code yX10_takeLetter cX10_takeLetter 5 (some .boolean) :: wsL_law
abbrev wkX10_readText : List Cond := Cond.code yX10_readText cX10_readText 2 (some .int) :: wsL_law
abbrev wkX10_fault : List Cond := Cond.code yX10_fault cX10_fault 1 (some .int) :: wsL_law
abbrev wkX10_take : List Cond := Cond.code yX10_take cX10_take 2 (some .int) :: wsL_law
abbrev wkX10_layCode : List Cond := Cond.code yX10_layCode cX10_layCode 3 (some .boolean) :: wsL_law
abbrev wkX10_frameBits : List Cond := Cond.code yX10_frameBits cX10_frameBits 1 (some .int) :: wsL_law
abbrev wkX10_failsBy : List Cond := Cond.code yX10_failsBy cX10_failsBy 4 (some .int) :: wsL_law
abbrev wkX10_frameAt : List Cond := Cond.code yX10_frameAt cX10_frameAt 10 (some .int) :: wsL_law
abbrev wkX10_read : List Cond := Cond.code yX10_read cX10_read 3 none :: wsL_law
abbrev wkX10_fits : List Cond := Cond.code yX10_fits cX10_fits 1 (some .boolean) :: wsL_law
abbrev wkX10_layDeep : List Cond := Cond.code yX10_layDeep cX10_layDeep 5 none :: wsL_law
abbrev wkX10_codeOf : List Cond := Cond.code yX10_codeOf cX10_codeOf 1 (some .int) :: wsL_law
abbrev wkX10_isAsBest : List Cond := Cond.code yX10_isAsBest cX10_isAsBest 3 (some .boolean) :: wsL_law
abbrev wkX10_best : List Cond := Cond.code yX10_best cX10_best 7 (some .int) :: wsL_law
abbrev wkX10_alikes : List Cond := Cond.code yX10_alikes cX10_alikes 4 (some .int) :: wsL_law
abbrev wkX10_edges : List Cond := Cond.code yX10_edges cX10_edges 3 (some .int) :: wsL_law
abbrev wkX10_runOf : List Cond := Cond.code yX10_runOf cX10_runOf 5 (some .int) :: wsL_law
abbrev wkX10_offOf : List Cond := Cond.code yX10_offOf cX10_offOf 5 (some .int) :: wsL_law
abbrev wkX10_offBy : List Cond := Cond.code yX10_offBy cX10_offBy 5 (some .int) :: wsL_law
abbrev wkX10_width : List Cond := Cond.code yX10_width cX10_width 5 (some .int) :: wsL_law
abbrev wkX10_isSo : List Cond := Cond.code yX10_isSo cX10_isSo 5 (some .boolean) :: wsL_law
abbrev wkX10_left : List Cond := Cond.code yX10_left cX10_left 7 (some .int) :: wsL_law
abbrev wkX10_fit : List Cond := Cond.code yX10_fit cX10_fit 2 (some .int) :: wsL_law
abbrev wkX10_about : List Cond := Cond.code yX10_about cX10_about 2 (some .int) :: wsL_law
abbrev wkX10_level : List Cond := Cond.code yX10_level cX10_level 2 (some .int) :: wsL_law
abbrev wkX10_run : List Cond := Cond.code yX10_run cX10_run 3 (some .int) :: wsL_law
abbrev wkX10_off : List Cond := Cond.code yX10_off cX10_off 2 (some .int) :: wsL_law
abbrev wkX10_note : List Cond := Cond.code yX10_note cX10_note 2 none :: wsL_law
abbrev wkX10_hearOn : List Cond := Cond.code yX10_hearOn cX10_hearOn 4 none :: wsL_law
abbrev wkX10_hear : List Cond := Cond.code yX10_hear cX10_hear 3 (some .int) :: wsL_law
abbrev wkX10_hasRoom : List Cond := Cond.code yX10_hasRoom cX10_hasRoom 2 (some .boolean) :: wsL_law
abbrev wkX10_sendOn : List Cond := Cond.code yX10_sendOn cX10_sendOn 6 none :: wsL_law
abbrev wkX10_send : List Cond := Cond.code yX10_send cX10_send 3 (some .int) :: wsL_law
abbrev wkX10_flip : List Cond := Cond.code yX10_flip cX10_flip 2 (some .int) :: wsL_law
abbrev wkX10_cutOn : List Cond := Cond.code yX10_cutOn cX10_cutOn 3 none :: wsL_law
abbrev wkX10_cut : List Cond := Cond.code yX10_cut cX10_cut 2 (some .int) :: wsL_law
abbrev wkX10_undo : List Cond := Cond.code yX10_undo cX10_undo 2 (some .int) :: wsL_law
abbrev wkX10_guess : List Cond := Cond.code yX10_guess cX10_guess 3 (some .int) :: wsL_law
abbrev wkX10_letter : List Cond := Cond.code yX10_letter cX10_letter 4 (some .int) :: wsL_law
abbrev wkX10_judged : List Cond := Cond.code yX10_judged cX10_judged 7 (some .boolean) :: wsL_law
abbrev wkX10_tenThousands : List Cond := Cond.code yX10_tenThousands cX10_tenThousands 4 (some .long) :: wsL_law
abbrev wkX10_judge : List Cond := Cond.code yX10_judge cX10_judge 6 (some .int) :: wsL_law
abbrev wkX10_know : List Cond := Cond.code yX10_know cX10_know 3 (some .int) :: wsL_law
abbrev wkX10_forget : List Cond := Cond.code yX10_forget cX10_forget 2 (some .int) :: wsL_law
abbrev wkX10_share : List Cond := Cond.code yX10_share cX10_share 6 (some .int) :: wsL_law
abbrev wkX10_flipSome : List Cond := Cond.code yX10_flipSome cX10_flipSome 4 none :: wsL_law
abbrev wkX10_chance : List Cond := Cond.code yX10_chance cX10_chance 8 (some .int) :: wsL_law
abbrev wkX10_seed : List Cond := Cond.code yX10_seed cX10_seed 5 (some .long) :: wsL_law
abbrev wkX10_drawn : List Cond := Cond.code yX10_drawn cX10_drawn 7 (some .int) :: wsL_law
abbrev wkX10_keep : List Cond := Cond.code yX10_keep cX10_keep 3 (some .int) :: wsL_law
abbrev wkX10_again : List Cond := Cond.code yX10_again cX10_again 3 (some .int) :: wsL_law
abbrev wkJ6_bitCount_0f7a4 : List Cond := Cond.code yJ6_bitCount_0f7a4 cJ6_bitCount_0f7a4 1 (some .int) :: wsL_law
abbrev wkJ9_max_7cf53 : List Cond := Cond.code yJ9_max_7cf53 cJ9_max_7cf53 2 (some .int) :: wsL_law
abbrev wkJ9_min_7cf53 : List Cond := Cond.code yJ9_min_7cf53 cJ9_min_7cf53 2 (some .int) :: wsL_law
theorem gd_L_13 {c0 : Cond} : GoodIn (c0 :: wsL_law) (wsV RL 13 RX9 yX9_write wkX9_write) := gdV wr_141 wr_142 wr_143 wr_2 wr_144
theorem gd_L_17 {c0 : Cond} : GoodIn (c0 :: wsL_law) (wsV RL 17 RX10 yX10_write wkX10_write) := gdV wr_157 wr_158 wr_159 wr_5 wr_160
theorem gd_L_18 {c0 : Cond} : GoodIn (c0 :: wsL_law) (wsV RL 18 RX9 yX9_wipe wkX9_wipe) := gdV wr_166 wr_167 wr_168 wr_2 wr_169
theorem gd_L_22 {c0 : Cond} : GoodIn (c0 :: wsL_law) (wsV RL 22 RX10 yX10_wipe wkX10_wipe) := gdV wr_170 wr_171 wr_172 wr_5 wr_173
theorem gd_L_23 {c0 : Cond} : GoodIn (c0 :: wsL_law) (wsV RL 23 RX9 yX9_fault wkX9_fault) := gdV wr_174 wr_175 wr_176 wr_2 wr_177
theorem gd_L_26 {c0 : Cond} : GoodIn (c0 :: wsL_law) (wsV RL 26 RX10 yX10_fault wkX10_fault) := gdV wr_198 wr_199 wr_200 wr_5 wr_201
theorem gd_L_27 {c0 : Cond} : GoodIn (c0 :: wsL_law) (wsV RL 27 RX9 yX9_take wkX9_take) := gdV wr_215 wr_216 wr_217 wr_2 wr_218
theorem gd_L_30 {c0 : Cond} : GoodIn (c0 :: wsL_law) (wsV RL 30 RX10 yX10_take wkX10_take) := gdV wr_243 wr_244 wr_245 wr_5 wr_246
theorem gd_L_31 {c0 : Cond} : GoodIn (c0 :: wsL_law) (wsV RL 31 RX9 yX9_about wkX9_about) := gdV wr_248 wr_249 wr_250 wr_2 wr_251
theorem gd_L_34 {c0 : Cond} : GoodIn (c0 :: wsL_law) (wsV RL 34 RX10 yX10_about wkX10_about) := gdV wr_377 wr_378 wr_379 wr_5 wr_380
theorem gd_L_35 {c0 : Cond} : GoodIn (c0 :: wsL_law) (wsV RL 35 RX9 yX9_level wkX9_level) := gdV wr_474 wr_475 wr_476 wr_2 wr_477
theorem gd_L_38 {c0 : Cond} : GoodIn (c0 :: wsL_law) (wsV RL 38 RX10 yX10_level wkX10_level) := gdV wr_480 wr_481 wr_482 wr_5 wr_483
theorem gd_L_39 {c0 : Cond} : GoodIn (c0 :: wsL_law) (wsV RL 39 RX9 yX9_run wkX9_run) := gdV wr_484 wr_485 wr_486 wr_2 wr_487
theorem gd_L_42 {c0 : Cond} : GoodIn (c0 :: wsL_law) (wsV RL 42 RX10 yX10_run wkX10_run) := gdV wr_492 wr_493 wr_494 wr_5 wr_495
theorem gd_L_43 {c0 : Cond} : GoodIn (c0 :: wsL_law) (wsV RL 43 RX9 yX9_off wkX9_off) := gdV wr_496 wr_497 wr_498 wr_2 wr_499
theorem gd_L_46 {c0 : Cond} : GoodIn (c0 :: wsL_law) (wsV RL 46 RX10 yX10_off wkX10_off) := gdV wr_501 wr_502 wr_503 wr_5 wr_504
theorem gd_L_47 {c0 : Cond} : GoodIn (c0 :: wsL_law) (wsV RL 47 RX9 yX9_hear wkX9_hear) := gdV wr_505 wr_506 wr_507 wr_2 wr_508
theorem gd_L_51 {c0 : Cond} : GoodIn (c0 :: wsL_law) (wsV RL 51 RX10 yX10_hear wkX10_hear) := gdV wr_525 wr_526 wr_527 wr_5 wr_528
theorem gd_L_52 {c0 : Cond} : GoodIn (c0 :: wsL_law) (wsV RL 52 RX9 yX9_send wkX9_send) := gdV wr_538 wr_539 wr_540 wr_2 wr_541
theorem gd_L_55 {c0 : Cond} : GoodIn (c0 :: wsL_law) (wsV RL 55 RX10 yX10_send wkX10_send) := gdV wr_564 wr_565 wr_566 wr_5 wr_567
theorem gd_L_56 {c0 : Cond} : GoodIn (c0 :: wsL_law) (wsV RL 56 RX9 yX9_flip wkX9_flip) := gdV wr_576 wr_577 wr_578 wr_2 wr_579
theorem gd_L_59 {c0 : Cond} : GoodIn (c0 :: wsL_law) (wsV RL 59 RX10 yX10_flip wkX10_flip) := gdV wr_589 wr_590 wr_591 wr_5 wr_592
theorem gd_L_60 {c0 : Cond} : GoodIn (c0 :: wsL_law) (wsV RL 60 RX9 yX9_cut wkX9_cut) := gdV wr_593 wr_594 wr_595 wr_2 wr_596
theorem gd_L_63 {c0 : Cond} : GoodIn (c0 :: wsL_law) (wsV RL 63 RX10 yX10_cut wkX10_cut) := gdV wr_603 wr_604 wr_605 wr_5 wr_606
theorem gd_L_64 {c0 : Cond} : GoodIn (c0 :: wsL_law) (wsV RL 64 RX9 yX9_undo wkX9_undo) := gdV wr_610 wr_611 wr_612 wr_2 wr_613
theorem gd_L_67 {c0 : Cond} : GoodIn (c0 :: wsL_law) (wsV RL 67 RX10 yX10_undo wkX10_undo) := gdV wr_625 wr_626 wr_627 wr_5 wr_628
theorem gd_L_68 {c0 : Cond} : GoodIn (c0 :: wsL_law) (wsV RL 68 RX9 yX9_guess wkX9_guess) := gdV wr_629 wr_630 wr_631 wr_2 wr_632
theorem gd_L_71 {c0 : Cond} : GoodIn (c0 :: wsL_law) (wsV RL 71 RX10 yX10_guess wkX10_guess) := gdV wr_635 wr_636 wr_637 wr_5 wr_638
theorem gd_L_72 {c0 : Cond} : GoodIn (c0 :: wsL_law) (wsV RL 72 RX9 yX9_letter wkX9_letter) := gdV wr_640 wr_641 wr_642 wr_2 wr_643
theorem gd_L_76 {c0 : Cond} : GoodIn (c0 :: wsL_law) (wsV RL 76 RX10 yX10_letter wkX10_letter) := gdV wr_649 wr_650 wr_651 wr_5 wr_652
theorem gd_L_79 {c0 : Cond} : GoodIn (c0 :: wsL_law) (wsV RL 79 RX9 yX9_judge wkX9_judge) := gdV wr_653 wr_654 wr_655 wr_2 wr_656
theorem gd_L_83 {c0 : Cond} : GoodIn (c0 :: wsL_law) (wsV RL 83 RX10 yX10_judge wkX10_judge) := gdV wr_686 wr_687 wr_688 wr_5 wr_689
theorem gd_L_84 {c0 : Cond} : GoodIn (c0 :: wsL_law) (wsV RL 84 RX9 yX9_know wkX9_know) := gdV wr_702 wr_703 wr_704 wr_2 wr_705
theorem gd_L_87 {c0 : Cond} : GoodIn (c0 :: wsL_law) (wsV RL 87 RX10 yX10_know wkX10_know) := gdV wr_715 wr_716 wr_717 wr_5 wr_718
theorem gd_L_88 {c0 : Cond} : GoodIn (c0 :: wsL_law) (wsV RL 88 RX9 yX9_forget wkX9_forget) := gdV wr_719 wr_720 wr_721 wr_2 wr_722
theorem gd_L_91 {c0 : Cond} : GoodIn (c0 :: wsL_law) (wsV RL 91 RX10 yX10_forget wkX10_forget) := gdV wr_723 wr_724 wr_725 wr_5 wr_726
theorem gd_L_92 {c0 : Cond} : GoodIn (c0 :: wsL_law) (wsV RL 92 RX9 yX9_share wkX9_share) := gdV wr_727 wr_728 wr_729 wr_2 wr_730
theorem gd_L_96 {c0 : Cond} : GoodIn (c0 :: wsL_law) (wsV RL 96 RX10 yX10_share wkX10_share) := gdV wr_748 wr_749 wr_750 wr_5 wr_751
theorem gd_L_97 {c0 : Cond} : GoodIn (c0 :: wsL_law) (wsV RL 97 RX9 yX9_chance wkX9_chance) := gdV wr_761 wr_762 wr_763 wr_2 wr_764
theorem gd_L_101 {c0 : Cond} : GoodIn (c0 :: wsL_law) (wsV RL 101 RX10 yX10_chance wkX10_chance) := gdV wr_777 wr_778 wr_779 wr_5 wr_780
theorem gd_L_102 {c0 : Cond} : GoodIn (c0 :: wsL_law) (wsV RL 102 RX9 yX9_seed wkX9_seed) := gdV wr_790 wr_791 wr_792 wr_2 wr_793
theorem gd_L_106 {c0 : Cond} : GoodIn (c0 :: wsL_law) (wsV RL 106 RX10 yX10_seed wkX10_seed) := gdV wr_794 wr_795 wr_796 wr_5 wr_797
theorem gd_L_107 {c0 : Cond} : GoodIn (c0 :: wsL_law) (wsV RL 107 RX9 yX9_drawn wkX9_drawn) := gdV wr_799 wr_800 wr_801 wr_2 wr_802
theorem gd_L_110 {c0 : Cond} : GoodIn (c0 :: wsL_law) (wsV RL 110 RX10 yX10_drawn wkX10_drawn) := gdV wr_810 wr_811 wr_812 wr_5 wr_813
theorem gd_L_111 {c0 : Cond} : GoodIn (c0 :: wsL_law) (wsV RL 111 RX9 yX9_keep wkX9_keep) := gdV wr_817 wr_818 wr_819 wr_2 wr_820
theorem gd_L_114 {c0 : Cond} : GoodIn (c0 :: wsL_law) (wsV RL 114 RX10 yX10_keep wkX10_keep) := gdV wr_831 wr_832 wr_833 wr_5 wr_834
theorem gd_L_115 {c0 : Cond} : GoodIn (c0 :: wsL_law) (wsV RL 115 RX9 yX9_again wkX9_again) := gdV wr_835 wr_836 wr_837 wr_2 wr_838
theorem gd_L_118 {c0 : Cond} : GoodIn (c0 :: wsL_law) (wsV RL 118 RX10 yX10_again wkX10_again) := gdV wr_848 wr_849 wr_850 wr_5 wr_851
theorem gd_X0_29 {c0 : Cond} : GoodIn (c0 :: wsL_law) (wsV RX0 29 RX0 yX0_note wkX0_note) := gdV wr_521 wr_522 wr_523 wr_28 wr_524
theorem gd_X0_38 {c0 : Cond} : GoodIn (c0 :: wsL_law) (wsV RX0 38 RX8 yX8_levelAt wkX8_levelAt) := gdV wr_601 wr_291 wr_292 wr_19 wr_293
theorem gd_X0_42 {c0 : Cond} : GoodIn (c0 :: wsL_law) (wsV RX0 42 RX8 yX8_shorten wkX8_shorten) := gdV wr_618 wr_224 wr_225 wr_19 wr_226
theorem gd_X0_46 {c0 : Cond} : GoodIn (c0 :: wsL_law) (wsV RX0 46 RX8 yX8_turnOver wkX8_turnOver) := gdV wr_619 wr_581 wr_582 wr_19 wr_583
theorem gd_X0_49 {c0 : Cond} : GoodIn (c0 :: wsL_law) (wsV RX0 49 RX0 yX0_bringBack wkX0_bringBack) := gdV wr_620 wr_621 wr_622 wr_28 wr_623
theorem gd_X0_53 {c0 : Cond} : GoodIn (c0 :: wsL_law) (wsV RX0 53 RX8 yX8_extend wkX8_extend) := gdV wr_624 wr_232 wr_233 wr_19 wr_234
theorem gd_X1_27 {c0 : Cond} : GoodIn (c0 :: wsL_law) (wsV RX1 27 RX1 yX1_bitsOfFrame wkX1_bitsOfFrame) := gdV wr_550 wr_302 wr_303 wr_36 wr_304
theorem gd_X10_53 {c0 : Cond} : GoodIn (c0 :: wsL_law) (va_wsS RX10 53 yX10_in wkX10_in) := gdS wr_163 wr_164 wr_5 wr_165
theorem gd_X10_77 {c0 : Cond} : GoodIn (c0 :: wsL_law) (wsV RX10 77 RX10 yX10_takeLetter wkX10_takeLetter) := gdV wr_208 wr_209 wr_210 wr_5 wr_211
theorem gd_X10_81 {c0 : Cond} : GoodIn (c0 :: wsL_law) (wsV RX10 81 RX10 yX10_readText wkX10_readText) := gdV wr_202 wr_203 wr_204 wr_5 wr_205
theorem gd_X10_114 {c0 : Cond} : GoodIn (c0 :: wsL_law) (wsV RX10 114 RX10 yX10_frameBits wkX10_frameBits) := gdV wr_427 wr_428 wr_429 wr_5 wr_430
theorem gd_X10_117 {c0 : Cond} : GoodIn (c0 :: wsL_law) (va_wsS RX10 117 yX10_isTick wkX10_isTick) := gdS wr_431 wr_432 wr_5 wr_433
theorem gd_X10_121 {c0 : Cond} : GoodIn (c0 :: wsL_law) (wsV RX10 121 RX10 yX10_failsBy wkX10_failsBy) := gdV wr_434 wr_435 wr_436 wr_5 wr_437
theorem gd_X10_134 {c0 : Cond} : GoodIn (c0 :: wsL_law) (wsV RX10 134 RX10 yX10_frameAt wkX10_frameAt) := gdV wr_423 wr_424 wr_425 wr_5 wr_426
theorem gd_X10_141 {c0 : Cond} : GoodIn (c0 :: wsL_law) (wsV RX10 141 RX10 yX10_layDeep wkX10_layDeep) := gdV wr_397 wr_398 wr_399 wr_5 wr_400
theorem gd_X10_148 {c0 : Cond} : GoodIn (c0 :: wsL_law) (va_wsS RX10 148 yX10_codeOf wkX10_codeOf) := gdS wr_401 wr_402 wr_5 wr_403
theorem gd_X10_152 {c0 : Cond} : GoodIn (c0 :: wsL_law) (wsV RX10 152 RX10 yX10_layCode wkX10_layCode) := gdV wr_404 wr_405 wr_406 wr_5 wr_407
theorem gd_X10_155 {c0 : Cond} : GoodIn (c0 :: wsL_law) (wsV RX10 155 RX10 yX10_read wkX10_read) := gdV wr_417 wr_418 wr_419 wr_5 wr_420
theorem gd_X10_158 {c0 : Cond} : GoodIn (c0 :: wsL_law) (wsV RX10 158 RX10 yX10_fits wkX10_fits) := gdV wr_438 wr_439 wr_440 wr_5 wr_441
theorem gd_X10_165 {c0 : Cond} : GoodIn (c0 :: wsL_law) (wsV RX10 165 RX10 yX10_best wkX10_best) := gdV wr_390 wr_391 wr_392 wr_5 wr_393
theorem gd_X10_169 {c0 : Cond} : GoodIn (c0 :: wsL_law) (wsV RX10 169 RX10 yX10_isAsBest wkX10_isAsBest) := gdV wr_447 wr_448 wr_449 wr_5 wr_450
theorem gd_X10_172 {c0 : Cond} : GoodIn (c0 :: wsL_law) (va_wsS RX10 172 yX10_edges wkX10_edges) := gdS wr_382 wr_383 wr_5 wr_384
theorem gd_X10_175 {c0 : Cond} : GoodIn (c0 :: wsL_law) (wsV RX10 175 RX10 yX10_runOf wkX10_runOf) := gdV wr_459 wr_460 wr_461 wr_5 wr_462
theorem gd_X10_178 {c0 : Cond} : GoodIn (c0 :: wsL_law) (va_wsS RX10 178 yX10_offOf wkX10_offOf) := gdS wr_463 wr_464 wr_5 wr_465
theorem gd_X10_182 {c0 : Cond} : GoodIn (c0 :: wsL_law) (wsV RX10 182 RX10 yX10_offBy wkX10_offBy) := gdV wr_455 wr_456 wr_457 wr_5 wr_458
theorem gd_X10_188 {c0 : Cond} : GoodIn (c0 :: wsL_law) (wsV RX10 188 RX10 yX10_isSo wkX10_isSo) := gdV wr_470 wr_471 wr_472 wr_5 wr_473
theorem gd_X10_191 {c0 : Cond} : GoodIn (c0 :: wsL_law) (wsV RX10 191 RX10 yX10_fit wkX10_fit) := gdV wr_385 wr_386 wr_387 wr_5 wr_388
theorem gd_X10_194 {c0 : Cond} : GoodIn (c0 :: wsL_law) (wsV RX10 194 RX10 yX10_alikes wkX10_alikes) := gdV wr_442 wr_443 wr_444 wr_5 wr_445
theorem gd_X10_197 {c0 : Cond} : GoodIn (c0 :: wsL_law) (wsV RX10 197 RX10 yX10_width wkX10_width) := gdV wr_451 wr_452 wr_453 wr_5 wr_454
theorem gd_X10_200 {c0 : Cond} : GoodIn (c0 :: wsL_law) (wsV RX10 200 RX10 yX10_left wkX10_left) := gdV wr_466 wr_467 wr_468 wr_5 wr_469
theorem gd_X10_209 {c0 : Cond} : GoodIn (c0 :: wsL_law) (wsV RX10 209 RX10 yX10_note wkX10_note) := gdV wr_530 wr_531 wr_532 wr_5 wr_533
theorem gd_X10_212 {c0 : Cond} : GoodIn (c0 :: wsL_law) (va_wsS RX10 212 yX10_hearOn wkX10_hearOn) := gdS wr_535 wr_536 wr_5 wr_537
theorem gd_X10_216 {c0 : Cond} : GoodIn (c0 :: wsL_law) (wsV RX10 216 RX10 yX10_hasRoom wkX10_hasRoom) := gdV wr_568 wr_569 wr_570 wr_5 wr_571
theorem gd_X10_220 {c0 : Cond} : GoodIn (c0 :: wsL_law) (wsV RX10 220 RX10 yX10_sendOn wkX10_sendOn) := gdV wr_572 wr_573 wr_574 wr_5 wr_575
theorem gd_X10_224 {c0 : Cond} : GoodIn (c0 :: wsL_law) (va_wsS RX10 224 yX10_cutOn wkX10_cutOn) := gdS wr_607 wr_608 wr_5 wr_609
theorem gd_X10_233 {c0 : Cond} : GoodIn (c0 :: wsL_law) (va_wsS RX10 233 yX10_tenThousands wkX10_tenThousands) := gdS wr_692 wr_693 wr_5 wr_694
theorem gd_X10_237 {c0 : Cond} : GoodIn (c0 :: wsL_law) (va_wsS RX10 237 yX10_copy wkX10_copy) := gdS wr_695 wr_696 wr_5 wr_697
theorem gd_X10_241 {c0 : Cond} : GoodIn (c0 :: wsL_law) (wsV RX10 241 RX10 yX10_judged wkX10_judged) := gdV wr_698 wr_699 wr_700 wr_5 wr_701
theorem gd_X10_245 {c0 : Cond} : GoodIn (c0 :: wsL_law) (va_wsS RX10 245 yX10_ones wkX10_ones) := gdS wr_752 wr_753 wr_5 wr_754
theorem gd_X10_248 {c0 : Cond} : GoodIn (c0 :: wsL_law) (va_wsS RX10 248 yX10_factorial wkX10_factorial) := gdS wr_755 wr_756 wr_5 wr_757
theorem gd_X10_251 {c0 : Cond} : GoodIn (c0 :: wsL_law) (va_wsS RX10 251 yX10_fraction wkX10_fraction) := gdS wr_758 wr_759 wr_5 wr_760
theorem gd_X10_259 {c0 : Cond} : GoodIn (c0 :: wsL_law) (wsV RX10 259 RX10 yX10_flipSome wkX10_flipSome) := gdV wr_783 wr_784 wr_785 wr_5 wr_786
theorem gd_X10_263 {c0 : Cond} : GoodIn (c0 :: wsL_law) (va_wsS RX10 263 yX10_power wkX10_power) := gdS wr_787 wr_788 wr_5 wr_789
theorem gd_X2_22 {c0 : Cond} : GoodIn (c0 :: wsL_law) (wsV RX2 22 RX2 yX2_isFull wkX2_isFull) := gdV wr_714 wr_707 wr_708 wr_32 wr_709
theorem gd_X2_26 {c0 : Cond} : GoodIn (c0 :: wsL_law) (wsV RX2 26 RX4 yX4_letterAt wkX4_letterAt) := gdV wr_373 wr_374 wr_375 wr_40 wr_376
theorem gd_X3_41 {c0 : Cond} : GoodIn (c0 :: wsL_law) (wsV RX3 41 RX4 yX4_listenTo wkX4_listenTo) := gdV wr_273 wr_253 wr_254 wr_40 wr_255
theorem gd_X3_47 {c0 : Cond} : GoodIn (c0 :: wsL_law) (wsV RX3 47 RX1 yX1_become wkX1_become) := gdV wr_274 wr_275 wr_276 wr_36 wr_277
theorem gd_X3_51 {c0 : Cond} : GoodIn (c0 :: wsL_law) (wsV RX3 51 RX4 yX4_read wkX4_read) := gdV wr_278 wr_279 wr_280 wr_40 wr_281
theorem gd_X3_55 {c0 : Cond} : GoodIn (c0 :: wsL_law) (wsV RX3 55 RX4 yX4_fits wkX4_fits) := gdV wr_320 wr_321 wr_322 wr_40 wr_323
theorem gd_X3_58 {c0 : Cond} : GoodIn (c0 :: wsL_law) (wsV RX3 58 RX3 yX3_isBetter wkX3_isBetter) := gdV wr_324 wr_325 wr_326 wr_44 wr_327
theorem gd_X3_62 {c0 : Cond} : GoodIn (c0 :: wsL_law) (wsV RX3 62 RX3 yX3_becomeBest wkX3_becomeBest) := gdV wr_328 wr_329 wr_330 wr_44 wr_331
theorem gd_X3_66 {c0 : Cond} : GoodIn (c0 :: wsL_law) (wsV RX3 66 RX3 yX3_readsLikeBest wkX3_readsLikeBest) := gdV wr_344 wr_345 wr_346 wr_44 wr_347
theorem gd_X3_69 {c0 : Cond} : GoodIn (c0 :: wsL_law) (wsV RX3 69 RX2 yX2_refuters wkX2_refuters) := gdV wr_369 wr_370 wr_371 wr_32 wr_372
theorem gd_X3_75 {c0 : Cond} : GoodIn (c0 :: wsL_law) (wsV RX3 75 RX1 yX1_code wkX1_code) := gdV wr_336 wr_337 wr_338 wr_36 wr_339
theorem gd_X3_79 {c0 : Cond} : GoodIn (c0 :: wsL_law) (va_wsS RX3 79 yJ6_bitCount_0f7a4 wkJ6_bitCount_0f7a4) := gdS wr_735 wr_736 wr_737 wr_738
theorem gd_X4_45 {c0 : Cond} : GoodIn (c0 :: wsL_law) (wsV RX4 45 RX5 yX5_mark wkX5_mark) := gdV wr_256 wr_257 wr_258 wr_94 wr_259
theorem gd_X4_54 {c0 : Cond} : GoodIn (c0 :: wsL_law) (wsV RX4 54 RX4 yX4_nextStart wkX4_nextStart) := gdV wr_282 wr_283 wr_284 wr_40 wr_285
theorem gd_X4_58 {c0 : Cond} : GoodIn (c0 :: wsL_law) (wsV RX4 58 RX4 yX4_readFrame wkX4_readFrame) := gdV wr_294 wr_295 wr_296 wr_40 wr_297
theorem gd_X4_62 {c0 : Cond} : GoodIn (c0 :: wsL_law) (wsV RX4 62 RX1 yX1_bitsOfFrame wkX1_bitsOfFrame) := gdV wr_301 wr_302 wr_303 wr_36 wr_304
theorem gd_X4_66 {c0 : Cond} : GoodIn (c0 :: wsL_law) (wsV RX4 66 RX1 yX1_tickOfBit wkX1_tickOfBit) := gdV wr_305 wr_306 wr_307 wr_36 wr_308
theorem gd_X4_69 {c0 : Cond} : GoodIn (c0 :: wsL_law) (wsV RX4 69 RX5 yX5_nextEdge wkX5_nextEdge) := gdV wr_286 wr_287 wr_288 wr_94 wr_289
theorem gd_X4_73 {c0 : Cond} : GoodIn (c0 :: wsL_law) (wsV RX4 73 RX8 yX8_levelAt wkX8_levelAt) := gdV wr_290 wr_291 wr_292 wr_19 wr_293
theorem gd_X4_76 {c0 : Cond} : GoodIn (c0 :: wsL_law) (wsV RX4 76 RX8 yX8_has wkX8_has) := gdV wr_309 wr_310 wr_311 wr_19 wr_312
theorem gd_X4_80 {c0 : Cond} : GoodIn (c0 :: wsL_law) (va_wsS RX4 80 yX4_failureOfBit wkX4_failureOfBit) := gdS wr_313 wr_314 wr_40 wr_315
theorem gd_X4_87 {c0 : Cond} : GoodIn (c0 :: wsL_law) (wsV RX4 87 RX5 yX5_inset wkX5_inset) := gdV wr_316 wr_317 wr_318 wr_94 wr_319
theorem gd_X5_28 {c0 : Cond} : GoodIn (c0 :: wsL_law) (wsV RX5 28 RX8 yX8_isEdge wkX8_isEdge) := gdV wr_260 wr_261 wr_262 wr_19 wr_263
theorem gd_X5_38 {c0 : Cond} : GoodIn (c0 :: wsL_law) (wsV RX5 38 RX5 yX5_nextEdge wkX5_nextEdge) := gdV wr_356 wr_287 wr_288 wr_94 wr_289
theorem gd_X5_42 {c0 : Cond} : GoodIn (c0 :: wsL_law) (wsV RX5 42 RX5 yX5_lengthFrom wkX5_lengthFrom) := gdV wr_357 wr_358 wr_359 wr_94 wr_360
theorem gd_X5_45 {c0 : Cond} : GoodIn (c0 :: wsL_law) (va_wsS RX5 45 yX5_offOfRun wkX5_offOfRun) := gdS wr_361 wr_362 wr_94 wr_363
theorem gd_X5_48 {c0 : Cond} : GoodIn (c0 :: wsL_law) (wsV RX5 48 RX5 yX5_offBy wkX5_offBy) := gdV wr_352 wr_353 wr_354 wr_94 wr_355
theorem gd_X6_22 {c0 : Cond} : GoodIn (c0 :: wsL_law) (wsV RX6 22 RX6 yX6_has wkX6_has) := gdV wr_829 wr_822 wr_823 wr_24 wr_824
theorem gd_X6_26 {c0 : Cond} : GoodIn (c0 :: wsL_law) (wsV RX6 26 RX8 yX8_copy wkX8_copy) := gdV wr_830 wr_662 wr_663 wr_19 wr_664
theorem gd_X6_30 {c0 : Cond} : GoodIn (c0 :: wsL_law) (wsV RX6 30 RX6 yX6_isUsed wkX6_isUsed) := gdV wr_847 wr_840 wr_841 wr_24 wr_842
theorem gd_X7_19 {c0 : Cond} : GoodIn (c0 :: wsL_law) (wsV RX7 19 RX7 yX7_isFull wkX7_isFull) := gdV wr_156 wr_149 wr_150 wr_15 wr_151
theorem gd_X7_23 {c0 : Cond} : GoodIn (c0 :: wsL_law) (wsV RX7 23 RX7 yX7_signAt wkX7_signAt) := gdV wr_182 wr_183 wr_184 wr_15 wr_185
theorem gd_X7_27 {c0 : Cond} : GoodIn (c0 :: wsL_law) (wsV RX7 27 RX7 yX7_faultOfRun wkX7_faultOfRun) := gdV wr_186 wr_187 wr_188 wr_15 wr_189
theorem gd_X7_31 {c0 : Cond} : GoodIn (c0 :: wsL_law) (wsV RX7 31 RX7 yX7_ticksToldAt wkX7_ticksToldAt) := gdV wr_194 wr_195 wr_196 wr_15 wr_197
theorem gd_X7_34 {c0 : Cond} : GoodIn (c0 :: wsL_law) (wsV RX7 34 RX8 yX8_shorten wkX8_shorten) := gdV wr_223 wr_224 wr_225 wr_19 wr_226
theorem gd_X7_40 {c0 : Cond} : GoodIn (c0 :: wsL_law) (wsV RX7 40 RX8 yX8_extend wkX8_extend) := gdV wr_231 wr_232 wr_233 wr_19 wr_234
theorem gd_X7_44 {c0 : Cond} : GoodIn (c0 :: wsL_law) (wsV RX7 44 RX7 yX7_figureAt wkX7_figureAt) := gdV wr_190 wr_191 wr_192 wr_15 wr_193
theorem gd_X8_27 {c0 : Cond} : GoodIn (c0 :: wsL_law) (wsV RX8 27 RX8 yX8_extend wkX8_extend) := gdV wr_555 wr_232 wr_233 wr_19 wr_234
theorem gd_X8_34 {c0 : Cond} : GoodIn (c0 :: wsL_law) (wsV RX8 34 RX1 yX1_levelOf wkX1_levelOf) := gdV wr_556 wr_557 wr_558 wr_36 wr_559
theorem gd_X8_41 {c0 : Cond} : GoodIn (c0 :: wsL_law) (wsV RX8 41 RX1 yX1_parityFor wkX1_parityFor) := gdV wr_560 wr_561 wr_562 wr_36 wr_563
theorem gd_X8_47 {c0 : Cond} : GoodIn (c0 :: wsL_law) (wsV RX8 47 RX8 yX8_has wkX8_has) := gdV wr_584 wr_310 wr_311 wr_19 wr_312
theorem gd_X9_76 {c0 : Cond} : GoodIn (c0 :: wsL_law) (va_wsS RX9 76 yX9_isLetter wkX9_isLetter) := gdS wr_145 wr_146 wr_2 wr_147
theorem gd_X9_80 {c0 : Cond} : GoodIn (c0 :: wsL_law) (wsV RX9 80 RX7 yX7_isFull wkX7_isFull) := gdV wr_148 wr_149 wr_150 wr_15 wr_151
theorem gd_X9_84 {c0 : Cond} : GoodIn (c0 :: wsL_law) (wsV RX9 84 RX7 yX7_add wkX7_add) := gdV wr_152 wr_153 wr_154 wr_15 wr_155
theorem gd_X9_92 {c0 : Cond} : GoodIn (c0 :: wsL_law) (wsV RX9 92 RX7 yX7_firstFault wkX7_firstFault) := gdV wr_178 wr_179 wr_180 wr_15 wr_181
theorem gd_X9_96 {c0 : Cond} : GoodIn (c0 :: wsL_law) (wsV RX9 96 RX7 yX7_layOn wkX7_layOn) := gdV wr_219 wr_220 wr_221 wr_15 wr_222
theorem gd_X9_100 {c0 : Cond} : GoodIn (c0 :: wsL_law) (wsV RX9 100 RX0 yX0_clear wkX0_clear) := gdV wr_235 wr_236 wr_237 wr_28 wr_238
theorem gd_X9_103 {c0 : Cond} : GoodIn (c0 :: wsL_law) (wsV RX9 103 RX6 yX6_clear wkX6_clear) := gdV wr_239 wr_240 wr_241 wr_24 wr_242
theorem gd_X9_107 {c0 : Cond} : GoodIn (c0 :: wsL_law) (wsV RX9 107 RX4 yX4_listenTo wkX4_listenTo) := gdV wr_252 wr_253 wr_254 wr_40 wr_255
theorem gd_X9_114 {c0 : Cond} : GoodIn (c0 :: wsL_law) (wsV RX9 114 RX5 yX5_edges wkX5_edges) := gdV wr_264 wr_265 wr_266 wr_94 wr_267
theorem gd_X9_119 {c0 : Cond} : GoodIn (c0 :: wsL_law) (wsV RX9 119 RX3 yX3_rank wkX3_rank) := gdV wr_269 wr_270 wr_271 wr_44 wr_272
theorem gd_X9_129 {c0 : Cond} : GoodIn (c0 :: wsL_law) (wsV RX9 129 RX3 yX3_countAlike wkX3_countAlike) := gdV wr_340 wr_341 wr_342 wr_44 wr_343
theorem gd_X9_133 {c0 : Cond} : GoodIn (c0 :: wsL_law) (wsV RX9 133 RX5 yX5_width wkX5_width) := gdV wr_348 wr_349 wr_350 wr_94 wr_351
theorem gd_X9_136 {c0 : Cond} : GoodIn (c0 :: wsL_law) (wsV RX9 136 RX3 yX3_sift wkX3_sift) := gdV wr_365 wr_366 wr_367 wr_44 wr_368
theorem gd_X9_150 {c0 : Cond} : GoodIn (c0 :: wsL_law) (wsV RX9 150 RX8 yX8_has wkX8_has) := gdV wr_478 wr_310 wr_311 wr_19 wr_312
theorem gd_X9_153 {c0 : Cond} : GoodIn (c0 :: wsL_law) (wsV RX9 153 RX8 yX8_levelAt wkX8_levelAt) := gdV wr_479 wr_291 wr_292 wr_19 wr_293
theorem gd_X9_157 {c0 : Cond} : GoodIn (c0 :: wsL_law) (wsV RX9 157 RX5 yX5_ticksOfRun wkX5_ticksOfRun) := gdV wr_488 wr_489 wr_490 wr_94 wr_491
theorem gd_X9_160 {c0 : Cond} : GoodIn (c0 :: wsL_law) (wsV RX9 160 RX5 yX5_offBy wkX5_offBy) := gdV wr_500 wr_353 wr_354 wr_94 wr_355
theorem gd_X9_163 {c0 : Cond} : GoodIn (c0 :: wsL_law) (va_wsS RX9 163 yX9_isLevel wkX9_isLevel) := gdS wr_509 wr_510 wr_2 wr_511
theorem gd_X9_166 {c0 : Cond} : GoodIn (c0 :: wsL_law) (wsV RX9 166 RX8 yX8_hasPlaceFor wkX8_hasPlaceFor) := gdV wr_512 wr_513 wr_514 wr_19 wr_515
theorem gd_X9_169 {c0 : Cond} : GoodIn (c0 :: wsL_law) (wsV RX9 169 RX8 yX8_extend wkX8_extend) := gdV wr_516 wr_232 wr_233 wr_19 wr_234
theorem gd_X9_173 {c0 : Cond} : GoodIn (c0 :: wsL_law) (wsV RX9 173 RX0 yX0_noteGrown wkX0_noteGrown) := gdV wr_517 wr_518 wr_519 wr_28 wr_520
theorem gd_X9_176 {c0 : Cond} : GoodIn (c0 :: wsL_law) (wsV RX9 176 RX1 yX1_isToldBy wkX1_isToldBy) := gdV wr_542 wr_543 wr_544 wr_36 wr_545
theorem gd_X9_179 {c0 : Cond} : GoodIn (c0 :: wsL_law) (wsV RX9 179 RX1 yX1_ticksOfLetter wkX1_ticksOfLetter) := gdV wr_546 wr_547 wr_548 wr_36 wr_549
theorem gd_X9_182 {c0 : Cond} : GoodIn (c0 :: wsL_law) (wsV RX9 182 RX8 yX8_extendByLetter wkX8_extendByLetter) := gdV wr_551 wr_552 wr_553 wr_19 wr_554
theorem gd_X9_186 {c0 : Cond} : GoodIn (c0 :: wsL_law) (wsV RX9 186 RX8 yX8_turnOver wkX8_turnOver) := gdV wr_580 wr_581 wr_582 wr_19 wr_583
theorem gd_X9_189 {c0 : Cond} : GoodIn (c0 :: wsL_law) (wsV RX9 189 RX0 yX0_noteFlipped wkX0_noteFlipped) := gdV wr_585 wr_586 wr_587 wr_28 wr_588
theorem gd_X9_192 {c0 : Cond} : GoodIn (c0 :: wsL_law) (wsV RX9 192 RX0 yX0_noteCut wkX0_noteCut) := gdV wr_597 wr_598 wr_599 wr_28 wr_600
theorem gd_X9_196 {c0 : Cond} : GoodIn (c0 :: wsL_law) (wsV RX9 196 RX8 yX8_shorten wkX8_shorten) := gdV wr_602 wr_224 wr_225 wr_19 wr_226
theorem gd_X9_199 {c0 : Cond} : GoodIn (c0 :: wsL_law) (wsV RX9 199 RX0 yX0_takeBackLast wkX0_takeBackLast) := gdV wr_614 wr_615 wr_616 wr_28 wr_617
theorem gd_X9_202 {c0 : Cond} : GoodIn (c0 :: wsL_law) (wsV RX9 202 RX4 yX4_read wkX4_read) := gdV wr_633 wr_279 wr_280 wr_40 wr_281
theorem gd_X9_209 {c0 : Cond} : GoodIn (c0 :: wsL_law) (wsV RX9 209 RX4 yX4_fits wkX4_fits) := gdV wr_634 wr_321 wr_322 wr_40 wr_323
theorem gd_X9_220 {c0 : Cond} : GoodIn (c0 :: wsL_law) (wsV RX9 220 RX4 yX4_startAt wkX4_startAt) := gdV wr_644 wr_645 wr_646 wr_40 wr_647
theorem gd_X9_223 {c0 : Cond} : GoodIn (c0 :: wsL_law) (wsV RX9 223 RX4 yX4_letterAt wkX4_letterAt) := gdV wr_648 wr_374 wr_375 wr_40 wr_376
theorem gd_X9_226 {c0 : Cond} : GoodIn (c0 :: wsL_law) (va_wsS RX9 226 yX9_withoutLastDoings wkX9_withoutLastDoings) := gdS wr_658 wr_659 wr_2 wr_660
theorem gd_X9_230 {c0 : Cond} : GoodIn (c0 :: wsL_law) (wsV RX9 230 RX8 yX8_copy wkX8_copy) := gdV wr_661 wr_662 wr_663 wr_19 wr_664
theorem gd_X9_235 {c0 : Cond} : GoodIn (c0 :: wsL_law) (wsV RX9 235 RX9 yX9_isSo wkX9_isSo) := gdV wr_666 wr_667 wr_668 wr_2 wr_669
theorem gd_X9_239 {c0 : Cond} : GoodIn (c0 :: wsL_law) (wsV RX9 239 RX2 yX2_isFull wkX2_isFull) := gdV wr_706 wr_707 wr_708 wr_32 wr_709
theorem gd_X9_240 {c0 : Cond} : GoodIn (c0 :: wsL_law) (wsV RX9 240 RX2 yX2_add wkX2_add) := gdV wr_710 wr_711 wr_712 wr_32 wr_713
theorem gd_X9_242 {c0 : Cond} : GoodIn (c0 :: wsL_law) (wsV RX9 242 RX3 yX3_sixtiethsRuledOut wkX3_sixtiethsRuledOut) := gdV wr_731 wr_732 wr_733 wr_44 wr_734
theorem gd_X9_246 {c0 : Cond} : GoodIn (c0 :: wsL_law) (va_wsS RX9 246 yX9_inLeastTerms wkX9_inLeastTerms) := gdS wr_742 wr_743 wr_2 wr_744
theorem gd_X9_250 {c0 : Cond} : GoodIn (c0 :: wsL_law) (wsV RX9 250 RX9 yX9_findShakyTicks wkX9_findShakyTicks) := gdV wr_765 wr_766 wr_767 wr_2 wr_768
theorem gd_X9_253 {c0 : Cond} : GoodIn (c0 :: wsL_law) (wsV RX9 253 RX9 yX9_fitsWithFlips wkX9_fitsWithFlips) := gdV wr_770 wr_771 wr_772 wr_2 wr_773
theorem gd_X9_256 {c0 : Cond} : GoodIn (c0 :: wsL_law) (va_wsS RX9 256 yX9_weightOf wkX9_weightOf) := gdS wr_774 wr_775 wr_2 wr_776
theorem gd_X9_264 {c0 : Cond} : GoodIn (c0 :: wsL_law) (wsV RX9 264 RX9 yX9_doDrawn wkX9_doDrawn) := gdV wr_805 wr_806 wr_807 wr_2 wr_808
theorem gd_X9_267 {c0 : Cond} : GoodIn (c0 :: wsL_law) (wsV RX9 267 RX6 yX6_has wkX6_has) := gdV wr_821 wr_822 wr_823 wr_24 wr_824
theorem gd_X9_268 {c0 : Cond} : GoodIn (c0 :: wsL_law) (wsV RX9 268 RX6 yX6_store wkX6_store) := gdV wr_825 wr_826 wr_827 wr_24 wr_828
theorem gd_X9_272 {c0 : Cond} : GoodIn (c0 :: wsL_law) (wsV RX9 272 RX6 yX6_isUsed wkX6_isUsed) := gdV wr_839 wr_840 wr_841 wr_24 wr_842
theorem gd_X9_275 {c0 : Cond} : GoodIn (c0 :: wsL_law) (wsV RX9 275 RX6 yX6_restore wkX6_restore) := gdV wr_843 wr_844 wr_845 wr_24 wr_846
theorem gd_X9_278 {c0 : Cond} : GoodIn (c0 :: wsL_law) (wsV RX9 278 RX9 yX9_couldHear wkX9_couldHear) := gdV wr_670 wr_671 wr_672 wr_2 wr_673
theorem gd_X9_281 {c0 : Cond} : GoodIn (c0 :: wsL_law) (wsV RX9 281 RX9 yX9_couldFlip wkX9_couldFlip) := gdV wr_674 wr_675 wr_676 wr_2 wr_677
theorem gd_X9_284 {c0 : Cond} : GoodIn (c0 :: wsL_law) (wsV RX9 284 RX9 yX9_couldCut wkX9_couldCut) := gdV wr_678 wr_679 wr_680 wr_2 wr_681
theorem gd_X9_287 {c0 : Cond} : GoodIn (c0 :: wsL_law) (wsV RX9 287 RX9 yX9_isBestBit wkX9_isBestBit) := gdV wr_682 wr_683 wr_684 wr_2 wr_685
theorem gd_X9_293 {c0 : Cond} : GoodIn (c0 :: wsL_law) (wsV RX9 293 RX8 yX8_isEdge wkX8_isEdge) := gdV wr_769 wr_261 wr_262 wr_19 wr_263
theorem gd_X9_297 {c0 : Cond} : GoodIn (c0 :: wsL_law) (va_wsS RX9 297 yX9_greatestCommonDivisor wkX9_greatestCommonDivisor) := gdS wr_745 wr_746 wr_2 wr_747
