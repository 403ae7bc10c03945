/-! what a throw asks, for each kind (gen/mkw.py) -/
theorem th_ia : ab_thr "FacetSearch" 68 "java/lang/IllegalArgumentException" := by unfold ab_thr; decide +kernel
theorem th_is : ab_thr "FacetSearch" 83 "java/lang/IllegalStateException" := by unfold ab_thr; decide +kernel
theorem th_ns : ab_thr "FacetSearch" 191 "java/util/NoSuchElementException" := by unfold ab_thr; decide +kernel
