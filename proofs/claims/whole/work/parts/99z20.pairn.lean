/-! PAIRS WITHOUT ALIASES follow from what is left. -/
theorem pairn_of (R : RESTf) : PAIRn := pairs_of (rest_of (restm_of (restb_of (restc_of (restd_of (reste_of R))))))
