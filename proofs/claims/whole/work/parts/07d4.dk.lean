theorem zdk_4 : (List.range' 192 17).all zdk = true := by decide +kernel
