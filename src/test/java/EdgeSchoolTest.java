/** Terms I and promise 4: each sentence that names a bound of a school's text, and each of its faults. */
public final class EdgeSchoolTest {
    private static final String FP = "fact f worth 1;person p calm 1;";
    private static final String PQR = "person p calm 1;person q calm 1;person r calm 1;";
    private static final String[] OWN = {"fact", "worth", "person", "calm", "knows", "errs", "taught", "by", "takes",
        "garble", "sits", "pass", "tries", "ill", "right", "wrong", "year", "class", "mcalm", "left", "marks",
        "number", "or", "and", "not", "all", "min", "max"};

    private static void fine(String text, int statements) {
        Check.schoolFine(text, statements);
    }

    private static void fault(String text, int kind, int place) {
        Check.schoolFault(text, kind, place);
    }

    /** A fault so many bytes behind what is fine. */
    private static void behind(String text, String bad, int kind, int more) {
        fault(text + bad, kind, text.length() + more);
    }

    private static String facts(int count) {
        StringBuilder s = new StringBuilder();
        for (int k = 0; k < count; k++) {
            s.append("fact f").append((char) ('a' + k)).append(" worth ").append(k % 9 + 1).append(";");
        }
        return s.toString();
    }

    private static String people(int count) {
        StringBuilder s = new StringBuilder();
        for (int k = 0; k < count; k++) {
            s.append("person p").append((char) ('a' + k)).append(" calm ").append(k * 14).append(";");
        }
        return s.toString();
    }

    // ---- statements

    private static void statements() {
        Check.sentence("A SCHOOL is a text: { STATEMENT ; } (80 at most)");
        fine("", 0);
        fine("\n", 0);
        fine("pass 1;", 1);
        fine("pass 1;".repeat(79), 79);
        fine("pass 1;".repeat(80), 80);
        fine("pass 1;".repeat(80) + " \n ", 80);
        fine("pass 1;".repeat(79) + " \n pass 1\n;", 80);
        fault(";", 1, 0);
        behind("pass 1;", ";", 1, 0);
        Check.sentence("an 81st STATEMENT (whatever stands there), at its first byte");
        String[] whatever = {"pass 1;", "pass", "p", ";", "@", "7", "12345", "abcdefg", "(", "fact f worth 0;",
            "" + (char) 0, "" + (char) 255};
        for (String stands : whatever) {
            behind("pass 1;".repeat(80), stands, 5, 0);
            behind("pass 1;".repeat(80), "\n " + stands, 5, 2);
        }
    }

    private static void numberOf(String ahead, String behind, int least, int most) {
        for (int n = 0; n <= 1000; n++) {
            if (n >= least && n <= most) {
                fine(ahead + n + behind, 1);
            } else {
                fault(ahead + n + behind, 2, ahead.length());
            }
        }
        fault(ahead + "9999" + behind, 2, ahead.length());
        fine(ahead + "000" + most % 10 + behind, 1);
        fault(ahead + behind, 1, ahead.length());
        fault(ahead + "-1" + behind, 1, ahead.length());
        fault(ahead + "x" + behind, 1, ahead.length());
    }

    private static void facts() {
        Check.sentence("fact NAME worth N (1 .. 9; 8 FACTS)");
        numberOf("fact f worth ", ";", 1, 9);
        fine(facts(8), 8);
        PupilsPupil x = Check.schooled(facts(8));
        for (int k = 0; k < 8; k++) {
            Check.due("worth", x.fact(k, 0), k + 1);
        }
        Check.due("FACTS", x.has(0), 8);
        behind(facts(8), "fact", 5, 0);
        behind(facts(8), "  fact fa worth 0;", 5, 2);
        behind(facts(8) + people(8), "fact fz worth 1;", 5, 0);
        fine(facts(8) + people(8), 16);
    }

    private static void people() {
        Check.sentence("person NAME calm N (0 .. 99; 8 PEOPLE)");
        numberOf("person p calm ", ";", 0, 99);
        fine(people(8), 8);
        PupilsPupil x = Check.schooled(people(8));
        for (int k = 0; k < 8; k++) {
            Check.due("calm", x.person(k, 0), 14 * k);
        }
        Check.due("PEOPLE", x.has(1), 8);
        behind(people(8), "person", 5, 0);
        behind(people(8), "\nperson pa calm 100;", 5, 1);
        behind(people(8) + facts(8), "person pz calm 1;", 5, 0);
    }

    private static void beliefs() {
        Check.sentence("knows NAME NAME, errs NAME NAME (a PERSON, a FACT: is RIGHT of it, WRONG of it; "
                + "not told of these two already, in either way)");
        for (String first : new String[] {"knows", "errs"}) {
            for (String second : new String[] {"knows", "errs"}) {
                behind(FP, first + " p f;" + second + " p f;", 3, first.length() + second.length() + 8);
                fine(FP + "person q calm 1;" + first + " p f;" + second + " q f;", 5);
                fine(FP + "fact g worth 1;" + first + " p f;" + second + " p g;", 5);
            }
            int at = first.length() + 1;
            behind(FP, first + " q f;", 3, at);
            behind(FP, first + " f f;", 3, at);
            behind(FP, first + " p q;", 3, at + 2);
            behind(FP, first + " p p;", 3, at + 2);
            behind(FP, first + " f p;", 3, at);
        }
        PupilsPupil x = Check.schooled(FP + "fact g worth 1;knows p g;errs p f;");
        Check.due("RIGHT", x.person(0, 3), 2);
        Check.due("WRONG", x.person(0, 4), 1);
    }

    private static void masters() {
        Check.sentence("taught NAME by NAME (a PERSON, another one; the first one has no MASTER so far, "
                + "and is not by MASTERS, step by step, the MASTER of the second one)");
        fine(PQR + "taught p by q;taught r by q;", 5);
        behind(PQR, "taught p by p;", 3, 12);
        behind(PQR, "taught p by q;taught p by q;", 3, 21);
        behind(PQR, "taught p by q;taught p by r;", 3, 21);
        behind(PQR, "taught p by q;taught p by x;", 3, 21);
        behind(PQR, "taught p by q;taught p @", 3, 21);
        behind(PQR, "taught p by q;taught q by p;", 3, 26);
        behind(PQR, "taught p by q;taught q by r;taught r by p;", 3, 40);
        behind(PQR + "fact f worth 1;", "taught f by p;", 3, 7);
        behind(PQR + "fact f worth 1;", "taught p by f;", 3, 12);
        behind(PQR, "taught x by p;", 3, 7);
        behind(PQR, "taught p by x;", 3, 12);
        // All eight in one line, told from either end; the ring can't be closed at any place.
        StringBuilder down = new StringBuilder(people(8));
        StringBuilder up = new StringBuilder(people(8));
        for (int k = 1; k < 8; k++) {
            down.append("taught p").append((char) ('a' + k)).append(" by p").append((char) ('a' + k - 1)).append(";");
            up.append("taught p").append((char) ('i' - k)).append(" by p").append((char) ('h' - k)).append(";");
        }
        fine(down.toString(), 15);
        fine(up.toString(), 15);
        for (char c = 'a'; c <= 'h'; c++) {
            behind(down.toString(), "taught pa by p" + c + ";", 3, 13);
            behind(up.toString(), "taught pa by p" + c + ";", 3, 13);
        }
    }

    private static void laws() {
        Check.sentence("takes TEST, garble TEST, sits TEST (one each)");
        String each = "takes all;garble all;sits all;";
        fine(each, 3);
        for (String law : new String[] {"takes", "garble", "sits"}) {
            behind(each, law + " all;", 5, 0);
            behind(each, " " + law, 5, 1);
            behind(law + " all;", law + " @", 5, 0);
            behind(law + " all;", law + ";", 5, 0);
            fault(law, 1, law.length());
            fault(law + ";", 1, law.length());
        }
    }

    private static void lastOnesCount() {
        Check.sentence("pass N (0 .. 99), tries N (0 .. 9), ill N (0 .. 100): the last one of each counts "
                + "(10, 3, 0 without)");
        numberOf("pass ", ";", 0, 99);
        numberOf("tries ", ";", 0, 9);
        numberOf("ill ", ";", 0, 100);
        PupilsPupil x = Check.schooled("pass 99;tries 9;person p calm 1;ill 0;pass 0;tries 0;ill 100;pass 7;tries 4;");
        Check.due("pass", x.has(2), 7);
        Check.due("tries", x.has(3), 4);
        Check.due("tries left", x.person(0, 5), 4);
        Check.due("ill", x.chance(9), 9);
        PupilsPupil y = Check.schooled("person p calm 1;");
        Check.due("pass without", y.has(2), 10);
        Check.due("tries without", y.has(3), 3);
        Check.due("tries left without", y.person(0, 5), 3);
        Check.due("ill without", y.chance(100), 0);
        PupilsPupil z = Check.schooled("pass 99;pass 0;tries 9;tries 0;ill 100;ill 0;person p calm 1;");
        Check.due("pass 0", z.has(2), 0);
        Check.due("tries 0", z.has(3), 0);
        Check.due("ill 0", z.chance(100), 0);
        PupilsPupil w = Check.schooled("pass 0;pass 99;tries 0;tries 9;ill 0;ill 100;person p calm 1;");
        Check.due("pass 99", w.has(2), 99);
        Check.due("tries 9", w.has(3), 9);
        Check.due("ill 100", w.chance(100), 100);
        // Without them it is as at first, whatever the school before had; by seed 42 the first draw is 0.
        Check.school(w, "person p calm 1;");
        w.seed(42);
        Check.due("pass without, again", w.has(2), 10);
        Check.due("tries without, again", w.has(3), 3);
        Check.due("ill without, again", w.chance(100), 0);
    }

    // ---- names, words, numbers, blanks

    private static void names() {
        Check.sentence("NAMES: 1 to 6 letters, no OWN WORD, unlike ones (of all sorts), "
                + "told ahead of where they are asked");
        for (int n = 1; n <= 12; n++) {
            String name = "abcdefghijkl".substring(0, n);
            if (n <= 6) {
                fine("fact " + name + " worth 1;", 1);
                fine("person " + name + " calm 1;", 1);
            } else {
                fault("fact " + name + " worth 1;", 1, 11);
                fault("person " + name + " calm 1;", 1, 13);
            }
        }
        fault("fact  worth 1;", 1, 6);
        String[] sorts = {"fact abcdef worth 1;", "person abcdef calm 1;"};
        for (String first : sorts) {
            for (String second : sorts) {
                behind(first, second, 3, second.indexOf(' ') + 1);
            }
        }
        fine("fact abcdef worth 1;fact abcdeg worth 1;person abcde calm 1;person bbcdef calm 1;fact fedcba worth 1;", 5);
        fine("fact a worth 1;fact aa worth 1;person aaa calm 1;person ab calm 1;person ba calm 1;", 5);
        fault("knows p f;" + FP, 3, 6);
        behind("person p calm 1;", "errs p f;fact f worth 1;", 3, 7);
        behind("person p calm 1;", "taught p by q;person q calm 1;", 3, 12);
    }

    private static void ownWords() {
        Check.sentence("OWN WORDS: fact, worth, person, calm, knows, errs, taught, by, takes, garble, sits, pass, "
                + "tries, ill, right, wrong, year, class, mcalm, left, marks, number, or, and, not, all, min, max");
        for (String word : OWN) {
            fault("fact " + word + " worth 1;", 1, 5);
            fault("person " + word + " calm 1;", 1, 7);
            behind(FP, "knows " + word + " f;", 1, 6);
            behind(FP, "knows p " + word + ";", 1, 8);
            behind(FP, "errs p " + word + ";", 1, 7);
            behind(FP, "taught " + word + " by p;", 1, 7);
            behind(FP, "taught p by " + word + ";", 1, 12);
            String longer = word + "z";
            if (longer.length() <= 6) {
                fine("fact " + longer + " worth 1;person " + word.charAt(0) + " calm 1;", 2);
            } else {
                fault("fact " + longer + " worth 1;", 1, 11);
            }
        }
        fine("fact first worth 1;fact last worth 1;fact often worth 1;person total calm 1;person most calm 1;"
                + "person least calm 1;knows total first;errs most last;taught most by least;", 9);
    }

    private static void blanks() {
        Check.sentence("Blanks (10, 32) are where one likes (words and numbers side by side need one)");
        for (int b = 0; b < 256; b++) {
            char c = (char) b;
            boolean blank = b == 10 || b == 32;
            boolean letter = c >= 'a' && c <= 'z';
            boolean digit = c >= '0' && c <= '9';
            if (blank) {
                fine("pass" + c + "1;", 1);
                fine(c + "pass 1;", 1);
                fine("pass 1" + c + ";", 1);
                fine("pass 1;" + c, 1);
            } else {
                fault("pass" + c + "1;", 1, letter ? 0 : 4);
                fault(c + "pass 1;", 1, 0);
                if (digit) {
                    fine("pass 1" + c + ";", 1);
                } else {
                    fault("pass 1" + c + ";", 1, c == ';' ? 7 : 6);
                }
                fault("pass 1;" + c, 1, 7);
            }
        }
        fine("\n\n fact\n \nf \nworth\n9 ; \nperson p\ncalm 0\n;knows  p\n f ;", 3);
        fine("takes ( 1 ) + min ( 1 , 2 ) * 3 / 4 - 5 < 6 and [ not all ] or 1 = 2 ;", 1);
        fine("takes(1)+min(1,2)*3/4-5<6 and[not all]or 1=2;", 1);
        fault("pa ss 1;", 1, 0);
        fault("pass 1 2;", 1, 7);
        fault("pass1;", 1, 4);
        fault("fact f1 worth 1;", 1, 6);
        fault("fact f worth1;", 1, 12);
        fault("fact fworth 1;", 1, 12);
        fault("takes 1=1and all;", 1, 9);
        fault("takes 1=1or all;", 1, 9);
        fault("takes not1=1;", 1, 9);
        fault("takes all1;", 1, 9);
        fault("takesall;", 1, 0);
    }

    private static void digits() {
        Check.sentence("PART: N (1 to 4 digits)");
        fine("takes 0=0;", 1);
        fine("takes 9999=0000;", 1);
        fine("takes 99=099;", 1);
        fault("takes 00000=0;", 1, 10);
        fault("takes 99999=0;", 1, 10);
        fault("takes 0=123456789012345678901234567890;", 1, 12);
        fault("takes =0;", 1, 6);
        fault("takes 0=;", 1, 8);
        fault("takes -1=0;", 1, 6);
    }

    private static void partsOfEach() {
        Check.sentence("in takes, garble: worth; class; mcalm; in sits: left; marks.");
        for (String law : new String[] {"takes", "garble", "sits"}) {
            for (String word : OWN) {
                boolean anywhere = word.equals("calm") || word.equals("right") || word.equals("wrong")
                        || word.equals("year");
                boolean lesson = word.equals("worth") || word.equals("class") || word.equals("mcalm");
                boolean exam = word.equals("left") || word.equals("marks");
                String ahead = law + " 1+";
                if (anywhere || !law.equals("sits") && lesson || law.equals("sits") && exam) {
                    fine(ahead + word + "<2;", 1);
                } else if (word.equals("min") || word.equals("max")) {
                    fine(ahead + word + "(1,2)<2;", 1);
                    behind(ahead, word + "<2;", 1, 3);
                } else {
                    behind(ahead, word + "<2;", 1, 0);
                }
            }
        }
    }

    // ---- faults

    private static void wholeWords() {
        Check.sentence("1 the first byte with which no such text goes on (words and numbers whole, at their first byte");
        fault("facto f worth 1;", 1, 0);
        fault("fac f worth 1;", 1, 0);
        fault("fact f worthy 1;", 1, 7);
        fault("fact f wort 1;", 1, 7);
        fault("fact f calm 1;", 1, 7);
        fault("fact f abcdefghij 1;", 1, 7);
        fault("fact f 1 worth;", 1, 7);
        fault("fact f 123456 worth;", 1, 7);
        fault("fact 123456 worth 1;", 1, 5);
        fault("fact f worth worth;", 1, 13);
        fault("fact f worth abcdefgh;", 1, 13);
        fault("123456;", 1, 0);
        fault("abcdefgh;", 1, 0);
        fault("takes calmer<1;", 1, 6);
        fault("takes abcdefghi<1;", 1, 6);
        fault("takes 1<2 an all;", 1, 10);
        fault("takes 1<2 android all;", 1, 10);
        fault("takes 1<2 12345;", 1, 10);
        fault("takes 1<2 and and;", 1, 14);
        behind(FP, "taught p byte p;", 1, 9);
        behind(FP, "taught p b p;", 1, 9);
    }

    private static void overlong() {
        Check.sentence("where a NAME is asked, an OWN WORD so, a 7th letter at itself");
        fault("fact abcdefg worth 1;", 1, 11);
        fault("fact personal worth 1;", 1, 11);
        fault("person abcdefghijklmnop calm 1;", 1, 13);
        behind(FP, "knows ppppppp f;", 1, 12);
        behind(FP, "knows p fffffff;", 1, 14);
        behind(FP, "errs p fffffffff;", 1, 13);
        behind(FP, "taught ppppppp by p;", 1, 13);
        behind(FP, "taught p by ppppppp;", 1, 18);
        behind("fact abcdef worth 1;", "fact abcdefg worth 1;", 1, 11);
        Check.sentence("where a number is asked, a 5th digit at itself");
        fault("fact f worth 00001;", 1, 17);
        fault("person p calm 000000001;", 1, 18);
        fault("pass 12345;", 1, 9);
        fault("tries 00003;", 1, 10);
        fault("ill 100000;", 1, 8);
        fault("takes 12345=1;", 1, 10);
        fault("takes min(1,00000)=1;", 1, 16);
    }

    private static void endsTooSoon() {
        Check.sentence("at the text's length, if it ends too soon");
        // For each length of a text its fault's place; a word that is cut is another word, at its first byte.
        int[] places = {-1, 0, 0, 0, 4, 5, 6, 7, 8, 8, 8, 8, 8, 13, 14, 15, -1};
        prefixes("fact ab worth 1;", "", places);
        int[] knows = {-1, 0, 0, 0, 0, 5, 6, 7, 8, 9, -1};
        prefixes("knows p f;", FP, knows);
        int[] taught = {-1, 0, 0, 0, 0, 0, 6, 7, 8, 9, 9, 11, 12, 13, -1};
        prefixes("taught p by q;", PQR, taught);
        int[] takes = {-1, 0, 0, 0, 0, 5, 6, 6, 6, 9, 10, 11, 12, 13, 13, 13, 16, 17, 18, 19, 20, 21, 22, 23, 24, 25, -1};
        prefixes("takes not[1+(min(2,3))<4];", "", takes);
        fault("pass 1\n\n", 1, 8);
        fault("pass ", 1, 5);
        fault("takes all and ", 1, 14);
    }

    private static void prefixes(String text, String ahead, int[] places) {
        for (int n = 0; n <= text.length(); n++) {
            String cut = ahead + text.substring(0, n);
            if (places[n] < 0) {
                fine(cut, cut.length() - cut.replace(";", "").length());
            } else {
                fault(cut, 1, ahead.length() + places[n]);
            }
        }
    }

    private static void firstAlong() {
        Check.sentence("FAULTS, the first along the text");
        fault("pass 100;@", 2, 5);
        fault("pass 100@", 2, 5);
        fault("pass @;pass 100;", 1, 5);
        fault("fact f worth 0;fact f worth 1;", 2, 13);
        fault("fact f worth 1;fact f worth 0;", 3, 20);
        fault("fact f worth 1;fact f@", 3, 20);
        fault("fact f worth 1;fact f1", 3, 20);
        fault("takes(((((((@", 4, 11);
        fault("takes((((((@(", 1, 11);
        fault("takes all;takes(((((((1", 5, 10);
        fault("takes(((((((1)))))))=1;takes all;", 4, 11);
        behind(facts(8), "fact fa worth 10;", 5, 0);
        behind(FP, "knows x x;", 3, 6);
        behind(FP, "knows p x@", 3, 8);
        behind(FP, "taught p by p@", 3, 12);
        behind("pass 1;".repeat(79), "pass 100;pass 1;", 2, 5);
    }

    private static void badNumbers() {
        Check.sentence("2 a number that can't be, at it");
        fault("fact f worth  0;", 2, 14);
        fault("fact f worth\n0010;", 2, 13);
        fault("person p calm 100;", 2, 14);
        fault("pass 0100;", 2, 5);
        fault("tries 10;", 2, 6);
        fault("ill 101;", 2, 4);
        fine("takes 9999=0;garble 9999=0;sits 9999=0;", 3);
    }

    private static void badNames() {
        Check.sentence("3 a NAME to be given that is there already, one that is none of what is asked, or can't be "
                + "(told so already: at its second NAME; one who has a MASTER: at it; the same one, "
                + "a MASTER who is taught so: at the second), at it");
        behind(FP, "fact p worth 1;", 3, 5);
        behind(FP, "fact f worth 1;", 3, 5);
        behind(FP, "person f calm 1;", 3, 7);
        behind(FP, "person p calm 1;", 3, 7);
        behind(FP, "knows f f;", 3, 6);
        behind(FP, "knows p p;", 3, 8);
        behind(FP, "knows p f;knows  p  f;", 3, 20);
        behind(PQR, "taught p by q;taught  p by r;", 3, 22);
        behind(PQR, "taught p by  p;", 3, 13);
        behind(PQR, "taught p by q;taught q by  p;", 3, 27);
    }

    private static void depth() {
        Check.sentence("4 the 7th of ( [ not that is open at once (not until its FACT ends), at it");
        for (int open = 6; open <= 7; open++) {
            for (int logical = 0; logical <= open; logical++) {
                for (int mask = 0; mask < 1 << open; mask++) {
                    nested(open, logical, mask);
                }
            }
        }
        fine("takes " + "not all and ".repeat(20) + "not all;", 1);
        fine("takes not all or not(((((1)))))=1;", 1);
        fault("takes not((((((1))))))=1;", 4, 14);
        fault("takes not 1=((((((1))))));", 4, 17);
        fine("takes not 1=(((((1)))))and((((((1))))))=1;", 1);
        fine("takes " + "(((((1)))))+".repeat(9) + "((((((1))))))=1;", 1);
        fine("takes " + "[[[[[[all]]]]]]and ".repeat(9) + "[[[[[[all]]]]]];", 1);
        fine("takes min(1,2)+max(1,2)+min(1,2)+max(1,2)+min(1,2)+max(1,2)+min(1,2)>0;", 1);
        fine("takes min((((((1))))),(((((1))))))>0;", 1);
        fault("takes min((((((1))))),((((((1)))))))>0;", 4, 27);
        fine("takes((((((1))))))=1;garble[[[[[[all]]]]]];sits not not not not not not all;", 3);
    }

    /** So many open ones, of which the first are [ or not by the mask, the others ( or min( by it. */
    private static void nested(int open, int logical, int mask) {
        StringBuilder text = new StringBuilder("takes ");
        StringBuilder behind = new StringBuilder();
        int place = 0;
        for (int k = 0; k < open; k++) {
            boolean other = (mask >> k & 1) == 1;
            if (k < logical) {
                place = text.length();
                text.append(other ? "not " : "[");
                behind.insert(0, other ? "" : "]");
            } else {
                text.append(other ? "min(7," : "(");
                place = text.length() - (other ? 3 : 1);
            }
        }
        text.append("1").append(")".repeat(open - logical)).append("=1").append(behind).append(";");
        if (open <= 6) {
            fine(text.toString(), 1);
        } else {
            fault(text.toString(), 4, place);
        }
    }

    private static void tooMany() {
        Check.sentence("5 one too many of a kind (a second takes, garble, sits, too)");
        String all = facts(8) + people(8) + "takes all;garble all;sits all;";
        fine(all + "pass 1;pass 1;tries 1;tries 1;ill 1;ill 1;", 25);
        for (String word : new String[] {"fact", "person", "takes", "garble", "sits"}) {
            behind(all, word, 5, 0);
            behind(all, " \n" + word + " @", 5, 2);
        }
    }

    public static void main(String[] args) {
        statements();
        facts();
        people();
        beliefs();
        masters();
        laws();
        lastOnesCount();
        names();
        ownWords();
        blanks();
        digits();
        partsOfEach();
        wholeWords();
        overlong();
        endsTooSoon();
        firstAlong();
        badNumbers();
        badNames();
        depth();
        tooMany();
        Check.close();
    }
}
