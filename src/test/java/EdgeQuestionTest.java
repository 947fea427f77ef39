/** Terms I and IV, promise 29: each sentence that names a bound of sums, tests and questions. */
public final class EdgeQuestionTest {
    private static final long NOTHING = PupilsPupil.NOTHING;
    private static final String SCHOOL = "fact a worth 3;fact b worth 5;fact c worth 2;person p calm 10;"
            + "person q calm 40;knows p a;knows p b;errs p c;knows q a;";

    private static void most(PupilsPupil x, String sum, long want) {
        Check.due(sum, Check.ask(x, 0, "most " + sum), want);
        Check.due("fault of " + sum, x.fault(0), 0);
        // The same within a law: it holds for the lesson only if the sum is as due.
        String value = want < 0 ? "0-" + -want / 1000 + "*1000-" + -want % 1000 : want / 1000 + "*1000+" + want % 1000;
        PupilsPupil y = Check.schooled("fact a worth 1;person m calm 1;person p calm 1;taught p by m;knows m a;takes "
                + sum + "=" + value + ";");
        Check.due(sum + " in a law", y.next(1), 0);
    }

    private static void fault(String text, int kind, int place) {
        PupilsPupil x = Check.schooled(SCHOOL);
        Check.due("ask <" + text + ">", Check.ask(x, 0, text), NOTHING);
        Check.due("fault of <" + text + ">", x.fault(0), kind);
        Check.due("place in <" + text + ">", x.fault(1), place);
        Check.due("not refused", x.status(1), 0);
        Check.due("the tape is gone", x.end(1), false);
    }

    // ---- sums

    private static void bounds() {
        Check.sentence("each sum, difference, product above 10 to the 6 is that, below -10 to the 6 likewise");
        PupilsPupil x = Check.schooled(SCHOOL);
        most(x, "1000*1000", 1000000);
        most(x, "1000*1000+0", 1000000);
        most(x, "1000*1000+1", 1000000);
        most(x, "1000*1000+1-1", 999999);
        most(x, "1000*999+999", 999999);
        most(x, "1000*999+1000", 1000000);
        most(x, "1000*999+1001-1", 999999);
        most(x, "1000*1000-1", 999999);
        most(x, "1000*1000-(0-1)", 1000000);
        most(x, "1000*1000-(0-1)-1", 999999);
        most(x, "0-1000*1000", -1000000);
        most(x, "0-1000*1000-1", -1000000);
        most(x, "0-1000*1000-1+1", -999999);
        most(x, "0-1000*1000+(0-1)", -1000000);
        most(x, "0-1000*1000+(0-1)+1", -999999);
        most(x, "(0-1000)*1000", -1000000);
        most(x, "(0-1001)*1000", -1000000);
        most(x, "(0-1001)*1000+1", -999999);
        most(x, "1001*1000-1", 999999);
        most(x, "9999*9999", 1000000);
        most(x, "9999*9999*9999*9999", 1000000);
        most(x, "9999*9999*(0-9999)", -1000000);
        most(x, "(0-1000)*(0-1000)", 1000000);
        most(x, "(0-1000)*(0-1001)-1", 999999);
        most(x, "1000*1000+1000*1000", 1000000);
        most(x, "0-1000*1000-1000*1000", -1000000);
        most(x, "1000*1000*1000/1000", 1000);
        most(x, "min(1000*1000,1001*1000)", 1000000);
        most(x, "max(0-1001*1000,0-1000*1000)", -1000000);
        most(x, "9999*100", 999900);
    }

    private static void divisions() {
        Check.sentence("/ gives the greatest whole number not above, by 0 it gives 0");
        PupilsPupil x = Check.schooled(SCHOOL);
        most(x, "7/0", 0);
        most(x, "0/0", 0);
        most(x, "(0-7)/0", 0);
        most(x, "1000*1000/0", 0);
        most(x, "7/(3-3)", 0);
        most(x, "7/0*5+2", 2);
        most(x, "0/7", 0);
        most(x, "0/(0-7)", 0);
        for (int a = -7; a <= 7; a++) {
            for (int b = -4; b <= 4; b++) {
                String sum = (a < 0 ? "(0-" + -a + ")" : "" + a) + "/" + (b < 0 ? "(0-" + -b + ")" : "" + b);
                most(x, sum, b == 0 ? 0 : (long) Math.floor((double) a / b));
            }
        }
        most(x, "1000*1000/(0-1)", -1000000);
        most(x, "(0-1000*1000)/(0-1)", 1000000);
        most(x, "(0-1)/(1000*1000)", -1);
        most(x, "1/(1000*1000)", 0);
    }

    private static void fromTheLeft() {
        Check.sentence("All from the left on");
        PupilsPupil x = Check.schooled(SCHOOL);
        most(x, "9-3-2", 4);
        most(x, "9-3+2", 8);
        most(x, "64/4/2", 8);
        most(x, "7/2*2", 6);
        most(x, "2*7/2", 7);
        most(x, "2+3*4-5", 9);
        most(x, "20-6/4", 19);
    }

    private static void signs() {
        Check.sentence("SUM SIGN SUM, SIGN < or > or = )");
        PupilsPupil x = Check.schooled(SCHOOL);
        for (int a = 0; a <= 2; a++) {
            Check.due(a + "<1", Check.ask(x, 0, "often " + a + "<1"), a < 1 ? 3 : 0);
            Check.due(a + ">1", Check.ask(x, 0, "often " + a + ">1"), a > 1 ? 3 : 0);
            Check.due(a + "=1", Check.ask(x, 0, "often " + a + "=1"), a == 1 ? 3 : 0);
        }
        fault("often 1<=1", 1, 8);
        fault("often 1!1", 1, 7);
        fault("often 1", 1, 7);
    }

    // ---- questions

    private static void withoutFacts() {
        Check.sentence("most SUM, least SUM (the greatest, the least of all; 0 without FACTS)");
        PupilsPupil x = Check.schooled("person p calm 3;");
        Check.due("most", Check.ask(x, 0, "most calm"), 0);
        Check.due("least", Check.ask(x, 0, "least calm"), 0);
        Check.due("most below 0", Check.ask(x, 0, "most 0-5"), 0);
        Check.due("least above 0", Check.ask(x, 0, "least 5"), 0);
        Check.due("total", Check.ask(x, 0, "total 5"), 0);
        Check.due("often", Check.ask(x, 0, "often all"), 0);
        Check.due("first", Check.ask(x, 0, "first all"), -1);
        Check.due("last", Check.ask(x, 0, "last all"), -1);
        PupilsPupil one = Check.schooled("person p calm 3;fact f worth 4;");
        Check.due("most of one, below 0", Check.ask(one, 0, "most 0-5"), -5);
        Check.due("least of one, above 0", Check.ask(one, 0, "least 5"), 5);
        PupilsPupil y = Check.schooled(SCHOOL);
        Check.due("most of all", Check.ask(y, 0, "most worth-9"), -4);
        Check.due("least of all", Check.ask(y, 0, "least worth"), 2);
    }

    private static void holdsForNone() {
        Check.sentence("its answer; NONE of first, last, when its TEST holds for none");
        PupilsPupil x = Check.schooled(SCHOOL);
        for (int k = -1; k < 5; k++) {
            boolean there = k >= 0 && k < 3;
            String number = k < 0 ? "0-1" : "" + k;
            Check.due("first number=" + k, Check.ask(x, 0, "first number=" + number), there ? k : -1);
            Check.due("last number=" + k, Check.ask(x, 0, "last number=" + number), there ? k : -1);
            Check.due("often number=" + k, Check.ask(x, 0, "often number=" + number), there ? 1 : 0);
            Check.due("no fault", x.fault(0), 0);
        }
        Check.due("first of all", Check.ask(x, 0, "first all"), 0);
        Check.due("last of all", Check.ask(x, 0, "last all"), 2);
        Check.due("often of all", Check.ask(x, 0, "often all"), 3);
        Check.due("a total can be -1, too", Check.ask(x, 0, "total 0-knows/knows+errs"), -1);
    }

    private static void byThoseThereAreNot() {
        Check.sentence("1 if the PERSON of that number is RIGHT of it, else 0, 0 of those that there are not");
        StringBuilder s = new StringBuilder("fact f worth 1;");
        for (char c = 'a'; c <= 'h'; c++) {
            s.append("person p").append(c).append(" calm 1;knows p").append(c).append(" f;");
        }
        PupilsPupil x = Check.schooled(s.toString());
        String[] there = {"0", "1", "7", "(8-1)", "0007", "min(7,9)", "by 0", "knows", "number"};
        for (String number : there) {
            Check.due("by " + number, Check.ask(x, 0, "total by " + number), 1);
        }
        String[] not = {"8", "(0-1)", "9", "30", "31", "32", "33", "63", "64", "256", "9999", "(9999*9999)",
            "(0-9999*9999)", "(0-32)", "(0-8)", "(0-31)"};
        for (String number : not) {
            Check.due("by " + number, Check.ask(x, 0, "total by " + number), 0);
        }
        PupilsPupil y = Check.schooled(SCHOOL);
        Check.due("q is RIGHT of a", Check.ask(y, 0, "total by 1"), 1);
        Check.due("p is WRONG of c", Check.ask(y, 0, "first number=2 and by 0=0"), 2);
        Check.due("there is no third", Check.ask(y, 0, "total by 2"), 0);
        Check.due("by binds its PART alone", Check.ask(y, 0, "least by 0+1"), 1);
    }

    private static void ofEachPerson() {
        Check.sentence("The FACT's number; 1 if that PERSON is RIGHT, WRONG of it, else 0; "
                + "how many PEOPLE are RIGHT, WRONG of it");
        PupilsPupil x = Check.schooled(SCHOOL);
        long[][] want = {{3, 2, 1, 3, 1, 18, 9, 30}, {3, 1, 0, 3, 1, 9, 9, 120}};
        String[] words = {"number", "knows", "errs", "right", "wrong", "marks", "left", "calm"};
        for (int p = 0; p < 2; p++) {
            for (int k = 0; k < words.length; k++) {
                Check.due("total " + words[k] + " of " + p, Check.ask(x, p, "total " + words[k]), want[p][k]);
            }
        }
    }

    private static void noneSuch() {
        Check.sentence("NOTHING with a FAULT, or, doing nothing else, when there is none such.");
        PupilsPupil x = Check.schooled(SCHOOL);
        int[] none = {-1, 2, 8};
        for (int p : none) {
            Check.due("ask(" + p + ")", Check.ask(x, p, "often all"), NOTHING);
        }
        for (int p : Check.FAR) {
            Check.due("ask(" + p + ")", Check.ask(x, p, "@"), NOTHING);
            Check.due("no FAULT of it", x.fault(0), 0);
        }
        Check.due("a FAULT", Check.ask(x, 0, "often"), NOTHING);
        Check.due("ask(2)", Check.ask(x, 2, "often all"), NOTHING);
        Check.due("the FAULT of before", x.fault(0), 1);
        Check.due("its place", x.fault(1), 5);
        Check.due("the last there is", Check.ask(x, 1, "often all"), 3);
        for (int k = 0; k < 6; k++) {
            Check.due("nothing is refused", x.status(k), 0);
        }
    }

    private static void takesTheTape() {
        Check.sentence("The tape (it goes) is a QUESTION of a PERSON");
        PupilsPupil x = Check.schooled(SCHOOL);
        Check.due("ask", Check.ask(x, 0, "often all"), 3);
        Check.due("the tape is gone", x.end(1), false);
        Check.due("nothing is asked", x.ask(0), NOTHING);
        Check.due("it ends too soon", x.fault(0), 1);
        Check.due("at once", x.fault(1), 0);
    }

    // ---- faults

    private static void firstFaults() {
        Check.sentence("Its FAULTS: 1 as in I (an unknown word at its first byte; what stands behind it, too)");
        fault("", 1, 0);
        fault(" \n", 1, 2);
        fault("@", 1, 0);
        fault("7", 1, 0);
        fault("firs all", 1, 0);
        fault("firsts all", 1, 0);
        fault("firstsomething all", 1, 0);
        fault("fact a worth 1;", 1, 0);
        for (String of : new String[] {"first", "last", "often"}) {
            fault(of, 1, of.length());
            fault(of + " worth", 1, of.length() + 6);
            fault(of + " all;", 1, of.length() + 4);
            fault(of + " all all", 1, of.length() + 5);
            fault(of + " all 1", 1, of.length() + 5);
            fault(of + " all 12345", 1, of.length() + 5);
            fault(of + " all]", 1, of.length() + 4);
            fault(of + "1=1", 1, of.length());
        }
        for (String of : new String[] {"total", "most", "least"}) {
            fault(of, 1, of.length());
            fault(of + " all", 1, of.length() + 1);
            fault(of + " not 1=1", 1, of.length() + 1);
            fault(of + "[1]", 1, of.length());
            fault(of + " 1=1", 1, of.length() + 2);
            fault(of + " 1 1", 1, of.length() + 3);
            fault(of + " 1)", 1, of.length() + 2);
            fault(of + " 1;", 1, of.length() + 2);
            fault(of + "1", 1, of.length());
            fault(of + " 00001", 1, of.length() + 5);
            fault(of + " (1", 1, of.length() + 3);
            fault(of + " min(1,)", 1, of.length() + 7);
        }
        for (String word : new String[] {"a", "p", "class", "mcalm", "taught", "takes", "person", "fact", "pass", "tries",
            "ill", "or", "and", "first", "total", "calmer", "abcdefghijk", "garble", "sits"}) {
            fault("total 1+" + word, 1, 8);
            fault("often " + word + "=1", 1, 6);
        }
        fault("total by", 1, 8);
        fault("total by by", 1, 11);
        fault("total by+1", 1, 8);
        fault("total by not", 1, 9);
        fault("total by[1]", 1, 8);
        fault("total by1", 1, 8);
        fault("total by 12345", 1, 13);
        fault("total by p", 1, 9);
    }

    private static void depth() {
        Check.sentence("4 the 7th of ( [ not by that is open at once (not until its FACT, by until its PART ends), at it");
        PupilsPupil x = Check.schooled(SCHOOL);
        String[] sums = {"(", "by ", "min(1,"};
        String[] closes = {")", "", ")"};
        int[] at = {0, 0, 3};
        // All ways to open seven in a sum; with the innermost one left out it is fine.
        for (int way = 0; way < 2187; way++) {
            StringBuilder text = new StringBuilder("most ");
            StringBuilder close = new StringBuilder();
            int place = 0;
            int rest = way;
            for (int k = 0; k < 7; k++) {
                if (k == 6) {
                    Check.due("six of " + text, Check.ask(x, 0, text + "1" + close) == NOTHING, false);
                }
                place = text.length() + at[rest % 3];
                text.append(sums[rest % 3]);
                close.insert(0, closes[rest % 3]);
                rest /= 3;
            }
            Check.due("seven: " + text, Check.ask(x, 0, text + "1" + close), NOTHING);
            Check.due("the fault", x.fault(0), 4);
            Check.due("at the seventh", x.fault(1), place);
        }
        Check.due("not until its FACT ends", Check.ask(x, 0, "often not all or " + "not all or ".repeat(9)
                + "not by by by by by 1=2"), 3);
        fault("often not by by by by by by 1=2", 4, 25);
        fault("often not 1=by by by by by by 1", 4, 27);
        fault("often not not[by by(by(1))=1]", 4, 20);
        Check.due("by until its PART ends", Check.ask(x, 0, "most by 0*by 0*by 0*by 0*by 0*by 0*by 0*by 0"), 1);
        Check.due("by min", Check.ask(x, 0, "most by min(by min(by min(0,1),0),0)"), 1);
        fault("most by min(by min(by min(0,by 0),0),0)", 4, 28);
    }

    private static void longest() {
        Check.sentence("NONE, refused (0), if there would be more than 1600");
        PupilsPupil x = Check.schooled(SCHOOL);
        Check.due("1600 bytes", Check.ask(x, 0, "most " + "1+".repeat(797) + "1"), 798);
        Check.due("1600 bytes", Check.ask(x, 0, "total " + "1*".repeat(797)), NOTHING);
        Check.due("ends too soon at 1600", x.fault(1), 1600);
        Check.due("1600 bytes with a law each", Check.ask(x, 0, "often " + "1=1 and ".repeat(199) + "al"), NOTHING);
        Check.due("a word cut off", x.fault(1), 1598);
        Check.due("blanks around", Check.ask(x, 0, " ".repeat(795) + "most 1" + "\n".repeat(799)), 1);
    }

    public static void main(String[] args) {
        bounds();
        divisions();
        fromTheLeft();
        signs();
        withoutFacts();
        holdsForNone();
        byThoseThereAreNot();
        ofEachPerson();
        noneSuch();
        takesTheTape();
        firstFaults();
        depth();
        longest();
        Check.close();
    }
}
