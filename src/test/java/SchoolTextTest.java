/** Promises 4, 5, 7 (and 29 for the grammar in common): schools as texts, their faults and places. */
public final class SchoolTextTest {
    private static final String FP = "fact f worth 1;person p calm 1;";
    private static final String PQR = "person p calm 1;person q calm 1;person r calm 1;";

    private static void fault(String text, int kind, int place) {
        Check.schoolFault(text, kind, place);
    }

    /** A fault right behind what is fine, at its length and so much more. */
    private static void faultBehind(String fine, String bad, int kind, int more) {
        fault(fine + bad, kind, fine.length() + more);
    }

    private static void fine(String text, int statements) {
        Check.schoolFine(text, statements);
    }

    private static void takes(String test, int kind, int more) {
        faultBehind("takes ", test, kind, more);
    }

    private static void fineTexts() {
        fine("", 0);
        fine(" \n ", 0);
        fine("fact f worth 9;", 1);
        fine("fact\nf\nworth 0001 ;", 1);
        fine("fact first worth 1;person total calm 99;person abcdef calm 0;", 3);
        fine("fact last worth 1;fact often worth 1;person most calm 1;person least calm 1;", 4);
        fine("fact a worth 1;person z calm 0;knows z a;", 3);
        fine("pass 0;pass 99;tries 0;tries 9;ill 0;ill 100;", 6);
        fine(FP + "knows p f;", 3);
        fine(PQR + "taught p by q;taught q by r;", 5);
        fine("takes all;garble not all;sits[all];", 3);
        fine("takes calm+right*wrong-year/worth<class and mcalm>0 or 1=1;", 1);
        fine("sits calm+right*wrong-year/left=marks;", 1);
        fine("takes min(1,max ( 2 , 3 ))<(4);", 1);
        fine("takes not not[not(1)=1]and all;", 1);
        fine("takes 0=9999;", 1);
    }

    private static void wordsAndNumbers() {
        fault("x;", 1, 0);
        fault(";", 1, 0);
        fault("7", 1, 0);
        fault("Fact f worth 1;", 1, 0);
        fault("facts f worth 1;", 1, 0);
        fault("fac", 1, 0);
        fault("fact", 1, 4);
        fault("fact  ", 1, 6);
        fault("fact 12345", 1, 5);
        fault("fact by", 1, 5);
        fault("fact number worth 1;", 1, 5);
        fault("fact abcdefg", 1, 11);
        fault("fact persons", 1, 11);
        fault("fact f", 1, 6);
        fault("fact f1", 1, 6);
        fault("fact f calm 1;", 1, 7);
        fault("fact f worths 1;", 1, 7);
        fault("fact f worth", 1, 12);
        fault("fact f worth1;", 1, 12);
        fault("fact f worth x;", 1, 13);
        fault("fact f worth 1", 1, 14);
        fault("fact f worth 1 ", 1, 15);
        fault("fact f worth 1 2;", 1, 15);
        fault("fact f worth 1x;", 1, 14);
        fault("fact f worth 00001;", 1, 17);
        fault("fact f worth 1,", 1, 14);
        fault("fact\tf worth 1;", 1, 4);
        fault("fact \u00e9 worth 1;", 1, 5);
        fault("pass;", 1, 4);
        fault("pass -1;", 1, 5);
        fault("or;", 1, 0);
        fault("factd f worth 1;", 1, 0);
        fault("persond p calm 1;", 1, 0);
        fault("garbleh all;", 1, 0);
        fault("taughtl p by p;", 1, 0);
        faultBehind(PQR, "taught p;", 1, 8);
        faultBehind(FP, "knows p;", 1, 7);
        faultBehind(FP, "knows;", 1, 5);
        fault("first all;", 1, 0);
    }

    private static void numbers() {
        fault("fact f worth 0", 2, 13);
        fault("fact f worth 10", 2, 13);
        fault("person p calm 100", 2, 14);
        fault("person p calm 9999", 2, 14);
        fault("pass 100", 2, 5);
        fault("tries 10", 2, 6);
        fault("ill 101", 2, 4);
        fault("ill  0101x", 2, 5);
        fault("pass 12345", 1, 9);
    }

    private static void names() {
        fault("fact f worth 1;fact f", 3, 20);
        fault("fact f worth 1;person f", 3, 22);
        fault("person f calm 1;fact f", 3, 21);
        fault("person f calm 1;person f", 3, 23);
        faultBehind(FP, "knows x f;", 3, 6);
        faultBehind(FP, "knows f f;", 3, 6);
        faultBehind(FP, "knows p p;", 3, 8);
        faultBehind(FP, "errs p x;", 3, 7);
        faultBehind(FP, "knows abcdefg f;", 1, 12);
        faultBehind(FP, "knows all f;", 1, 6);
        faultBehind(FP, "knows p f;errs p f;", 3, 17);
        faultBehind(FP, "errs p f;errs p f;", 3, 16);
        faultBehind(FP, "errs p  f;knows p  f;", 3, 19);
        fault("knows p f;" + FP, 3, 6);
        faultBehind(PQR, "taught x by q;", 3, 7);
        faultBehind(PQR, "taught p by x;", 3, 12);
        faultBehind(PQR, "taught p by p;", 3, 12);
        faultBehind(PQR, "taught p q;", 1, 9);
        faultBehind(PQR, "taught p by q;taught p by r;", 3, 21);
        faultBehind(PQR, "taught p by q;taught q by p;", 3, 26);
        faultBehind(PQR, "taught p by q;taught q by r;taught r by p;", 3, 40);
        faultBehind(FP, "taught p by f;", 3, 12);
    }

    private static void openOnes() {
        fine("takes((((((1))))))=1;", 1);
        fault("takes(((((((1)))))))=1;", 4, 11);
        fine("takes[[[[[[all]]]]]];", 1);
        fault("takes[[[[[[[all]]]]]]];", 4, 11);
        fine("takes not not not not not not all;", 1);
        fault("takes not not not not not not not all;", 4, 30);
        fine("takes not[not[not(1)=1]];", 1);
        fine("takes not[not[not(1)=1]]and not[not[not(1)=1]];", 1);
        fault("takes not[not[not((1))=1]];", 4, 18);
        fault("takes not[not[not min(1,min(2,3))=1]];", 4, 27);
        fine("takes not[not[not min(1,2)+min(2,3)=max(1,2)]];", 1);
        fine("takes not not not not min((1),(2))=1;", 1);
        fault("takes not not not not not min((1),(2))=1;", 4, 30);
        fault("takes not not not not not min(1,(2))=1;", 4, 32);
        fault("takes not not not not min(1,((2)))=1;", 4, 29);
        fine("takes(1)+(1)+(1)+(1)+(1)+(1)+(1)=7;", 1);
        fine("takes not all and not all and not all and not all and not all and not all and not all;", 1);
        fault("takes not not not not not not (1)=1;", 4, 30);
        fault("takes not not not not not not min(1,2)=1;", 4, 33);
        fault("takes not not not not not not[all];", 4, 29);
    }

    private static void grammar() {
        takes(";", 1, 0);
        takes("1;", 1, 1);
        takes("1<;", 1, 2);
        takes("1<2<3;", 1, 3);
        takes("(1<2);", 1, 2);
        takes("[1];", 1, 2);
        takes("(1;", 1, 2);
        takes("[all;", 1, 4);
        takes("all all;", 1, 4);
        takes("all+1=1;", 1, 3);
        takes("not;", 1, 3);
        takes("not1=1;", 1, 3);
        takes("1=1or all;", 1, 3);
        takes("1=0or all;", 1, 3);
        takes("1=9and all;", 1, 3);
        takes("first=1;", 1, 0);
        takes("1=most;", 1, 2);
        fault("sits total=1;", 1, 5);
        takes("min 1;", 1, 4);
        takes("min(1);", 1, 5);
        takes("min(1,2,3)=1;", 1, 7);
        takes("max(1,2=3);", 1, 7);
        takes("-1<2;", 1, 0);
        takes("12345=1;", 1, 4);
        takes("1=99999999999;", 1, 6);
        takes("1 12345=1;", 1, 2);
        takes("number=1;", 1, 0);
        takes("left=1;", 1, 0);
        takes("marks=1;", 1, 0);
        takes("knows=1;", 1, 0);
        takes("by 1=1;", 1, 0);
        takes("1=calmly;", 1, 2);
        takes("1==1;", 1, 2);
        takes("1=1 and;", 1, 7);
        takes("1=1", 1, 3);
        fault("sits worth=1;", 1, 5);
        fault("sits class=1;", 1, 5);
        fault("sits mcalm=1;", 1, 5);
        fault("garble left=1;", 1, 7);
    }

    private static void tooMany() {
        StringBuilder facts = new StringBuilder();
        StringBuilder people = new StringBuilder();
        for (char c = 'a'; c < 'i'; c++) {
            facts.append("fact ").append(c).append(" worth 1;");
            people.append("person ").append(c).append(" calm 1;");
        }
        fine(facts.toString(), 8);
        fine(people.toString(), 8);
        faultBehind(facts.toString(), " fact by", 5, 1);
        faultBehind(people.toString(), "person a", 5, 0);
        faultBehind("takes all;garble all;sits all;", "takes", 5, 0);
        faultBehind("takes all;garble all;sits all;", "garble x", 5, 0);
        faultBehind("takes all;garble all;sits all;", " sits all;", 5, 1);
        String eighty = "ill 1;".repeat(80);
        fine(eighty, 80);
        fine(eighty + " \n", 80);
        faultBehind(eighty, "\n ill 1;", 5, 2);
        faultBehind(eighty, "@", 5, 0);
        faultBehind(eighty, ";", 5, 0);
        faultBehind("ill 1;".repeat(79), ";", 1, 0);
    }

    private static void allStaysWithAFault() {
        PupilsPupil x = Check.schooled("fact f worth 4;person p calm 7;person q calm 8;knows p f;taught q by p;pass 3;");
        x.years(2);
        Check.hear(x, 0, 1);
        Check.due("a fault at the end", Check.school(x, "fact g worth 1;person z calm 1;tries 1;takes 1"), -1);
        int[] has = {1, 2, 3, 3, 2, 2, 0, 0, 2, 1, 1};
        for (int k = 0; k < has.length; k++) {
            Check.due("has(" + k + ") stays", x.has(k), has[k]);
        }
        Check.due("name stays", x.letter(0, 0, 0), 6);
        Check.due("undo stays", x.undo(), true);
        Check.due("q is taught as before", x.next(1), 0);
    }

    private static void allAnewWithout() {
        PupilsPupil x = Check.schooled("fact f worth 4;person p calm 7;person q calm 8;knows p f;taught q by p;"
                + "takes 1=2;garble all;sits 1=2;pass 3;tries 5;ill 100;");
        x.years(2);
        x.seed(77);
        Check.hear(x, 0, 1);
        x.image();
        Check.due("school()", Check.school(x, "fact g worth 5;person z calm 9;person y calm 3;knows z g;taught y by z;"), 5);
        int[] has = {1, 2, 10, 3, 0, 0, 0, 0, 0, 0, 0};
        for (int k = 0; k < has.length; k++) {
            Check.due("has(" + k + ") anew", x.has(k), has[k]);
        }
        Check.due("undo()", x.undo(), false);
        Check.due("takes is gone", x.next(1), 0);
        Check.due("garble is gone", x.later(1, 3), 2);
        Check.due("the image is the latest one", x.octet(1), 2);
        Check.due("school()", Check.school(x, "person a calm 1;person b calm 1;person c calm 1;ill 50;"), 4);
        // The seed is 77 still.
        Check.due("chance by the seed that stays", x.chance(2), draws(77, 6, 50));
    }

    static int draws(long seed, int times, int below) {
        int count = 0;
        long v = seed;
        for (int k = 0; k < times; k++) {
            v = (1103515245L * v + 12345L) % 2147483648L;
            count += v / 64 % 100 < below ? 1 : 0;
        }
        return count;
    }

    private static void faultsOfTheLatest() {
        PupilsPupil x = Check.schooled(FP);
        Check.due("fault(0)", x.fault(0), 0);
        Check.due("fault(1)", x.fault(1), -1);
        Check.school(x, "pass 100;");
        Check.due("fault(0)", x.fault(0), 2);
        Check.due("fault(1)", x.fault(1), 5);
        Check.due("fault(2)", x.fault(2), -1);
        Check.due("fault(-1)", x.fault(-1), -1);
        Check.ask(x, 1, "often all");
        Check.due("fault(0) behind ask() of none such", x.fault(0), 2);
        x.hear();
        x.on();
        Check.due("fault(1) behind hear() and on()", x.fault(1), 5);
        Check.ask(x, 0, "often all;");
        Check.due("fault(0) of ask()", x.fault(0), 1);
        Check.due("fault(1) of ask()", x.fault(1), 9);
        Check.ask(x, 0, "often all");
        Check.due("fault(0) of ask() without", x.fault(0), 0);
        Check.due("fault(1) of ask() without", x.fault(1), -1);
    }

    private static void letters() {
        PupilsPupil x = Check.schooled("fact az worth 1;fact mnopqr worth 1;person first calm 1;");
        int[] az = {1, 26, 0, 0, 0, 0};
        int[] mnopqr = {13, 14, 15, 16, 17, 18};
        int[] first = {6, 9, 18, 19, 20, 0};
        for (int k = 0; k < 6; k++) {
            Check.due("letter(0, 0, " + k + ")", x.letter(0, 0, k), az[k]);
            Check.due("letter(0, 1, " + k + ")", x.letter(0, 1, k), mnopqr[k]);
            Check.due("letter(1, 0, " + k + ")", x.letter(1, 0, k), first[k]);
        }
        int[][] none = {{0, 0, -1}, {0, 0, 6}, {0, 2, 0}, {0, -1, 0}, {1, 1, 0}, {1, -1, 0}, {2, 0, 0}, {-1, 0, 0}};
        for (int[] of : none) {
            Check.due("letter of none such", x.letter(of[0], of[1], of[2]), -1);
        }
    }

    public static void main(String[] args) {
        fineTexts();
        wordsAndNumbers();
        numbers();
        names();
        openOnes();
        grammar();
        tooMany();
        allStaysWithAFault();
        allAnewWithout();
        faultsOfTheLatest();
        letters();
        Check.close();
    }
}
