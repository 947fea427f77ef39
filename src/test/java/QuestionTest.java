/** Promises 29 and 5: questions of all facts for a person, their faults. */
public final class QuestionTest {
    private static final String SCHOOL = "fact a worth 3;fact b worth 5;fact c worth 2;fact d worth 9;"
            + "person p calm 10;person q calm 40;person r calm 80;knows p a;knows p b;errs p c;knows q a;"
            + "errs q d;knows r d;tries 4;";
    private static final long NOTHING = PupilsPupil.NOTHING;

    private static void answers() {
        String[] texts = {"first all", "last all", "often all", "first worth>3", "last worth<4", "first worth>9",
            "last worth>9", "often worth>9", "often knows=1", "often errs=1", "total worth", "total number",
            "most worth", "least worth", "most number", "least number", "total knows", "total errs", "total right",
            "total wrong", "most right", "total calm", "total marks", "most left", "total year", "total by 0",
            "total by 1", "total by 2", "total by 3", "total by 9999", "total by(0-1)", "total by number",
            "total by by 2", "first by 2=1", "total worth*knows-worth*errs", "least 0-worth", "most 7",
            "often not knows=1 and not errs=1", "first[knows=1 or errs=1]and worth<3", " often\nall ",
            "last right=wrong", "total number*10+1"};
        long[] want = {0, 3, 4, 1, 2, -1, -1, 0, 2, 1, 19, 6, 9, 2, 3, 0, 2, 1, 4, 2, 2, 40, 24, 4, 0, 2,
            1, 1, 0, 0, 0, 1, 2, 3, 6, -9, 7, 1, 2, 4, 3, 64};
        PupilsPupil x = Check.schooled(SCHOOL);
        for (int k = 0; k < texts.length; k++) {
            Check.due(texts[k], Check.ask(x, 0, texts[k]), want[k]);
            Check.due("fault of " + texts[k], x.fault(0), 0);
        }
        Check.due("of q: calm", Check.ask(x, 1, "most calm"), 40);
        Check.due("of q: marks", Check.ask(x, 1, "most marks"), -6);
        Check.due("of q: errs", Check.ask(x, 1, "first errs=1"), 3);
        x.years(5);
        Check.due("year", Check.ask(x, 0, "least year"), 5);
        Check.due("left", Check.ask(x, 2, "most left"), 0);
    }

    private static void arithmetic() {
        String[] texts = {"7/2", "(0-7)/2", "7/(0-2)", "(0-7)/(0-2)", "7/0", "0/5", "2-3-4", "64/4/2", "2+3*4",
            "(2+3)*4", "7/2*2", "9999*9999", "0-9999*9999", "9999*100+9999+9999", "999999", "0-9999*100-9999-9999",
            "9999*9999-9999*9999", "9999*9999*2-1", "min(3,5)", "max(3,5)", "min(5,3)-max(2,1)", "0010",
            "max(min(1,2),min(4,3))", "(0-1)/9999", "10*(0-1)/3"};
        long[] want = {3, -4, -4, 3, 0, 0, -5, 8, 14, 20, 6, 1000000, -1000000, 1000000, NOTHING, -1000000, 0,
            999999, 3, 5, 1, 10, 3, -1, -4};
        PupilsPupil x = Check.schooled(SCHOOL);
        for (int k = 0; k < texts.length; k++) {
            Check.due(texts[k], Check.ask(x, 0, "most " + texts[k]), want[k]);
        }
        Check.due("each sum has its bounds, the total has none", Check.ask(x, 0, "total 9999*9999"), 4000000);
        Check.due("total below 0", Check.ask(x, 0, "total 0-9999*9999"), -4000000);
    }

    private static void tests() {
        String[] texts = {"1=1 or 1=1 and 1=2", "[1=1 or 1=1]and 1=2", "not 1=2", "not 1=1 or 1=1", "not[1=1 or 1=1]",
            "not 1=1 and 1=2", "1<2", "2<1", "1<1", "2>1", "1>1", "1=2", "all", "not all", "not not all",
            "1=2 or 1=2 or 1=1", "1=1 and 1=1 and 1=2"};
        int[] want = {1, 0, 1, 1, 0, 0, 1, 0, 0, 1, 0, 0, 1, 0, 1, 1, 0};
        PupilsPupil x = Check.schooled(SCHOOL);
        for (int k = 0; k < texts.length; k++) {
            Check.due(texts[k], Check.ask(x, 0, "often " + texts[k]), 4 * want[k]);
        }
    }

    private static void withoutFacts() {
        PupilsPupil x = Check.schooled("person p calm 3;");
        Check.due("first", Check.ask(x, 0, "first all"), -1);
        Check.due("last", Check.ask(x, 0, "last all"), -1);
        Check.due("often", Check.ask(x, 0, "often all"), 0);
        Check.due("total", Check.ask(x, 0, "total calm"), 0);
        Check.due("most", Check.ask(x, 0, "most calm"), 0);
        Check.due("least", Check.ask(x, 0, "least calm"), 0);
    }

    private static void fault(String text, int kind, int place) {
        PupilsPupil x = Check.schooled(SCHOOL);
        Check.due("ask <" + text + ">", Check.ask(x, 0, text), NOTHING);
        Check.due("fault of <" + text + ">", x.fault(0), kind);
        Check.due("place in <" + text + ">", x.fault(1), place);
        Check.due("not counted", x.status(1), 0);
    }

    private static void faults() {
        fault("", 1, 0);
        fault("  ", 1, 2);
        fault("often", 1, 5);
        fault("oftens all", 1, 0);
        fault("all", 1, 0);
        fault("7", 1, 0);
        fault("often all;", 1, 9);
        fault("often all all", 1, 10);
        fault("often all 12345", 1, 10);
        fault("total 12345", 1, 10);
        fault("total worth worth", 1, 12);
        fault("total abcdefghi", 1, 6);
        fault("total class", 1, 6);
        fault("total mcalm", 1, 6);
        fault("total all", 1, 6);
        fault("total 1=1", 1, 7);
        fault("often worth", 1, 11);
        fault("total by", 1, 8);
        fault("total by3", 1, 8);
        fault("total by+3", 1, 8);
        fault("total p", 1, 6);
        fault("total2", 1, 5);
        fault("total 2worth", 1, 7);
        fault("total by by by by by by by 1", 4, 24);
        fault("total by by by by by by(1)", 4, 23);
        fault("often not[not[by by(1)=1 and not all]]", 4, 19);
    }

    private static void openOnes() {
        PupilsPupil x = Check.schooled(SCHOOL);
        Check.due("six by", Check.ask(x, 0, "total by by by by by by 1"), 2);
        Check.due("by ends with its PART", Check.ask(x, 0, "total by 0+by 0+by 0+by 0+by 0+by 0+by 0"), 14);
        Check.due("not, [, by, ( together", Check.ask(x, 0, "often not[not[by by 9=1]]"), 2);
    }

    private static void longOnes() {
        PupilsPupil x = Check.schooled(SCHOOL);
        String sum = "1+".repeat(796) + "1";
        for (int k = 0; k < 4; k++) {
            Check.due("797 ones", Check.ask(x, 0, "most " + sum), 797);
            Check.due("fault", x.fault(0), 0);
        }
        Check.due("eighths of a test", Check.ask(x, 0, "often " + "1=1 and ".repeat(198) + "1=2"), 0);
        Check.due("the other way", Check.ask(x, 0, "often " + "1=2 or ".repeat(198) + "1=1"), 4);
        Check.due("deep ones", Check.ask(x, 0, "most 1+1*(1+1*(1+1*(1+1*(1+1*(1+1*(1+1*min(1,1)))))))"), NOTHING);
        Check.due("fault", x.fault(0), 4);
        Check.due("not so deep", Check.ask(x, 0, "most 1+1*(1+1*min(1,1+1*(1+1*max(1,1+1*(1+1*(1+1))))))"), 3);
    }

    private static void noneSuch() {
        PupilsPupil x = Check.schooled(SCHOOL);
        Check.due("none such", Check.ask(x, 3, "often all"), NOTHING);
        Check.due("none such", Check.ask(x, -1, "often"), NOTHING);
        Check.due("doing nothing else", x.fault(0), 0);
        Check.due("place", x.fault(1), -1);
        Check.due("not counted", x.status(1), 0);
    }

    public static void main(String[] args) {
        answers();
        arithmetic();
        tests();
        withoutFacts();
        faults();
        openOnes();
        longOnes();
        noneSuch();
        Check.close();
    }
}
