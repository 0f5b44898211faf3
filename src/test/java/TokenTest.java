import java.util.ArrayList;
import java.util.List;

/** Terms 2, FAULTS, 1 what can't stand there: at each place of each text each TOKEN that there is. */
public final class TokenTest {
    private static final Check CHECK = new Check();
    private static final String NAMES = "kind much age face love purse health hunger hour rain day";
    private static final String KINDS = "news bill kiss anger invitation text joke";
    private static final String UNIT = "0 7 0012 9999 " + NAMES;
    private static final String CONDITION = UNIT + " not (";
    private static final String WORDS = "opens gives tires when or and not " + NAMES + " on to " + KINDS
        + " walk street";
    /** All that can be a TOKEN somewhere, and some that can be none. */
    private static final String[] TOKENS = (WORDS + " 0 7 0012 9999 12345 ; + - * / ( ) < = > x opensx Opens , . _ "
        + "! : \" # [ { ~ \u00e4").split(" ");

    public static void main(String[] args) {
        law();
        conditions();
        otherTexts();
        CHECK.end();
    }

    private static void law() {
        CHECK.about("THE LAW = {(opens | gives | tires) E [when B] ;}. E = T {(+ | -) T}. T = U {* U | / NUMBER}");
        canStand(0, "", "opens gives tires", true);
        canStand(0, "opens 1;", "opens gives tires", true);
        canStand(0, "opens 1 when 1 < 2;", "opens gives tires", true);
        canStand(0, "opens", UNIT, false);
        canStand(0, "gives", UNIT, false);
        canStand(0, "tires", UNIT, false);
        String[] sums = {"opens 1", "opens kind", "opens 1 + 2", "opens 1 - kind", "opens 1 * 2", "opens kind / 2",
            "opens 1 + 2 * 3 / 4", "opens 1;gives 2"};
        for (String sum : sums) {
            canStand(0, sum, "+ - * / when ;", false);
            canStand(0, sum + " +", UNIT, false);
            canStand(0, sum + " -", UNIT, false);
            canStand(0, sum + " *", UNIT, false);
            canStand(0, sum + " /", "7 0012 9999", false);
        }
    }

    private static void conditions() {
        CHECK.about("B = A {or A}. A = C {and C}. C = E (< | = | >) E | not C | ( B )");
        String[] begins = {"opens 1 when", "opens 1 when not", "opens 1 when (", "opens 1 when 1 < 2 and",
            "opens 1 when 1 < 2 or", "opens 1 when ( 1 < 2 ) and", "opens 1 when not 1 < 2 or", "opens 1 when ( not",
            "opens 1 when not (", "opens 1 when ( 1 < 2 or"};
        for (String begin : begins) {
            boolean isInside = begin.indexOf('(') > begin.indexOf(')');
            String closed = isInside ? " )" : " ;";
            canStand(0, begin, CONDITION, false);
            canStand(0, begin + " 1", "+ - * / < = >", false);
            canStand(0, begin + " kind * 2", "+ - * / < = >", false);
            canStand(0, begin + " 1 +", UNIT, false);
            canStand(0, begin + " 1 /", "7 0012 9999", false);
            canStand(0, begin + " 1 <", UNIT, false);
            told(0, begin + " 1 <= 2", begin.length() + 4, false);
            canStand(0, begin + " 1 =", UNIT, false);
            canStand(0, begin + " 1 >", UNIT, false);
            canStand(0, begin + " 1 < 2", "+ - * / and or" + closed, false);
            canStand(0, begin + " 1 = 2 - kind", "+ - * / and or" + closed, false);
            canStand(0, begin + " ( 1 > 2", "+ - * / and or )", false);
            canStand(0, begin + " ( 1 > 2 )", "and or" + closed, false);
            canStand(0, begin + " ( ( 1 > 2 )", "and or )", false);
        }
    }

    private static void otherTexts() {
        CHECK.about("POST = {on DAY to DOOR (news | ..) N ;} ROUND = {walk DOOR ;} STREETS = {street DOOR DOOR N ;}");
        canStand(1, "", "on", true);
        canStand(1, "on 1 to 0 joke 5;", "on", true);
        canStand(1, "on", "0 7 0012", false);
        canStand(1, "on 1", "to", false);
        canStand(1, "on 1 to", "0 7", false);
        canStand(1, "on 1 to 0", KINDS, false);
        for (String kind : KINDS.split(" ")) {
            canStand(1, "on 1 to 0 " + kind, "7 0012", false);
        }
        canStand(1, "on 1 to 0 joke 5", ";", false);
        canStand(2, "", "walk", true);
        canStand(2, "walk 1;", "walk", true);
        canStand(2, "walk", "0 7", false);
        canStand(2, "walk 1", ";", false);
        canStand(3, "", "street", true);
        canStand(3, "street 1 2 3;", "street", true);
        canStand(3, "street", "0 7", false);
        canStand(3, "street 1", "0 7", false);
        canStand(3, "street 1 2", "7 0012", false);
        canStand(3, "street 1 2 3", ";", false);
    }

    /** Behind these words each of the tokens can stand, and nothing else; the end, too, if it is the end of a line. */
    private static void canStand(int k, String before, String tokens, boolean isEnd) {
        List<String> can = new ArrayList<>(List.of(tokens.split(" ")));
        told(k, before, before.length(), isEnd);
        for (String token : TOKENS) {
            boolean isNumber = token.matches("[0-9]{1,4}");
            boolean isBad = isNumber && !can.contains(token) && can.stream().anyMatch(t -> t.matches("[0-9]+"));
            String text = before + " " + token;
            KindPostman x = withEightDoors();
            Words.tell(x, k, text);
            boolean stands = x.fault(0) == 0 || x.fault(1) == text.length();
            CHECK.due("whether the last can stand in text(" + k + ") of " + text, stands, can.contains(token));
            if (!can.contains(token)) {
                CHECK.due("fault(0) of " + text, x.fault(0), isBad ? 2 : 1);
                CHECK.due("fault(1) of " + text, x.fault(1), before.length() + 1);
            } else if (x.fault(0) != 0) {
                CHECK.due("the end of " + text, x.fault(0), 1);
            }
        }
    }

    private static void told(int k, String text, int end, boolean isEnd) {
        KindPostman x = withEightDoors();
        Words.tell(x, k, text);
        CHECK.due("the end of text(" + k + ") of " + text, x.fault(0), isEnd ? 0 : 1);
        CHECK.due("the place of the end of " + text, x.fault(1), isEnd ? -1 : end);
    }

    private static KindPostman withEightDoors() {
        KindPostman x = new KindPostman();
        for (int i = 0; i < 8; i++) {
            x.door(0, 0, 0);
        }
        return x;
    }
}
