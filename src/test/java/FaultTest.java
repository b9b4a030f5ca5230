/** Promises 4 and 5: fair and rule, and the faults of their texts. */
public final class FaultTest {
    public static void main(String[] args) {
        fairs();
        fairFaults();
        fairsOfManyClauses();
        fairInPlaceOfAnother();
        rules();
        ruleFaults();
        depths();
        parts();
        ruleClauses();
        sixRules();
        Due.end();
    }

    private static void fairText(String text, int due) {
        Due.is("fair \"" + text + "\"", Due.fair(new NextStall(), text), due);
    }

    private static void ruleText(String text, int due) {
        Due.is("rule \"" + text + "\"", Due.rule(new NextStall(), text), due);
    }

    private static void fairs() {
        fairText("fair 1 0", 0);
        fairText("  fair  20   9  ", 0);
        fairText("fair1 0;stall0 1 0", 1);
        fairText("fair 00001 00000 ; stall 20 40 20 ; buyer 99 0", 1);
        fairText("fair 1 0;stall 0 1 0;buyer 0 0;stall 1 2 3;grudge 1 0;grudge 1 0;grudge 0 1", 2);
        fairText("fair 1 0" + ";stall 0 1 0".repeat(6) + ";buyer 0 5".repeat(6), 6);
    }

    private static void fairFaults() {
        fairText("", Due.fault(0, 0));
        fairText("   ", Due.fault(3, 0));
        fairText(";", Due.fault(0, 0));
        fairText("Fair 1 0", Due.fault(0, 0));
        fairText("fai", Due.fault(0, 0));
        fairText("fairs 1 0", Due.fault(0, 0));
        fairText("buy 1", Due.fault(0, 0));
        fairText("fair", Due.fault(4, 0));
        fairText("fair  ", Due.fault(6, 0));
        fairText("fair\u0000", Due.fault(4, 0));
        fairText("fair\u00ff", Due.fault(4, 0));
        fairText("fair 1", Due.fault(6, 0));
        fairText("fair x 0", Due.fault(5, 0));
        fairText("fair 1,0", Due.fault(6, 0));
        fairText("fair -1 0", Due.fault(5, 0));
        fairText("fair 0 0", Due.fault(5, 1));
        fairText("fair 21 0", Due.fault(5, 1));
        fairText("fair 1 10", Due.fault(7, 1));
        fairText("fair 000001 0", Due.fault(5, 1));
        fairText("fair 1 0 0", Due.fault(9, 0));
        fairText("fair 1 0x", Due.fault(8, 0));
        fairText("fair 1 0;", Due.fault(9, 0));
        fairText("fair 1 0;;", Due.fault(9, 0));
        fairText("fair 1 0 stall 0 1 0", Due.fault(9, 0));
        fairText("stall 0 1 0", Due.fault(0, 4));
        fairText("  buyer", Due.fault(2, 4));
        fairText("grudge 0 0", Due.fault(0, 4));
        fairText("fair 1 0;fair 1 0", Due.fault(9, 4));
        fairText("fair 1 0;stall 21 1 0", Due.fault(15, 1));
        fairText("fair 1 0;stall 0 0 0", Due.fault(17, 1));
        fairText("fair 1 0;stall 0 41 0", Due.fault(17, 1));
        fairText("fair 1 0;stall 0 1 21", Due.fault(19, 1));
        fairText("fair 1 0;stall 0 1", Due.fault(18, 0));
        fairText("fair 1 0;grudge 0 1", Due.fault(16, 1));
        fairText("fair 1 0;stall 0 1 0;grudge 0 1", Due.fault(30, 1));
        fairText("fair 1 0;stall 0 1 0;grudge 0 0", Due.fault(30, 1));
        fairText("fair 1 0;stall 0 1 0;grudge 1 1", Due.fault(28, 1));
        fairText("fair 1 0;stall 0 1 0;grudge 0", Due.fault(29, 0));
        fairText("fair 1 0;buyer 0 0", Due.fault(17, 1));
        fairText("fair 1 0;buyer 100 0", Due.fault(15, 1));
        fairText("fair 1 0;stall 0 1 0;buyer 0 1", Due.fault(29, 1));
        fairText("fair 21 0;fair 99 99", Due.fault(5, 1));
        fairText("fair 1 0" + ";stall 0 1 0".repeat(7), Due.fault(81, 4));
        fairText("fair 1 0" + ";stall 0 1 0".repeat(6) + ";stalls", Due.fault(81, 0));
        fairText("fair 1 0;stall 0 1 0" + ";buyer 0 0".repeat(7), Due.fault(81, 4));
    }

    private static void fairsOfManyClauses() {
        String forty = "fair1 0;stall0 1 0;stall0 1 0" + ";buyer0 0".repeat(6) + ";grudge0 1".repeat(31);
        fairText(forty, 2);
        fairText(forty + ";", Due.fault(394, 0));
        fairText(forty + ";grudge", Due.fault(394, 4));
        fairText(forty + ";stall", Due.fault(394, 4));
        fairText(forty + ";grudg", Due.fault(394, 0));
        fairText(forty + "; ;", Due.fault(395, 0));
    }

    private static void fairInPlaceOfAnother() {
        NextStall x = Due.of("fair 3 2;stall 4 5 6;stall 3 2 9;buyer 20 1", "buy 1");
        x.force(0);
        x.seed(77);
        x.minute();
        x.note(1, 0, 5);
        Due.is("a fault", Due.fair(x, "fair 3"), Due.fault(6, 0));
        Due.is("tape is empty behind a fault", x.count(13), 0);
        Due.is("STALLS stay", x.count(2), 2);
        Due.is("MINUTE stays", x.count(6), 1);
        Due.is("NOTES stay", x.count(10), 1);
        Due.is("ACTS stay", x.count(11), 1);
        Due.is("another fair", Due.fair(x, "fair 5 1;stall 7 8 9"), 1);
        Due.is("LONG", x.count(0), 5);
        Due.is("KEEPS", x.count(1), 1);
        Due.is("BUYERS", x.count(3), 0);
        Due.is("RULES stay", x.count(4), 1);
        Due.is("the RULE IN FORCE stays", x.count(5), 0);
        Due.is("MINUTE", x.count(6), 0);
        Due.is("NOTES", x.count(10), 0);
        Due.is("ACTS", x.count(11), 0);
        Due.is("x stays", x.count(12), 77);
        Due.is("TILL", x.stall(0, 2), 0);
        Due.is("sold", x.stall(0, 8), 0);
        Due.is("no second STALL", x.stall(1, 0), -1);
        Due.is("an empty tape", x.fair(), Due.fault(0, 0));
    }

    private static void rules() {
        ruleText("buy 1", 0);
        ruleText("buy1if1=1", 0);
        ruleText(" buy praise - price if came = 0 ; buy 00000 * 99999 / day % had + sold", 0);
        ruleText("buy 1 if not [not buyer < 1 or stall <= 2 and purse >= 3] and goods > 4 or grudge = minute", 0);
        ruleText("buy 1 if a = 1", Due.fault(9, 0));
    }

    private static void ruleFaults() {
        ruleText("", Due.fault(0, 0));
        ruleText("buy", Due.fault(3, 0));
        ruleText("buys 1", Due.fault(0, 0));
        ruleText("buypraise", Due.fault(0, 0));
        ruleText("fair 1 0", Due.fault(0, 0));
        ruleText("buy x", Due.fault(4, 0));
        ruleText("buy buy", Due.fault(4, 0));
        ruleText("buy if", Due.fault(4, 0));
        ruleText("buy -1", Due.fault(4, 0));
        ruleText("buy [1]", Due.fault(4, 0));
        ruleText("buy 5 %", Due.fault(7, 0));
        ruleText("buy 5 % *", Due.fault(8, 0));
        ruleText("buy 1 1", Due.fault(6, 0));
        ruleText("buy 1;", Due.fault(6, 0));
        ruleText("buy 1 if", Due.fault(8, 0));
        ruleText("buy 1 iff 1=1", Due.fault(6, 0));
        ruleText("buy 1 and 2", Due.fault(6, 0));
        ruleText("buy 1 = 2", Due.fault(6, 0));
        ruleText("buy 123456", Due.fault(4, 1));
        ruleText("buy 000000", Due.fault(4, 1));
        ruleText("buy 1 if 1", Due.fault(10, 0));
        ruleText("buy 1 if 1 == 2", Due.fault(12, 0));
        ruleText("buy 1 if 1 < = 2", Due.fault(13, 0));
        ruleText("buy 1 if 1 =< 2", Due.fault(12, 0));
        ruleText("buy 1 if 1 <> 2", Due.fault(12, 0));
        ruleText("buy 1 if 1 < 2 < 3", Due.fault(15, 0));
        ruleText("buy 1 if [1=1", Due.fault(13, 0));
        ruleText("buy 1 if [1=1;", Due.fault(13, 0));
        ruleText("buy 1 if []", Due.fault(10, 0));
        ruleText("buy 1 if sold = 1]", Due.fault(17, 0));
        ruleText("buy 1 if [1] = 1", Due.fault(11, 0));
        ruleText("buy 1 if 1=1 and", Due.fault(16, 0));
        ruleText("buy 1 if 1=1 andd 1=1", Due.fault(13, 0));
        ruleText("buy 1 if 1=1 or or 1=1", Due.fault(16, 0));
        ruleText("buy 1 if not", Due.fault(12, 0));
        ruleText("buy 1 if not and", Due.fault(13, 0));
        ruleText("buy 1 if 1=1 if 1=1", Due.fault(13, 0));
        ruleText("buy 1 if 1=999999 or x", Due.fault(11, 1));
        ruleText("buy Praise", Due.fault(4, 0));
        ruleText("buy price\u0000", Due.fault(9, 0));
        ruleText("buy 1\u00a0", Due.fault(5, 0));
    }

    private static void depths() {
        ruleText("buy 1 if " + "[".repeat(10) + "1=1" + "]".repeat(10), 0);
        ruleText("buy 1 if " + "[".repeat(11) + "1=1" + "]".repeat(11), Due.fault(19, 2));
        ruleText("buy 1 if " + "not ".repeat(10) + "1=1", 0);
        ruleText("buy 1 if " + "not ".repeat(11) + "1=1", Due.fault(49, 2));
        ruleText("buy 1 if " + "not [".repeat(5) + "1=1" + "]".repeat(5), 0);
        ruleText("buy 1 if " + "not [".repeat(5) + "not 1=1" + "]".repeat(5), Due.fault(34, 2));
        ruleText("buy 1 if " + "not [".repeat(5) + "[1=1]" + "]".repeat(5), Due.fault(34, 2));
        ruleText("buy 1 if " + "[".repeat(10) + "1=1" + "]".repeat(10) + " and " + "[".repeat(10) + "1=1" + "]".repeat(10), 0);
        ruleText("buy 1 if " + "not [1=1] and ".repeat(12) + "1=1", 0);
        ruleText("buy 1 if " + "[".repeat(10) + "]", Due.fault(19, 0));
    }

    private static void parts() {
        String ones = "1+".repeat(59);
        ruleText("buy " + ones + "1", 0);
        ruleText("buy " + ones + "1+1", Due.fault(124, 3));
        ruleText("buy " + ones + "1+x", Due.fault(124, 0));
        ruleText("buy " + ones + "1+123456", Due.fault(124, 1));
        ruleText("buy " + ones + "1+day", Due.fault(124, 3));
        ruleText("buy " + ones + "1;buy 1", Due.fault(128, 3));
        ruleText("buy 1 if " + "1+".repeat(58) + "1=1", Due.fault(126, 3));
        ruleText("buy 1 if " + "1+".repeat(57) + "1<=1", Due.fault(126, 3));
        ruleText("buy 1 if " + "1+".repeat(56) + "1=1", 0);
        ruleText("buy 1 if " + "1+".repeat(58) + "1", Due.fault(126, 0));
        ruleText("buy 1 if " + "1=1 or ".repeat(19) + "1=1", Due.fault(144, 3));
        ruleText("buy 1 if " + "1=1 or ".repeat(18) + "[not 1=1]", 0);
    }

    private static void ruleClauses() {
        ruleText("buy 1;".repeat(11) + "buy 1", 0);
        ruleText("buy 1;".repeat(12), Due.fault(72, 0));
        ruleText("buy 1;".repeat(12) + "buy 1", Due.fault(72, 4));
        ruleText("buy 1;".repeat(12) + " buy", Due.fault(73, 4));
        ruleText("buy 1;".repeat(12) + "bu", Due.fault(72, 0));
    }

    private static void sixRules() {
        NextStall x = new NextStall();
        for (int i = 0; i < 6; i++) {
            Due.is("a fault is no rule", Due.rule(x, "buy"), Due.fault(3, 0));
            Due.is("tape is empty behind a fault", x.count(13), 0);
            Due.is("rule", Due.rule(x, "buy 1"), i);
            Due.is("tape is empty", x.count(13), 0);
            Due.is("RULES", x.count(4), i + 1);
        }
        Due.is("a seventh", Due.rule(x, "buy 1"), -1);
        Due.is("nothing happens", x.count(13), 5);
        Due.is("a seventh with a fault", Due.rule(x, "buy"), -1);
        Due.is("RULES", x.count(4), 6);
        Due.is("none IN FORCE", x.count(5), -1);
    }
}
