/** Promise 5, the text of a RULE: what is taken and what is refused, 12 CLAUSES, 10 deep, 60 VALUES and FACTS. */
public final class Promise05RuleTextTest {
    private static final String[] WORDS = {"buyer", "stall", "purse", "price", "praise", "came", "goods", "sold", "had",
        "grudge", "minute", "day"};

    public static void main(String[] args) {
        twelveClauses();
        tenDeep();
        tenDeepAgain();
        sixtyValues();
        sixtyWithFacts();
        oneToFiveDigits();
        twelveWords();
        wordsGoOn();
        everyLetterCounts();
        signs();
        anEmptySumOrTest();
        blanks();
        brackets();
        fourHundredBytes();
        nothingOfAnEarlierText();
        Due.end();
    }

    private static void twelveClauses() {
        String eleven = "buy 1 if 1=1;".repeat(11);
        Edge.ruleTaken("buy 1");
        Edge.ruleTaken(eleven + "buy 1");
        String twelve = eleven + "buy 1;";
        Edge.ruleFault(twelve, "buy 1", 4);
        Edge.ruleFault(twelve + "  ", "buy", 4);
        Edge.ruleFault(twelve, "bu", 0);
        Edge.ruleFault(twelve, "buyer", 0);
        Edge.ruleFault(twelve, "", 0);
        Edge.ruleFault(twelve, ";", 0);
        Edge.ruleFault(eleven, "", 0);
    }

    private static void tenDeep() {
        Edge.ruleTaken("buy 1 if " + "[".repeat(10) + "1=1" + "]".repeat(10));
        Edge.ruleFault("buy 1 if " + "[".repeat(10), "[1=1" + "]".repeat(11), 2);
        Edge.ruleTaken("buy 1 if " + "not ".repeat(10) + "1=1");
        Edge.ruleFault("buy 1 if " + "not ".repeat(10), "not 1=1", 2);
        Edge.ruleTaken("buy 1 if " + "not [".repeat(5) + "1=1" + "]".repeat(5));
        Edge.ruleFault("buy 1 if " + "not [".repeat(5), "not 1=1" + "]".repeat(5), 2);
        Edge.ruleFault("buy 1 if " + "not [".repeat(5), "[1=1]" + "]".repeat(5), 2);
        Edge.ruleFault("buy 1 if " + "[not ".repeat(5) + "  ", "[", 2);
        Edge.ruleFault("buy 1 if " + "[not ".repeat(5), "not", 2);
        Edge.ruleFault("buy 1 if " + "[".repeat(10), "nots", 0);
        Edge.ruleFault("buy 1 if " + "[".repeat(10), "", 0);
        Edge.ruleFault("buy 1 if " + "[".repeat(10), "]", 0);
    }

    /** What lies beside does not lie within. */
    private static void tenDeepAgain() {
        String deep = "[".repeat(10) + "1=1" + "]".repeat(10);
        Edge.ruleTaken("buy 1 if " + deep + " and " + deep + " or " + deep);
        Edge.ruleTaken("buy 1 if " + "not [1=1] and ".repeat(14) + "not 1=1");
        Edge.ruleTaken("buy 1 if " + deep + ";buy 2 if " + deep);
        Edge.ruleFault("buy 1 if " + deep + " and " + "[".repeat(10), "[", 2);
        Edge.ruleFault("buy 1 if [" + "[".repeat(9) + "1=1 and ", "[1=1]", 2);
        Edge.ruleTaken("buy 1 if " + "[".repeat(9) + "1=1 and [1=1]" + "]".repeat(9));
    }

    private static void sixtyValues() {
        String ones = "buy " + "1+".repeat(58);
        Edge.ruleTaken(ones + "1");
        Edge.ruleTaken(ones + "1+1");
        Edge.ruleFault(ones + "1+1+", "1", 3);
        Edge.ruleFault(ones + "1+1+   ", "praise", 3);
        Edge.ruleFault(ones + "1+1*", "1", 3);
        Edge.ruleFault(ones + "1+1;buy ", "1", 3);
        Edge.ruleFault(ones + "1+1 if ", "1=1", 3);
        Edge.ruleFault(ones + "1+1+", "x", 0);
        Edge.ruleFault(ones + "1+1+", "123456", 1);
        Edge.ruleFault(ones + "1+1+", "", 0);
    }

    private static void sixtyWithFacts() {
        // The first VALUE, so many of the TEST, its SIGN and the last VALUE.
        String ahead = "buy 1 if " + "1+".repeat(56);
        Edge.ruleTaken(ahead + "1=1");
        Edge.ruleFault(ahead + "1=1+", "1", 3);
        Edge.ruleFault(ahead + "1+1=", "1", 3);
        Edge.ruleFault(ahead + "1+1+1", "=1", 3);
        Edge.ruleFault(ahead + "1+1+1 ", "<=1", 3);
        Edge.ruleFault(ahead + "1+1+1", ";", 0);
        Edge.ruleFault(ahead + "1+1+1", "", 0);
        // One VALUE, then three of each FACT: the SIGN of the twentieth is the last of 60.
        String facts = "buy 1 if " + "1=1 or ".repeat(19) + "1";
        Edge.ruleFault(facts + "=", "1", 3);
        Edge.ruleFault(facts + "+1", "=1", 3);
        Edge.ruleFault(facts + "+1", "", 0);
        Edge.ruleTaken("buy 1 if " + "1=1 or ".repeat(18) + "not [[1=1]]");
        Edge.ruleTaken("buy 1+1+1 if " + "1=1 or ".repeat(18) + "not [[1=1]]");
        Edge.ruleFault("buy 1+1+1+1 if " + "1=1 or ".repeat(18) + "not [[1=", "1]]", 3);
    }

    private static void oneToFiveDigits() {
        Edge.ruleTaken("buy 0");
        Edge.ruleTaken("buy 00000");
        Edge.ruleTaken("buy 99999");
        Edge.ruleFault("buy ", "000000", 1);
        Edge.ruleFault("buy ", "100000", 1);
        Edge.ruleFault("buy ", "99999999999999999999", 1);
        Edge.ruleFault("buy 1 if 1=", "123456", 1);
        Edge.ruleFault("buy 1 if ", "123456", 1);
        Edge.ruleFault("buy 1 ", "2", 0);
        NextStall x = Edge.ruledBy(Edge.ONE_A_DAY, "buy 1 if 99999 - 99998 = 1 and 00010 = 10 and 99999 > 65535");
        Due.is("their worth", x.minute(), 1);
    }

    private static void twelveWords() {
        for (String word : WORDS) {
            Edge.ruleTaken("buy " + word);
            Edge.ruleTaken("buy 1 if " + word + "=" + word);
            Edge.ruleFault("buy ", word + "s", 0);
            Edge.ruleFault("buy ", word.substring(0, word.length() - 1), 0);
        }
        for (String word : new String[] {"buy", "if", "or", "and", "not", "fair", "tongue", "wealth", "till", "x"}) {
            Edge.ruleFault("buy ", word, 0);
        }
    }

    private static void wordsGoOn() {
        Edge.ruleFault("", "buyprice", 0);
        Edge.ruleFault("", "buyer 1", 0);
        Edge.ruleFault("buy ", "pricepraise", 0);
        Edge.ruleFault("buy price ", "praise", 0);
        Edge.ruleFault("buy 1", "day", 0);
        Edge.ruleFault("buy price", "1", 0);
        Edge.ruleFault("buy 1 ", "ifday=1", 0);
        Edge.ruleFault("buy 1 if ", "notday=1", 0);
        Edge.ruleFault("buy 1 if 1=1 ", "orday=1", 0);
        Edge.ruleFault("buy 1 if 1=1 ", "andday=1", 0);
        Edge.ruleFault("buy ", "PRICE", 0);
        Edge.ruleFault("buy ", "Price", 0);
        Edge.ruleFault("buy ", "pricE", 0);
    }

    private static void everyLetterCounts() {
        for (String word : WORDS) {
            for (String other : Edge.misspelt(word)) {
                Edge.ruleFault("buy ", other, 0);
            }
            Edge.ruleFault("buy ", word + "a", 0);
            Edge.ruleFault("buy ", word + "z", 0);
        }
        for (String word : Edge.misspelt("buy")) {
            Edge.ruleFault("", word + " 1", 0);
        }
        for (String word : Edge.misspelt("if")) {
            Edge.ruleFault("buy 1 ", word + " 1=1", 0);
        }
        for (String word : Edge.misspelt("not")) {
            Edge.ruleFault("buy 1 if ", word + " 1=1", 0);
        }
        for (String word : Edge.misspelt("and")) {
            Edge.ruleFault("buy 1 if 1=1 ", word + " 1=1", 0);
        }
        for (String word : Edge.misspelt("or")) {
            Edge.ruleFault("buy 1 if 1=1 ", word + " 1=1", 0);
        }
    }

    private static void signs() {
        for (String sign : new String[] {"<", "<=", "=", ">=", ">"}) {
            Edge.ruleTaken("buy 1 if 1" + sign + "1");
            Edge.ruleFault("buy 1 if 1" + sign, "", 0);
            Edge.ruleFault("buy 1 if ", sign + "1", 0);
            Edge.ruleFault("buy 1 ", sign + "1", 0);
        }
        Edge.ruleFault("buy 1 if 1=", "=1", 0);
        Edge.ruleFault("buy 1 if 1=", "<1", 0);
        Edge.ruleFault("buy 1 if 1=", ">1", 0);
        Edge.ruleFault("buy 1 if 1<", ">1", 0);
        Edge.ruleFault("buy 1 if 1>", "<1", 0);
        Edge.ruleFault("buy 1 if 1<=", "=1", 0);
        Edge.ruleFault("buy 1 if 1< ", "=1", 0);
        Edge.ruleFault("buy 1 if 1", "!=1", 0);
        Edge.ruleFault("buy 1 if 1 ", "1", 0);
        Edge.ruleFault("buy 1 if 1 ", "day", 0);
        Edge.ruleFault("buy 1 if price ", "praise", 0);
        Edge.ruleFault("buy 1 if 1 ", "and 1=1", 0);
        Edge.ruleFault("buy 1 if 1=1", "=1", 0);
        for (String sign : new String[] {"+", "-", "*", "/", "%"}) {
            Edge.ruleTaken("buy 1" + sign + "1");
            Edge.ruleFault("buy 1" + sign, "", 0);
            Edge.ruleFault("buy ", sign + "1", 0);
            Edge.ruleFault("buy 1" + sign, sign + "1", 0);
            Edge.ruleFault("buy 1" + sign, "-1", 0);
        }
    }

    private static void anEmptySumOrTest() {
        Edge.ruleFault("", "", 0);
        Edge.ruleFault("buy", "", 0);
        Edge.ruleFault("buy ", ";", 0);
        Edge.ruleFault("buy ", "if 1=1", 0);
        Edge.ruleFault("buy 1 if", "", 0);
        Edge.ruleFault("buy 1 if", ";", 0);
        Edge.ruleFault("buy 1 if 1=1 and", "", 0);
        Edge.ruleFault("buy 1 if 1=1 or", ";", 0);
        Edge.ruleFault("buy 1 if 1=1 and ", "or 1=1", 0);
        Edge.ruleFault("buy 1 if not", "", 0);
        Edge.ruleFault("buy 1 if [", "]", 0);
        Edge.ruleFault("buy 1;", "", 0);
        Edge.ruleFault("buy 1;", ";buy 1", 0);
        Edge.ruleFault("", ";", 0);
        Edge.ruleFault("   ", "", 0);
    }

    private static void blanks() {
        Edge.ruleTaken("buy1if1<2and2<3or[not[1=1]]and 1=1;buy day");
        Edge.ruleTaken("   buy   1   +   2   if   not   [   1   <=   1   ]   ;   buy   1   ");
        Edge.ruleFault("buy", "\t1", 0);
        Edge.ruleFault("buy 1", "\n", 0);
        Edge.ruleFault("buy 1", "\u00a0", 0);
        Edge.ruleFault("buy 1", "\u0000", 0);
        Edge.ruleFault("buy 1 ", "2", 0);
        Edge.ruleFault("", "b uy 1", 0);
    }

    private static void brackets() {
        Edge.ruleFault("buy ", "[1]", 0);
        Edge.ruleFault("buy 1 if [1", "]=1", 0);
        Edge.ruleFault("buy 1 if [1=1", "", 0);
        Edge.ruleFault("buy 1 if [1=1", ";", 0);
        Edge.ruleFault("buy 1 if 1=1", "]", 0);
        Edge.ruleFault("buy 1 if [1=1]", "]", 0);
        Edge.ruleFault("buy 1 if [1=1]", "[1=1]", 0);
        Edge.ruleFault("buy 1 if ", "(1=1)", 0);
    }

    private static void fourHundredBytes() {
        Edge.ruleTaken("buy 1 if 1=1" + " ".repeat(380) + "or 1=day");
        Edge.ruleFault("buy 1 if 1=1" + " ".repeat(380) + "or 1=", "dax", 0);
        Edge.ruleFault("buy 1 if 1=1" + " ".repeat(383) + "or 1=", "", 0);
    }

    /** A text ends where it ends, whatever longer one was read ahead of it. */
    private static void nothingOfAnEarlierText() {
        String text = "buy 11 if 11<=11 and not [12>=day or price=11];buy praise*11";
        for (int n = 0; n <= text.length(); n++) {
            NextStall x = new NextStall();
            Due.rule(x, text);
            int due = Due.rule(new NextStall(), text.substring(0, n));
            Due.is("the first " + n + " bytes", Due.rule(x, text.substring(0, n)), due == 0 ? 1 : due);
        }
        NextStall x = new NextStall();
        Due.rule(x, text);
        Due.is("a sign that is cut", Due.rule(x, "buy 11 if 11<"), Due.fault(13, 0));
        Due.is("a word that is cut", Due.rule(x, "bu"), Due.fault(0, 0));
        Due.is("a bracket that is missing", Due.rule(x, text.substring(0, 45)), Due.fault(45, 0));
    }
}
