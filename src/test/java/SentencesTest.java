import java.lang.reflect.Method;
import java.util.ArrayList;
import java.util.List;

/** Each clause of the document has a test that quotes it, under its promise's number, and each quote is the document's. */
public final class SentencesTest {
    private static final Check CHECK = new Check("SentencesTest");

    public static void main(String[] args) throws ClassNotFoundException {
        Document document = new Document();
        List<String> all = new ArrayList<>();
        for (int number = 1; number <= Document.PROMISES; number++) {
            CHECK.part("promise " + number);
            List<String> quotes = quotes(number);
            for (String quote : quotes) CHECK.is("the document's own words: " + quote, document.says(quote) ? 1 : 0, 1);
            for (String clause : document.clausesOf(number)) quoted(clause, quotes);
            all.addAll(quotes);
        }
        CHECK.part("terms");
        for (String clause : document.clausesOfTerms()) quoted(clause, all);
        CHECK.end();
    }

    private static List<String> quotes(int promise) throws ClassNotFoundException {
        List<String> quotes = new ArrayList<>();
        String name = "Promise" + (promise < 10 ? "0" : "") + promise + "Test";
        for (Method method : Class.forName(name).getDeclaredMethods()) {
            Promise.Sentence sentence = method.getAnnotation(Promise.Sentence.class);
            if (sentence != null) quotes.add(sentence.value());
        }
        return quotes;
    }

    private static void quoted(String clause, List<String> quotes) {
        boolean found = false;
        for (String quote : quotes) found |= quote.contains(clause) || clause.contains(quote.replaceAll("[.;:]$", ""));
        CHECK.is("tests that quote: " + clause, found ? 1 : 0, 1);
    }
}
