import java.util.ArrayList;
import java.util.List;

/**
 * All that can be seen of an object in some state. A look may change what it looks at, and many need hundreds
 * of calls; so the object is made anew for each.
 */
final class Looks {
    /** Makes an object, and brings it into some state. */
    interface Start {
        Vault make();
    }

    private Looks() {
    }

    static List<String> all(Start start) {
        List<String> all = new ArrayList<>(pages(start));
        all.addAll(document(start));
        all.addAll(reader(start));
        all.addAll(feeds(start));
        return all;
    }

    /** The dots of all pages, of some beyond the last too. */
    static List<String> pages(Start start) {
        List<String> looks = new ArrayList<>();
        for (int p = 0; p < 7; p++) {
            looks.add("page " + p + " " + page(start, p));
        }
        return looks;
    }

    static String page(Start start, int page) {
        Vault vault = start.make();
        return Check.answer(() -> Vaults.picture(vault, page));
    }

    /** How long the document is, and what is read of it when it is printed. */
    static List<String> document(Start start) {
        Vault counted = start.make();
        String count = "load " + Check.answer(() -> counted.load(9)) + ", wipe " + counted.wipe();
        Vault printed = start.make();
        printed.reset();
        StringBuilder text = new StringBuilder("print " + Check.answer(printed::print));
        for (int p = 0; p < 6; p++) {
            int page = p;
            text.append(", feed ").append(Check.answer(() -> printed.feed(page, 0)));
        }
        text.append(", rebuilt ").append(Check.answer(() -> Vaults.rebuilt(printed)));
        return List.of(count, text.toString());
    }

    /** What the reader keeps, what was rebuilt, and the errors of the page that was fed last. */
    static List<String> reader(Start start) {
        Vault vault = start.make();
        return List.of("errors " + Vaults.errorsOf(vault), "missing " + vault.missing(), "out " + outs(vault),
            "rebuild " + Check.answer(vault::rebuild), "out then " + outs(vault), "reset " + vault.reset());
    }

    /** What is answered when each page is fed, turned in each way. */
    static List<String> feeds(Start start) {
        Vault vault = start.make();
        List<String> looks = new ArrayList<>();
        for (int turn = 0; turn < 24; turn++) {
            int page = turn / 4;
            int turns = turn % 4;
            looks.add("feed " + Check.answer(() -> vault.feed(page, turns)) + ", errors " + Vaults.errorsOf(vault));
        }
        looks.add("missing " + vault.missing());
        return looks;
    }

    /** Every byte that was rebuilt, and what is answered on either side of them. */
    private static String outs(Vault vault) {
        StringBuilder text = new StringBuilder();
        for (int i = -1; i <= 80; i++) {
            int at = i;
            text.append(Check.answer(() -> vault.out(at)).replace("throws.IndexOutOfBoundsException", "-")).append(' ');
        }
        return text.toString();
    }
}
