import java.io.IOException;
import java.nio.file.Path;
import java.util.function.Consumer;

/**
 * Every sentence of the document's terms and promises, with tests of its own that quote it. It fails as well if the
 * document has words there that no test quotes, or a test quotes what the document doesn't say.
 */
public final class SentencesTest {
    private static final Path DOCUMENT = Path.of("..", "shared", "DOC.md");

    public static void main(String[] args) throws IOException {
        part("What it is", PromisesOnTheResult::use);
        part("Terms", terms -> {
            TermsOnTables.all(terms);
            TermsOnTheDraft.all(terms);
            TermsOnTheResult.all(terms);
        });
        part("Promise 1: A new object", PromisesOnConstraints::newObject);
        part("Promise 2: constrain", PromisesOnConstraints::constrain);
        part("Promise 3: insert", PromisesOnStatements::insert);
        part("Promise 4: erase", PromisesOnStatements::erase);
        part("Promise 5: change", PromisesOnStatements::change);
        part("Promise 6: begin", PromisesOnTransactions::begin);
        part("Promise 7: end", PromisesOnTransactions::end);
        part("Promise 8: source", PromisesOnTheDraft::source);
        part("Promise 9: condition", PromisesOnTheDraft::condition);
        part("Promise 10: output", PromisesOnTheDraft::output);
        part("Promise 11: key", PromisesOnTheDraft::key);
        part("Promise 12: limit", PromisesOnTheDraft::limit);
        part("Promise 13: wipe", PromisesOnTheDraft::wipe);
        part("Promise 14: run", PromisesOnTheResult::run);
        part("Promise 15: cell", PromisesOnTheResult::cell);
        part("Promise 16: rows", PromisesOnTheResult::rows);
        part("Promise 17: value", PromisesOnTheResult::value);
        Due.end("SentencesTest");
    }

    private static void part(String heading, Consumer<Sentences> tests) throws IOException {
        Sentences sentences = new Sentences(DOCUMENT, heading);
        tests.accept(sentences);
        sentences.end();
    }
}
