/** Every promise of the document, sentence by sentence. */
public final class PromisesTest {
  public static void main(String[] args) {
    UseCases.run();
    BorderCases.run();
    MinuteCases.run();
    WhichCases.run();
    ChangeCases.run();
    ComerCases.run();
    NewsCases.run();
    ImageCases.run();
    ShelfCases.run();
    Check.saysNoMore();
    Doc.tellUnnamed();
    Check.end();
  }
}
